/-! ===== blocks: yL_put .. yL_law ===== -/
theorem b275_0 {h : HP} {I : Nat → Int → Int} {x1 : Int} {v3 : MV} (p0 : LX 10 h 1) : Go 275 0 [.inr (.inl (some 1)), .inl x1, .inr (.inl (some 139)), v3] [] (mI h I) = cal 275 4 [.inr (.inl (some 1)), .inl x1, .inr (.inl (some 139)), v3] [.inl 0, .inr (.inl (some 139))] 5 (Go 99 0 [.inr (.inl (some 1)), .inl x1] [] (mI h I)) := by
  refine (Go_aload (h := mI h I) (y := 275) (ip := 0) (a := 0) (b := 2) (c := 0) (by decide +kernel) rfl).trans ?_
  refine (Go_const (h := mI h I) (y := 275) (ip := 1) (a := 0) (b := 0) (c := 0) (by decide +kernel)).trans ?_
  refine (Go_aload (h := mI h I) (y := 275) (ip := 2) (a := 0) (b := 0) (c := 0) (by decide +kernel) rfl).trans ?_
  refine (Go_iload (h := mI h I) (y := 275) (ip := 3) (a := 0) (b := 1) (c := 0) (by decide +kernel) rfl).trans ?_
  refine (Go_call3 (h := mI h I) (y := 275) (ip := 4) (pc := 4) (a := 232) (z := 99) (c := 0) (as := [.inr (.inl (some 1)), .inl x1]) (rest := [.inl 0, .inr (.inl (some 139))]) (by decide +kernel) (by decide +kernel) rfl rfl (zrecv_v rfl (LX_t p0)) rfl).trans ?_
  rfl

theorem b275_5 {h : HP} {I : Nat → Int → Int} {x1 : Int} {v3 : MV} {sx1 : Int} {sx2 : Int} (p0 : hK h 139 = (2, 1)) (p1 : 0 ≤ sx1 ∧ sx1 < 1) : Go 275 5 [.inr (.inl (some 1)), .inl x1, .inr (.inl (some 139)), v3] [.inl sx2, .inl sx1, .inr (.inl (some 139))] (mI h I) = Go 275 14 [.inr (.inl (some 1)), .inl x1, .inr (.inl (some 139)), v3] [] (mI h (zu2 I 139 sx1 sx2)) := by
  refine (Go_i2l (h := mI h I) (y := 275) (ip := 5) (a := 0) (b := 0) (c := 0) (by decide +kernel)).trans ?_
  refine (Go_stl (h := mI h I) (y := 275) (ip := 6) (a := 0) (c := 0) (by decide +kernel) (p0) p1).trans ?_
  refine (Go_goto (h := mI h (zu2 I 139 sx1 sx2)) (y := 275) (ip := 7) (a := 0) (b := 0) (c := 14) (by decide +kernel)).trans ?_
  rfl

theorem b275_8 {h : HP} {I : Nat → Int → Int} {x1 : Int} {v3 : MV} {sr0 : Option Nat} : Go 275 8 [.inr (.inl (some 1)), .inl x1, .inr (.inl (some 139)), v3] [.inr (.inl sr0)] (mI h I) = some (mI h I, .inl (some (.inl 1))) := by
  refine (Go_astore (h := mI h I) (y := 275) (ip := 8) (a := 0) (b := 3) (c := 0) (by decide +kernel) rfl).trans ?_
  refine (Go_const (h := mI h I) (y := 275) (ip := 9) (a := 1) (b := 0) (c := 0) (by decide +kernel)).trans ?_
  refine (Go_iret (h := mI h I) (y := 275) (ip := 10) (a := 0) (b := 0) (c := 0) (by decide +kernel) (Or.inl rfl)).trans ?_
  rfl

theorem b275_11 {h : HP} {I : Nat → Int → Int} {x1 : Int} {v3 : MV} {sr0 : Option Nat} : Go 275 11 [.inr (.inl (some 1)), .inl x1, .inr (.inl (some 139)), v3] [.inr (.inl sr0)] (mI h I) = some (mI h I, .inl (some (.inl 2))) := by
  refine (Go_astore (h := mI h I) (y := 275) (ip := 11) (a := 0) (b := 3) (c := 0) (by decide +kernel) rfl).trans ?_
  refine (Go_const (h := mI h I) (y := 275) (ip := 12) (a := 2) (b := 0) (c := 0) (by decide +kernel)).trans ?_
  refine (Go_iret (h := mI h I) (y := 275) (ip := 13) (a := 0) (b := 0) (c := 0) (by decide +kernel) (Or.inl rfl)).trans ?_
  rfl

theorem b275_14 {h : HP} {I : Nat → Int → Int} {x1 : Int} {v3 : MV} : Go 275 14 [.inr (.inl (some 1)), .inl x1, .inr (.inl (some 139)), v3] [] (mI h I) = some (mI h I, .inl (some (.inl 0))) := by
  refine (Go_const (h := mI h I) (y := 275) (ip := 14) (a := 0) (b := 0) (c := 0) (by decide +kernel)).trans ?_
  refine (Go_iret (h := mI h I) (y := 275) (ip := 15) (a := 0) (b := 0) (c := 0) (by decide +kernel) (Or.inl rfl)).trans ?_
  rfl

theorem b276_0 {h : HP} {I : Nat → Int → Int} {x1 : Int} {v3 : MV} (p0 : LX 10 h 1) : Go 276 0 [.inr (.inl (some 1)), .inl x1, .inr (.inl (some 139)), v3] [] (mI h I) = cal 276 4 [.inr (.inl (some 1)), .inl x1, .inr (.inl (some 139)), v3] [.inl 0, .inr (.inl (some 139))] 5 (Go 101 0 [.inr (.inl (some 1)), .inl x1, vU, vU] [] (mI h I)) := by
  refine (Go_aload (h := mI h I) (y := 276) (ip := 0) (a := 0) (b := 2) (c := 0) (by decide +kernel) rfl).trans ?_
  refine (Go_const (h := mI h I) (y := 276) (ip := 1) (a := 0) (b := 0) (c := 0) (by decide +kernel)).trans ?_
  refine (Go_aload (h := mI h I) (y := 276) (ip := 2) (a := 0) (b := 0) (c := 0) (by decide +kernel) rfl).trans ?_
  refine (Go_iload (h := mI h I) (y := 276) (ip := 3) (a := 0) (b := 1) (c := 0) (by decide +kernel) rfl).trans ?_
  refine (Go_call3 (h := mI h I) (y := 276) (ip := 4) (pc := 4) (a := 233) (z := 101) (c := 0) (as := [.inr (.inl (some 1)), .inl x1]) (rest := [.inl 0, .inr (.inl (some 139))]) (by decide +kernel) (by decide +kernel) rfl rfl (zrecv_v rfl (LX_t p0)) rfl).trans ?_
  rfl

theorem b276_5 {h : HP} {I : Nat → Int → Int} {x1 : Int} {v3 : MV} {sx1 : Int} {sx2 : Int} (p0 : hK h 139 = (2, 1)) (p1 : 0 ≤ sx1 ∧ sx1 < 1) : Go 276 5 [.inr (.inl (some 1)), .inl x1, .inr (.inl (some 139)), v3] [.inl sx2, .inl sx1, .inr (.inl (some 139))] (mI h I) = Go 276 17 [.inr (.inl (some 1)), .inl x1, .inr (.inl (some 139)), v3] [] (mI h (zu2 I 139 sx1 sx2)) := by
  refine (Go_i2l (h := mI h I) (y := 276) (ip := 5) (a := 0) (b := 0) (c := 0) (by decide +kernel)).trans ?_
  refine (Go_stl (h := mI h I) (y := 276) (ip := 6) (a := 0) (c := 0) (by decide +kernel) (p0) p1).trans ?_
  refine (Go_goto (h := mI h (zu2 I 139 sx1 sx2)) (y := 276) (ip := 7) (a := 0) (b := 0) (c := 17) (by decide +kernel)).trans ?_
  rfl

theorem b276_8 {h : HP} {I : Nat → Int → Int} {x1 : Int} {v3 : MV} {sr0 : Option Nat} : Go 276 8 [.inr (.inl (some 1)), .inl x1, .inr (.inl (some 139)), v3] [.inr (.inl sr0)] (mI h I) = some (mI h I, .inl (some (.inl 1))) := by
  refine (Go_astore (h := mI h I) (y := 276) (ip := 8) (a := 0) (b := 3) (c := 0) (by decide +kernel) rfl).trans ?_
  refine (Go_const (h := mI h I) (y := 276) (ip := 9) (a := 1) (b := 0) (c := 0) (by decide +kernel)).trans ?_
  refine (Go_iret (h := mI h I) (y := 276) (ip := 10) (a := 0) (b := 0) (c := 0) (by decide +kernel) (Or.inl rfl)).trans ?_
  rfl

theorem b276_11 {h : HP} {I : Nat → Int → Int} {x1 : Int} {v3 : MV} {sr0 : Option Nat} : Go 276 11 [.inr (.inl (some 1)), .inl x1, .inr (.inl (some 139)), v3] [.inr (.inl sr0)] (mI h I) = some (mI h I, .inl (some (.inl 2))) := by
  refine (Go_astore (h := mI h I) (y := 276) (ip := 11) (a := 0) (b := 3) (c := 0) (by decide +kernel) rfl).trans ?_
  refine (Go_const (h := mI h I) (y := 276) (ip := 12) (a := 2) (b := 0) (c := 0) (by decide +kernel)).trans ?_
  refine (Go_iret (h := mI h I) (y := 276) (ip := 13) (a := 0) (b := 0) (c := 0) (by decide +kernel) (Or.inl rfl)).trans ?_
  rfl

theorem b276_14 {h : HP} {I : Nat → Int → Int} {x1 : Int} {v3 : MV} {sr0 : Option Nat} : Go 276 14 [.inr (.inl (some 1)), .inl x1, .inr (.inl (some 139)), v3] [.inr (.inl sr0)] (mI h I) = some (mI h I, .inl (some (.inl 3))) := by
  refine (Go_astore (h := mI h I) (y := 276) (ip := 14) (a := 0) (b := 3) (c := 0) (by decide +kernel) rfl).trans ?_
  refine (Go_const (h := mI h I) (y := 276) (ip := 15) (a := 3) (b := 0) (c := 0) (by decide +kernel)).trans ?_
  refine (Go_iret (h := mI h I) (y := 276) (ip := 16) (a := 0) (b := 0) (c := 0) (by decide +kernel) (Or.inl rfl)).trans ?_
  rfl

theorem b276_17 {h : HP} {I : Nat → Int → Int} {x1 : Int} {v3 : MV} : Go 276 17 [.inr (.inl (some 1)), .inl x1, .inr (.inl (some 139)), v3] [] (mI h I) = some (mI h I, .inl (some (.inl 0))) := by
  refine (Go_const (h := mI h I) (y := 276) (ip := 17) (a := 0) (b := 0) (c := 0) (by decide +kernel)).trans ?_
  refine (Go_iret (h := mI h I) (y := 276) (ip := 18) (a := 0) (b := 0) (c := 0) (by decide +kernel) (Or.inl rfl)).trans ?_
  rfl

theorem b277_0 {h : HP} {I : Nat → Int → Int} {x1 : Int} {v3 : MV} (p0 : LX 10 h 1) : Go 277 0 [.inr (.inl (some 1)), .inl x1, .inr (.inl (some 139)), v3] [] (mI h I) = cal 277 4 [.inr (.inl (some 1)), .inl x1, .inr (.inl (some 139)), v3] [.inl 0, .inr (.inl (some 139))] 5 (Go 102 0 [.inr (.inl (some 1)), .inl x1, vU, vU] [] (mI h I)) := by
  refine (Go_aload (h := mI h I) (y := 277) (ip := 0) (a := 0) (b := 2) (c := 0) (by decide +kernel) rfl).trans ?_
  refine (Go_const (h := mI h I) (y := 277) (ip := 1) (a := 0) (b := 0) (c := 0) (by decide +kernel)).trans ?_
  refine (Go_aload (h := mI h I) (y := 277) (ip := 2) (a := 0) (b := 0) (c := 0) (by decide +kernel) rfl).trans ?_
  refine (Go_iload (h := mI h I) (y := 277) (ip := 3) (a := 0) (b := 1) (c := 0) (by decide +kernel) rfl).trans ?_
  refine (Go_call3 (h := mI h I) (y := 277) (ip := 4) (pc := 4) (a := 234) (z := 102) (c := 0) (as := [.inr (.inl (some 1)), .inl x1]) (rest := [.inl 0, .inr (.inl (some 139))]) (by decide +kernel) (by decide +kernel) rfl rfl (zrecv_v rfl (LX_t p0)) rfl).trans ?_
  rfl

theorem b277_5 {h : HP} {I : Nat → Int → Int} {x1 : Int} {v3 : MV} {sx1 : Int} {sx2 : Int} (p0 : hK h 139 = (2, 1)) (p1 : 0 ≤ sx1 ∧ sx1 < 1) : Go 277 5 [.inr (.inl (some 1)), .inl x1, .inr (.inl (some 139)), v3] [.inl sx2, .inl sx1, .inr (.inl (some 139))] (mI h I) = Go 277 17 [.inr (.inl (some 1)), .inl x1, .inr (.inl (some 139)), v3] [] (mI h (zu2 I 139 sx1 sx2)) := by
  refine (Go_i2l (h := mI h I) (y := 277) (ip := 5) (a := 0) (b := 0) (c := 0) (by decide +kernel)).trans ?_
  refine (Go_stl (h := mI h I) (y := 277) (ip := 6) (a := 0) (c := 0) (by decide +kernel) (p0) p1).trans ?_
  refine (Go_goto (h := mI h (zu2 I 139 sx1 sx2)) (y := 277) (ip := 7) (a := 0) (b := 0) (c := 17) (by decide +kernel)).trans ?_
  rfl

theorem b277_8 {h : HP} {I : Nat → Int → Int} {x1 : Int} {v3 : MV} {sr0 : Option Nat} : Go 277 8 [.inr (.inl (some 1)), .inl x1, .inr (.inl (some 139)), v3] [.inr (.inl sr0)] (mI h I) = some (mI h I, .inl (some (.inl 1))) := by
  refine (Go_astore (h := mI h I) (y := 277) (ip := 8) (a := 0) (b := 3) (c := 0) (by decide +kernel) rfl).trans ?_
  refine (Go_const (h := mI h I) (y := 277) (ip := 9) (a := 1) (b := 0) (c := 0) (by decide +kernel)).trans ?_
  refine (Go_iret (h := mI h I) (y := 277) (ip := 10) (a := 0) (b := 0) (c := 0) (by decide +kernel) (Or.inl rfl)).trans ?_
  rfl

theorem b277_11 {h : HP} {I : Nat → Int → Int} {x1 : Int} {v3 : MV} {sr0 : Option Nat} : Go 277 11 [.inr (.inl (some 1)), .inl x1, .inr (.inl (some 139)), v3] [.inr (.inl sr0)] (mI h I) = some (mI h I, .inl (some (.inl 2))) := by
  refine (Go_astore (h := mI h I) (y := 277) (ip := 11) (a := 0) (b := 3) (c := 0) (by decide +kernel) rfl).trans ?_
  refine (Go_const (h := mI h I) (y := 277) (ip := 12) (a := 2) (b := 0) (c := 0) (by decide +kernel)).trans ?_
  refine (Go_iret (h := mI h I) (y := 277) (ip := 13) (a := 0) (b := 0) (c := 0) (by decide +kernel) (Or.inl rfl)).trans ?_
  rfl

theorem b277_14 {h : HP} {I : Nat → Int → Int} {x1 : Int} {v3 : MV} {sr0 : Option Nat} : Go 277 14 [.inr (.inl (some 1)), .inl x1, .inr (.inl (some 139)), v3] [.inr (.inl sr0)] (mI h I) = some (mI h I, .inl (some (.inl 3))) := by
  refine (Go_astore (h := mI h I) (y := 277) (ip := 14) (a := 0) (b := 3) (c := 0) (by decide +kernel) rfl).trans ?_
  refine (Go_const (h := mI h I) (y := 277) (ip := 15) (a := 3) (b := 0) (c := 0) (by decide +kernel)).trans ?_
  refine (Go_iret (h := mI h I) (y := 277) (ip := 16) (a := 0) (b := 0) (c := 0) (by decide +kernel) (Or.inl rfl)).trans ?_
  rfl

theorem b277_17 {h : HP} {I : Nat → Int → Int} {x1 : Int} {v3 : MV} : Go 277 17 [.inr (.inl (some 1)), .inl x1, .inr (.inl (some 139)), v3] [] (mI h I) = some (mI h I, .inl (some (.inl 0))) := by
  refine (Go_const (h := mI h I) (y := 277) (ip := 17) (a := 0) (b := 0) (c := 0) (by decide +kernel)).trans ?_
  refine (Go_iret (h := mI h I) (y := 277) (ip := 18) (a := 0) (b := 0) (c := 0) (by decide +kernel) (Or.inl rfl)).trans ?_
  rfl

theorem b278_0 {h : HP} {I : Nat → Int → Int} {x1 : Int} {x2 : Int} {x3 : Int} {x4 : Int} {x5 : Int} {v7 : MV} (p0 : LX 10 h 1) : Go 278 0 [.inr (.inl (some 1)), .inl x1, .inl x2, .inl x3, .inl x4, .inl x5, .inr (.inl (some 139)), v7] [] (mI h I) = cal 278 11 [.inr (.inl (some 1)), .inl x1, .inl x2, .inl x3, .inl x4, .inl x5, .inr (.inl (some 139)), v7] [.inl 0, .inr (.inl (some 139))] 9 (Go 103 0 [.inr (.inl (some 1)), .inl x1, .inl x2, .inl x3, .inl x4, .inl x5, vU, vU, vU, vU] [] (mI h I)) := by
  refine (Go_aload (h := mI h I) (y := 278) (ip := 0) (a := 0) (b := 6) (c := 0) (by decide +kernel) rfl).trans ?_
  refine (Go_const (h := mI h I) (y := 278) (ip := 1) (a := 0) (b := 0) (c := 0) (by decide +kernel)).trans ?_
  refine (Go_aload (h := mI h I) (y := 278) (ip := 2) (a := 0) (b := 0) (c := 0) (by decide +kernel) rfl).trans ?_
  refine (Go_iload (h := mI h I) (y := 278) (ip := 3) (a := 0) (b := 1) (c := 0) (by decide +kernel) rfl).trans ?_
  refine (Go_iload (h := mI h I) (y := 278) (ip := 4) (a := 0) (b := 2) (c := 0) (by decide +kernel) rfl).trans ?_
  refine (Go_iload (h := mI h I) (y := 278) (ip := 5) (a := 0) (b := 3) (c := 0) (by decide +kernel) rfl).trans ?_
  refine (Go_iload (h := mI h I) (y := 278) (ip := 6) (a := 0) (b := 4) (c := 0) (by decide +kernel) rfl).trans ?_
  refine (Go_iload (h := mI h I) (y := 278) (ip := 7) (a := 0) (b := 5) (c := 0) (by decide +kernel) rfl).trans ?_
  refine (Go_call3 (h := mI h I) (y := 278) (ip := 8) (pc := 11) (a := 235) (z := 103) (c := 0) (as := [.inr (.inl (some 1)), .inl x1, .inl x2, .inl x3, .inl x4, .inl x5]) (rest := [.inl 0, .inr (.inl (some 139))]) (by decide +kernel) (by decide +kernel) rfl rfl (zrecv_v rfl (LX_t p0)) rfl).trans ?_
  rfl

theorem b278_9 {h : HP} {I : Nat → Int → Int} {x1 : Int} {x2 : Int} {x3 : Int} {x4 : Int} {x5 : Int} {v7 : MV} {sx1 : Int} {sx2 : Int} (p0 : hK h 139 = (2, 1)) (p1 : 0 ≤ sx1 ∧ sx1 < 1) : Go 278 9 [.inr (.inl (some 1)), .inl x1, .inl x2, .inl x3, .inl x4, .inl x5, .inr (.inl (some 139)), v7] [.inl sx2, .inl sx1, .inr (.inl (some 139))] (mI h I) = Go 278 21 [.inr (.inl (some 1)), .inl x1, .inl x2, .inl x3, .inl x4, .inl x5, .inr (.inl (some 139)), v7] [] (mI h (zu2 I 139 sx1 sx2)) := by
  refine (Go_i2l (h := mI h I) (y := 278) (ip := 9) (a := 0) (b := 0) (c := 0) (by decide +kernel)).trans ?_
  refine (Go_stl (h := mI h I) (y := 278) (ip := 10) (a := 0) (c := 0) (by decide +kernel) (p0) p1).trans ?_
  refine (Go_goto (h := mI h (zu2 I 139 sx1 sx2)) (y := 278) (ip := 11) (a := 0) (b := 0) (c := 21) (by decide +kernel)).trans ?_
  rfl

theorem b278_12 {h : HP} {I : Nat → Int → Int} {x1 : Int} {x2 : Int} {x3 : Int} {x4 : Int} {x5 : Int} {v7 : MV} {sr0 : Option Nat} : Go 278 12 [.inr (.inl (some 1)), .inl x1, .inl x2, .inl x3, .inl x4, .inl x5, .inr (.inl (some 139)), v7] [.inr (.inl sr0)] (mI h I) = some (mI h I, .inl (some (.inl 1))) := by
  refine (Go_astore (h := mI h I) (y := 278) (ip := 12) (a := 0) (b := 7) (c := 0) (by decide +kernel) rfl).trans ?_
  refine (Go_const (h := mI h I) (y := 278) (ip := 13) (a := 1) (b := 0) (c := 0) (by decide +kernel)).trans ?_
  refine (Go_iret (h := mI h I) (y := 278) (ip := 14) (a := 0) (b := 0) (c := 0) (by decide +kernel) (Or.inl rfl)).trans ?_
  rfl

theorem b278_15 {h : HP} {I : Nat → Int → Int} {x1 : Int} {x2 : Int} {x3 : Int} {x4 : Int} {x5 : Int} {v7 : MV} {sr0 : Option Nat} : Go 278 15 [.inr (.inl (some 1)), .inl x1, .inl x2, .inl x3, .inl x4, .inl x5, .inr (.inl (some 139)), v7] [.inr (.inl sr0)] (mI h I) = some (mI h I, .inl (some (.inl 2))) := by
  refine (Go_astore (h := mI h I) (y := 278) (ip := 15) (a := 0) (b := 7) (c := 0) (by decide +kernel) rfl).trans ?_
  refine (Go_const (h := mI h I) (y := 278) (ip := 16) (a := 2) (b := 0) (c := 0) (by decide +kernel)).trans ?_
  refine (Go_iret (h := mI h I) (y := 278) (ip := 17) (a := 0) (b := 0) (c := 0) (by decide +kernel) (Or.inl rfl)).trans ?_
  rfl

theorem b278_18 {h : HP} {I : Nat → Int → Int} {x1 : Int} {x2 : Int} {x3 : Int} {x4 : Int} {x5 : Int} {v7 : MV} {sr0 : Option Nat} : Go 278 18 [.inr (.inl (some 1)), .inl x1, .inl x2, .inl x3, .inl x4, .inl x5, .inr (.inl (some 139)), v7] [.inr (.inl sr0)] (mI h I) = some (mI h I, .inl (some (.inl 3))) := by
  refine (Go_astore (h := mI h I) (y := 278) (ip := 18) (a := 0) (b := 7) (c := 0) (by decide +kernel) rfl).trans ?_
  refine (Go_const (h := mI h I) (y := 278) (ip := 19) (a := 3) (b := 0) (c := 0) (by decide +kernel)).trans ?_
  refine (Go_iret (h := mI h I) (y := 278) (ip := 20) (a := 0) (b := 0) (c := 0) (by decide +kernel) (Or.inl rfl)).trans ?_
  rfl

theorem b278_21 {h : HP} {I : Nat → Int → Int} {x1 : Int} {x2 : Int} {x3 : Int} {x4 : Int} {x5 : Int} {v7 : MV} : Go 278 21 [.inr (.inl (some 1)), .inl x1, .inl x2, .inl x3, .inl x4, .inl x5, .inr (.inl (some 139)), v7] [] (mI h I) = some (mI h I, .inl (some (.inl 0))) := by
  refine (Go_const (h := mI h I) (y := 278) (ip := 21) (a := 0) (b := 0) (c := 0) (by decide +kernel)).trans ?_
  refine (Go_iret (h := mI h I) (y := 278) (ip := 22) (a := 0) (b := 0) (c := 0) (by decide +kernel) (Or.inl rfl)).trans ?_
  rfl

theorem b279_0 {h : HP} {I : Nat → Int → Int} {x1 : Int} {x2 : Int} {v4 : MV} (p0 : LX 10 h 1) : Go 279 0 [.inr (.inl (some 1)), .inl x1, .inl x2, .inr (.inl (some 139)), v4] [] (mI h I) = cal 279 5 [.inr (.inl (some 1)), .inl x1, .inl x2, .inr (.inl (some 139)), v4] [.inl 0, .inr (.inl (some 139))] 6 (Go 104 0 [.inr (.inl (some 1)), .inl x1, .inl x2, vU, vU] [] (mI h I)) := by
  refine (Go_aload (h := mI h I) (y := 279) (ip := 0) (a := 0) (b := 3) (c := 0) (by decide +kernel) rfl).trans ?_
  refine (Go_const (h := mI h I) (y := 279) (ip := 1) (a := 0) (b := 0) (c := 0) (by decide +kernel)).trans ?_
  refine (Go_aload (h := mI h I) (y := 279) (ip := 2) (a := 0) (b := 0) (c := 0) (by decide +kernel) rfl).trans ?_
  refine (Go_iload (h := mI h I) (y := 279) (ip := 3) (a := 0) (b := 1) (c := 0) (by decide +kernel) rfl).trans ?_
  refine (Go_iload (h := mI h I) (y := 279) (ip := 4) (a := 0) (b := 2) (c := 0) (by decide +kernel) rfl).trans ?_
  refine (Go_call3 (h := mI h I) (y := 279) (ip := 5) (pc := 5) (a := 236) (z := 104) (c := 0) (as := [.inr (.inl (some 1)), .inl x1, .inl x2]) (rest := [.inl 0, .inr (.inl (some 139))]) (by decide +kernel) (by decide +kernel) rfl rfl (zrecv_v rfl (LX_t p0)) rfl).trans ?_
  rfl

theorem b279_6 {h : HP} {I : Nat → Int → Int} {x1 : Int} {x2 : Int} {v4 : MV} {sx1 : Int} {sx2 : Int} (p0 : hK h 139 = (2, 1)) (p1 : 0 ≤ sx1 ∧ sx1 < 1) : Go 279 6 [.inr (.inl (some 1)), .inl x1, .inl x2, .inr (.inl (some 139)), v4] [.inl sx2, .inl sx1, .inr (.inl (some 139))] (mI h I) = Go 279 18 [.inr (.inl (some 1)), .inl x1, .inl x2, .inr (.inl (some 139)), v4] [] (mI h (zu2 I 139 sx1 sx2)) := by
  refine (Go_i2l (h := mI h I) (y := 279) (ip := 6) (a := 0) (b := 0) (c := 0) (by decide +kernel)).trans ?_
  refine (Go_stl (h := mI h I) (y := 279) (ip := 7) (a := 0) (c := 0) (by decide +kernel) (p0) p1).trans ?_
  refine (Go_goto (h := mI h (zu2 I 139 sx1 sx2)) (y := 279) (ip := 8) (a := 0) (b := 0) (c := 18) (by decide +kernel)).trans ?_
  rfl

theorem b279_9 {h : HP} {I : Nat → Int → Int} {x1 : Int} {x2 : Int} {v4 : MV} {sr0 : Option Nat} : Go 279 9 [.inr (.inl (some 1)), .inl x1, .inl x2, .inr (.inl (some 139)), v4] [.inr (.inl sr0)] (mI h I) = some (mI h I, .inl (some (.inl 1))) := by
  refine (Go_astore (h := mI h I) (y := 279) (ip := 9) (a := 0) (b := 4) (c := 0) (by decide +kernel) rfl).trans ?_
  refine (Go_const (h := mI h I) (y := 279) (ip := 10) (a := 1) (b := 0) (c := 0) (by decide +kernel)).trans ?_
  refine (Go_iret (h := mI h I) (y := 279) (ip := 11) (a := 0) (b := 0) (c := 0) (by decide +kernel) (Or.inl rfl)).trans ?_
  rfl

theorem b279_12 {h : HP} {I : Nat → Int → Int} {x1 : Int} {x2 : Int} {v4 : MV} {sr0 : Option Nat} : Go 279 12 [.inr (.inl (some 1)), .inl x1, .inl x2, .inr (.inl (some 139)), v4] [.inr (.inl sr0)] (mI h I) = some (mI h I, .inl (some (.inl 2))) := by
  refine (Go_astore (h := mI h I) (y := 279) (ip := 12) (a := 0) (b := 4) (c := 0) (by decide +kernel) rfl).trans ?_
  refine (Go_const (h := mI h I) (y := 279) (ip := 13) (a := 2) (b := 0) (c := 0) (by decide +kernel)).trans ?_
  refine (Go_iret (h := mI h I) (y := 279) (ip := 14) (a := 0) (b := 0) (c := 0) (by decide +kernel) (Or.inl rfl)).trans ?_
  rfl

theorem b279_15 {h : HP} {I : Nat → Int → Int} {x1 : Int} {x2 : Int} {v4 : MV} {sr0 : Option Nat} : Go 279 15 [.inr (.inl (some 1)), .inl x1, .inl x2, .inr (.inl (some 139)), v4] [.inr (.inl sr0)] (mI h I) = some (mI h I, .inl (some (.inl 3))) := by
  refine (Go_astore (h := mI h I) (y := 279) (ip := 15) (a := 0) (b := 4) (c := 0) (by decide +kernel) rfl).trans ?_
  refine (Go_const (h := mI h I) (y := 279) (ip := 16) (a := 3) (b := 0) (c := 0) (by decide +kernel)).trans ?_
  refine (Go_iret (h := mI h I) (y := 279) (ip := 17) (a := 0) (b := 0) (c := 0) (by decide +kernel) (Or.inl rfl)).trans ?_
  rfl

theorem b279_18 {h : HP} {I : Nat → Int → Int} {x1 : Int} {x2 : Int} {v4 : MV} : Go 279 18 [.inr (.inl (some 1)), .inl x1, .inl x2, .inr (.inl (some 139)), v4] [] (mI h I) = some (mI h I, .inl (some (.inl 0))) := by
  refine (Go_const (h := mI h I) (y := 279) (ip := 18) (a := 0) (b := 0) (c := 0) (by decide +kernel)).trans ?_
  refine (Go_iret (h := mI h I) (y := 279) (ip := 19) (a := 0) (b := 0) (c := 0) (by decide +kernel) (Or.inl rfl)).trans ?_
  rfl

theorem b280_0 {h : HP} {I : Nat → Int → Int} {x1 : Int} {v3 : MV} (p0 : LX 10 h 1) : Go 280 0 [.inr (.inl (some 1)), .inl x1, .inr (.inl (some 139)), v3] [] (mI h I) = cal 280 4 [.inr (.inl (some 1)), .inl x1, .inr (.inl (some 139)), v3] [.inl 0, .inr (.inl (some 139))] 5 (Go 106 0 [.inr (.inl (some 1)), .inl x1] [] (mI h I)) := by
  refine (Go_aload (h := mI h I) (y := 280) (ip := 0) (a := 0) (b := 2) (c := 0) (by decide +kernel) rfl).trans ?_
  refine (Go_const (h := mI h I) (y := 280) (ip := 1) (a := 0) (b := 0) (c := 0) (by decide +kernel)).trans ?_
  refine (Go_aload (h := mI h I) (y := 280) (ip := 2) (a := 0) (b := 0) (c := 0) (by decide +kernel) rfl).trans ?_
  refine (Go_iload (h := mI h I) (y := 280) (ip := 3) (a := 0) (b := 1) (c := 0) (by decide +kernel) rfl).trans ?_
  refine (Go_call3 (h := mI h I) (y := 280) (ip := 4) (pc := 4) (a := 237) (z := 106) (c := 0) (as := [.inr (.inl (some 1)), .inl x1]) (rest := [.inl 0, .inr (.inl (some 139))]) (by decide +kernel) (by decide +kernel) rfl rfl (zrecv_v rfl (LX_t p0)) rfl).trans ?_
  rfl

theorem b280_5 {h : HP} {I : Nat → Int → Int} {x1 : Int} {v3 : MV} {sx1 : Int} {sx2 : Int} (p0 : hK h 139 = (2, 1)) (p1 : 0 ≤ sx1 ∧ sx1 < 1) : Go 280 5 [.inr (.inl (some 1)), .inl x1, .inr (.inl (some 139)), v3] [.inl sx2, .inl sx1, .inr (.inl (some 139))] (mI h I) = Go 280 11 [.inr (.inl (some 1)), .inl x1, .inr (.inl (some 139)), v3] [] (mI h (zu2 I 139 sx1 sx2)) := by
  refine (Go_i2l (h := mI h I) (y := 280) (ip := 5) (a := 0) (b := 0) (c := 0) (by decide +kernel)).trans ?_
  refine (Go_stl (h := mI h I) (y := 280) (ip := 6) (a := 0) (c := 0) (by decide +kernel) (p0) p1).trans ?_
  refine (Go_goto (h := mI h (zu2 I 139 sx1 sx2)) (y := 280) (ip := 7) (a := 0) (b := 0) (c := 11) (by decide +kernel)).trans ?_
  rfl

theorem b280_8 {h : HP} {I : Nat → Int → Int} {x1 : Int} {v3 : MV} {sr0 : Option Nat} : Go 280 8 [.inr (.inl (some 1)), .inl x1, .inr (.inl (some 139)), v3] [.inr (.inl sr0)] (mI h I) = some (mI h I, .inl (some (.inl 1))) := by
  refine (Go_astore (h := mI h I) (y := 280) (ip := 8) (a := 0) (b := 3) (c := 0) (by decide +kernel) rfl).trans ?_
  refine (Go_const (h := mI h I) (y := 280) (ip := 9) (a := 1) (b := 0) (c := 0) (by decide +kernel)).trans ?_
  refine (Go_iret (h := mI h I) (y := 280) (ip := 10) (a := 0) (b := 0) (c := 0) (by decide +kernel) (Or.inl rfl)).trans ?_
  rfl

theorem b280_11 {h : HP} {I : Nat → Int → Int} {x1 : Int} {v3 : MV} : Go 280 11 [.inr (.inl (some 1)), .inl x1, .inr (.inl (some 139)), v3] [] (mI h I) = some (mI h I, .inl (some (.inl 0))) := by
  refine (Go_const (h := mI h I) (y := 280) (ip := 11) (a := 0) (b := 0) (c := 0) (by decide +kernel)).trans ?_
  refine (Go_iret (h := mI h I) (y := 280) (ip := 12) (a := 0) (b := 0) (c := 0) (by decide +kernel) (Or.inl rfl)).trans ?_
  rfl

theorem b281_0 {h : HP} {I : Nat → Int → Int} {x1 : Int} {v3 : MV} (p0 : LX 10 h 1) : Go 281 0 [.inr (.inl (some 1)), .inl x1, .inr (.inl (some 139)), v3] [] (mI h I) = cal 281 4 [.inr (.inl (some 1)), .inl x1, .inr (.inl (some 139)), v3] [.inl 0, .inr (.inl (some 139))] 5 (Go 107 0 [.inr (.inl (some 1)), .inl x1] [] (mI h I)) := by
  refine (Go_aload (h := mI h I) (y := 281) (ip := 0) (a := 0) (b := 2) (c := 0) (by decide +kernel) rfl).trans ?_
  refine (Go_const (h := mI h I) (y := 281) (ip := 1) (a := 0) (b := 0) (c := 0) (by decide +kernel)).trans ?_
  refine (Go_aload (h := mI h I) (y := 281) (ip := 2) (a := 0) (b := 0) (c := 0) (by decide +kernel) rfl).trans ?_
  refine (Go_iload (h := mI h I) (y := 281) (ip := 3) (a := 0) (b := 1) (c := 0) (by decide +kernel) rfl).trans ?_
  refine (Go_call3 (h := mI h I) (y := 281) (ip := 4) (pc := 4) (a := 238) (z := 107) (c := 0) (as := [.inr (.inl (some 1)), .inl x1]) (rest := [.inl 0, .inr (.inl (some 139))]) (by decide +kernel) (by decide +kernel) rfl rfl (zrecv_v rfl (LX_t p0)) rfl).trans ?_
  rfl

theorem b281_5 {h : HP} {I : Nat → Int → Int} {x1 : Int} {v3 : MV} {sx1 : Int} {sx2 : Int} (p0 : hK h 139 = (2, 1)) (p1 : 0 ≤ sx1 ∧ sx1 < 1) : Go 281 5 [.inr (.inl (some 1)), .inl x1, .inr (.inl (some 139)), v3] [.inl sx2, .inl sx1, .inr (.inl (some 139))] (mI h I) = Go 281 11 [.inr (.inl (some 1)), .inl x1, .inr (.inl (some 139)), v3] [] (mI h (zu2 I 139 sx1 sx2)) := by
  refine (Go_i2l (h := mI h I) (y := 281) (ip := 5) (a := 0) (b := 0) (c := 0) (by decide +kernel)).trans ?_
  refine (Go_stl (h := mI h I) (y := 281) (ip := 6) (a := 0) (c := 0) (by decide +kernel) (p0) p1).trans ?_
  refine (Go_goto (h := mI h (zu2 I 139 sx1 sx2)) (y := 281) (ip := 7) (a := 0) (b := 0) (c := 11) (by decide +kernel)).trans ?_
  rfl

theorem b281_8 {h : HP} {I : Nat → Int → Int} {x1 : Int} {v3 : MV} {sr0 : Option Nat} : Go 281 8 [.inr (.inl (some 1)), .inl x1, .inr (.inl (some 139)), v3] [.inr (.inl sr0)] (mI h I) = some (mI h I, .inl (some (.inl 1))) := by
  refine (Go_astore (h := mI h I) (y := 281) (ip := 8) (a := 0) (b := 3) (c := 0) (by decide +kernel) rfl).trans ?_
  refine (Go_const (h := mI h I) (y := 281) (ip := 9) (a := 1) (b := 0) (c := 0) (by decide +kernel)).trans ?_
  refine (Go_iret (h := mI h I) (y := 281) (ip := 10) (a := 0) (b := 0) (c := 0) (by decide +kernel) (Or.inl rfl)).trans ?_
  rfl

theorem b281_11 {h : HP} {I : Nat → Int → Int} {x1 : Int} {v3 : MV} : Go 281 11 [.inr (.inl (some 1)), .inl x1, .inr (.inl (some 139)), v3] [] (mI h I) = some (mI h I, .inl (some (.inl 0))) := by
  refine (Go_const (h := mI h I) (y := 281) (ip := 11) (a := 0) (b := 0) (c := 0) (by decide +kernel)).trans ?_
  refine (Go_iret (h := mI h I) (y := 281) (ip := 12) (a := 0) (b := 0) (c := 0) (by decide +kernel) (Or.inl rfl)).trans ?_
  rfl

theorem b282_0 {h : HP} {I : Nat → Int → Int} {x1 : Int} {x2 : Int} {v4 : MV} (p0 : LX 10 h 1) : Go 282 0 [.inr (.inl (some 1)), .inl x1, .inl x2, .inr (.inl (some 139)), v4] [] (mI h I) = cal 282 5 [.inr (.inl (some 1)), .inl x1, .inl x2, .inr (.inl (some 139)), v4] [.inl 0, .inr (.inl (some 139))] 6 (Go 108 0 [.inr (.inl (some 1)), .inl x1, .inl x2] [] (mI h I)) := by
  refine (Go_aload (h := mI h I) (y := 282) (ip := 0) (a := 0) (b := 3) (c := 0) (by decide +kernel) rfl).trans ?_
  refine (Go_const (h := mI h I) (y := 282) (ip := 1) (a := 0) (b := 0) (c := 0) (by decide +kernel)).trans ?_
  refine (Go_aload (h := mI h I) (y := 282) (ip := 2) (a := 0) (b := 0) (c := 0) (by decide +kernel) rfl).trans ?_
  refine (Go_iload (h := mI h I) (y := 282) (ip := 3) (a := 0) (b := 1) (c := 0) (by decide +kernel) rfl).trans ?_
  refine (Go_iload (h := mI h I) (y := 282) (ip := 4) (a := 0) (b := 2) (c := 0) (by decide +kernel) rfl).trans ?_
  refine (Go_call3 (h := mI h I) (y := 282) (ip := 5) (pc := 5) (a := 239) (z := 108) (c := 0) (as := [.inr (.inl (some 1)), .inl x1, .inl x2]) (rest := [.inl 0, .inr (.inl (some 139))]) (by decide +kernel) (by decide +kernel) rfl rfl (zrecv_v rfl (LX_t p0)) rfl).trans ?_
  rfl

theorem b282_6 {h : HP} {I : Nat → Int → Int} {x1 : Int} {x2 : Int} {v4 : MV} {sx1 : Int} {sx2 : Int} (p0 : hK h 139 = (2, 1)) (p1 : 0 ≤ sx1 ∧ sx1 < 1) : Go 282 6 [.inr (.inl (some 1)), .inl x1, .inl x2, .inr (.inl (some 139)), v4] [.inl sx2, .inl sx1, .inr (.inl (some 139))] (mI h I) = Go 282 12 [.inr (.inl (some 1)), .inl x1, .inl x2, .inr (.inl (some 139)), v4] [] (mI h (zu2 I 139 sx1 sx2)) := by
  refine (Go_i2l (h := mI h I) (y := 282) (ip := 6) (a := 0) (b := 0) (c := 0) (by decide +kernel)).trans ?_
  refine (Go_stl (h := mI h I) (y := 282) (ip := 7) (a := 0) (c := 0) (by decide +kernel) (p0) p1).trans ?_
  refine (Go_goto (h := mI h (zu2 I 139 sx1 sx2)) (y := 282) (ip := 8) (a := 0) (b := 0) (c := 12) (by decide +kernel)).trans ?_
  rfl

theorem b282_9 {h : HP} {I : Nat → Int → Int} {x1 : Int} {x2 : Int} {v4 : MV} {sr0 : Option Nat} : Go 282 9 [.inr (.inl (some 1)), .inl x1, .inl x2, .inr (.inl (some 139)), v4] [.inr (.inl sr0)] (mI h I) = some (mI h I, .inl (some (.inl 1))) := by
  refine (Go_astore (h := mI h I) (y := 282) (ip := 9) (a := 0) (b := 4) (c := 0) (by decide +kernel) rfl).trans ?_
  refine (Go_const (h := mI h I) (y := 282) (ip := 10) (a := 1) (b := 0) (c := 0) (by decide +kernel)).trans ?_
  refine (Go_iret (h := mI h I) (y := 282) (ip := 11) (a := 0) (b := 0) (c := 0) (by decide +kernel) (Or.inl rfl)).trans ?_
  rfl

theorem b282_12 {h : HP} {I : Nat → Int → Int} {x1 : Int} {x2 : Int} {v4 : MV} : Go 282 12 [.inr (.inl (some 1)), .inl x1, .inl x2, .inr (.inl (some 139)), v4] [] (mI h I) = some (mI h I, .inl (some (.inl 0))) := by
  refine (Go_const (h := mI h I) (y := 282) (ip := 12) (a := 0) (b := 0) (c := 0) (by decide +kernel)).trans ?_
  refine (Go_iret (h := mI h I) (y := 282) (ip := 13) (a := 0) (b := 0) (c := 0) (by decide +kernel) (Or.inl rfl)).trans ?_
  rfl

theorem b283_0 {h : HP} {I : Nat → Int → Int} {x1 : Int} {x2 : Int} {x3 : Int} {v5 : MV} (p0 : LX 10 h 1) : Go 283 0 [.inr (.inl (some 1)), .inl x1, .inl x2, .inl x3, .inr (.inl (some 139)), v5] [] (mI h I) = cal 283 7 [.inr (.inl (some 1)), .inl x1, .inl x2, .inl x3, .inr (.inl (some 139)), v5] [.inl 0, .inr (.inl (some 139))] 7 (Go 109 0 [.inr (.inl (some 1)), .inl x1, .inl x2, .inl x3, vU, vU, vU, vU] [] (mI h I)) := by
  refine (Go_aload (h := mI h I) (y := 283) (ip := 0) (a := 0) (b := 4) (c := 0) (by decide +kernel) rfl).trans ?_
  refine (Go_const (h := mI h I) (y := 283) (ip := 1) (a := 0) (b := 0) (c := 0) (by decide +kernel)).trans ?_
  refine (Go_aload (h := mI h I) (y := 283) (ip := 2) (a := 0) (b := 0) (c := 0) (by decide +kernel) rfl).trans ?_
  refine (Go_iload (h := mI h I) (y := 283) (ip := 3) (a := 0) (b := 1) (c := 0) (by decide +kernel) rfl).trans ?_
  refine (Go_iload (h := mI h I) (y := 283) (ip := 4) (a := 0) (b := 2) (c := 0) (by decide +kernel) rfl).trans ?_
  refine (Go_iload (h := mI h I) (y := 283) (ip := 5) (a := 0) (b := 3) (c := 0) (by decide +kernel) rfl).trans ?_
  refine (Go_call3 (h := mI h I) (y := 283) (ip := 6) (pc := 7) (a := 240) (z := 109) (c := 0) (as := [.inr (.inl (some 1)), .inl x1, .inl x2, .inl x3]) (rest := [.inl 0, .inr (.inl (some 139))]) (by decide +kernel) (by decide +kernel) rfl rfl (zrecv_v rfl (LX_t p0)) rfl).trans ?_
  rfl

theorem b283_7 {h : HP} {I : Nat → Int → Int} {x1 : Int} {x2 : Int} {x3 : Int} {v5 : MV} {sx1 : Int} {sx2 : Int} (p0 : hK h 139 = (2, 1)) (p1 : 0 ≤ sx1 ∧ sx1 < 1) : Go 283 7 [.inr (.inl (some 1)), .inl x1, .inl x2, .inl x3, .inr (.inl (some 139)), v5] [.inl sx2, .inl sx1, .inr (.inl (some 139))] (mI h I) = Go 283 16 [.inr (.inl (some 1)), .inl x1, .inl x2, .inl x3, .inr (.inl (some 139)), v5] [] (mI h (zu2 I 139 sx1 sx2)) := by
  refine (Go_i2l (h := mI h I) (y := 283) (ip := 7) (a := 0) (b := 0) (c := 0) (by decide +kernel)).trans ?_
  refine (Go_stl (h := mI h I) (y := 283) (ip := 8) (a := 0) (c := 0) (by decide +kernel) (p0) p1).trans ?_
  refine (Go_goto (h := mI h (zu2 I 139 sx1 sx2)) (y := 283) (ip := 9) (a := 0) (b := 0) (c := 16) (by decide +kernel)).trans ?_
  rfl

theorem b283_10 {h : HP} {I : Nat → Int → Int} {x1 : Int} {x2 : Int} {x3 : Int} {v5 : MV} {sr0 : Option Nat} : Go 283 10 [.inr (.inl (some 1)), .inl x1, .inl x2, .inl x3, .inr (.inl (some 139)), v5] [.inr (.inl sr0)] (mI h I) = some (mI h I, .inl (some (.inl 1))) := by
  refine (Go_astore (h := mI h I) (y := 283) (ip := 10) (a := 0) (b := 5) (c := 0) (by decide +kernel) rfl).trans ?_
  refine (Go_const (h := mI h I) (y := 283) (ip := 11) (a := 1) (b := 0) (c := 0) (by decide +kernel)).trans ?_
  refine (Go_iret (h := mI h I) (y := 283) (ip := 12) (a := 0) (b := 0) (c := 0) (by decide +kernel) (Or.inl rfl)).trans ?_
  rfl

theorem b283_13 {h : HP} {I : Nat → Int → Int} {x1 : Int} {x2 : Int} {x3 : Int} {v5 : MV} {sr0 : Option Nat} : Go 283 13 [.inr (.inl (some 1)), .inl x1, .inl x2, .inl x3, .inr (.inl (some 139)), v5] [.inr (.inl sr0)] (mI h I) = some (mI h I, .inl (some (.inl 2))) := by
  refine (Go_astore (h := mI h I) (y := 283) (ip := 13) (a := 0) (b := 5) (c := 0) (by decide +kernel) rfl).trans ?_
  refine (Go_const (h := mI h I) (y := 283) (ip := 14) (a := 2) (b := 0) (c := 0) (by decide +kernel)).trans ?_
  refine (Go_iret (h := mI h I) (y := 283) (ip := 15) (a := 0) (b := 0) (c := 0) (by decide +kernel) (Or.inl rfl)).trans ?_
  rfl

theorem b283_16 {h : HP} {I : Nat → Int → Int} {x1 : Int} {x2 : Int} {x3 : Int} {v5 : MV} : Go 283 16 [.inr (.inl (some 1)), .inl x1, .inl x2, .inl x3, .inr (.inl (some 139)), v5] [] (mI h I) = some (mI h I, .inl (some (.inl 0))) := by
  refine (Go_const (h := mI h I) (y := 283) (ip := 16) (a := 0) (b := 0) (c := 0) (by decide +kernel)).trans ?_
  refine (Go_iret (h := mI h I) (y := 283) (ip := 17) (a := 0) (b := 0) (c := 0) (by decide +kernel) (Or.inl rfl)).trans ?_
  rfl

theorem b284_0 {h : HP} {I : Nat → Int → Int} {x1 : Int} {x2 : Int} {v4 : MV} (p0 : LX 10 h 1) : Go 284 0 [.inr (.inl (some 1)), .inl x1, .inl x2, .inr (.inl (some 139)), v4] [] (mI h I) = cal 284 5 [.inr (.inl (some 1)), .inl x1, .inl x2, .inr (.inl (some 139)), v4] [.inl 0, .inr (.inl (some 139))] 6 (Go 110 0 [.inr (.inl (some 1)), .inl x1, .inl x2, vU, vU] [] (mI h I)) := by
  refine (Go_aload (h := mI h I) (y := 284) (ip := 0) (a := 0) (b := 3) (c := 0) (by decide +kernel) rfl).trans ?_
  refine (Go_const (h := mI h I) (y := 284) (ip := 1) (a := 0) (b := 0) (c := 0) (by decide +kernel)).trans ?_
  refine (Go_aload (h := mI h I) (y := 284) (ip := 2) (a := 0) (b := 0) (c := 0) (by decide +kernel) rfl).trans ?_
  refine (Go_iload (h := mI h I) (y := 284) (ip := 3) (a := 0) (b := 1) (c := 0) (by decide +kernel) rfl).trans ?_
  refine (Go_iload (h := mI h I) (y := 284) (ip := 4) (a := 0) (b := 2) (c := 0) (by decide +kernel) rfl).trans ?_
  refine (Go_call3 (h := mI h I) (y := 284) (ip := 5) (pc := 5) (a := 241) (z := 110) (c := 0) (as := [.inr (.inl (some 1)), .inl x1, .inl x2]) (rest := [.inl 0, .inr (.inl (some 139))]) (by decide +kernel) (by decide +kernel) rfl rfl (zrecv_v rfl (LX_t p0)) rfl).trans ?_
  rfl

theorem b284_6 {h : HP} {I : Nat → Int → Int} {x1 : Int} {x2 : Int} {v4 : MV} {sx1 : Int} {sx2 : Int} (p0 : hK h 139 = (2, 1)) (p1 : 0 ≤ sx1 ∧ sx1 < 1) : Go 284 6 [.inr (.inl (some 1)), .inl x1, .inl x2, .inr (.inl (some 139)), v4] [.inl sx2, .inl sx1, .inr (.inl (some 139))] (mI h I) = Go 284 12 [.inr (.inl (some 1)), .inl x1, .inl x2, .inr (.inl (some 139)), v4] [] (mI h (zu2 I 139 sx1 sx2)) := by
  refine (Go_i2l (h := mI h I) (y := 284) (ip := 6) (a := 0) (b := 0) (c := 0) (by decide +kernel)).trans ?_
  refine (Go_stl (h := mI h I) (y := 284) (ip := 7) (a := 0) (c := 0) (by decide +kernel) (p0) p1).trans ?_
  refine (Go_goto (h := mI h (zu2 I 139 sx1 sx2)) (y := 284) (ip := 8) (a := 0) (b := 0) (c := 12) (by decide +kernel)).trans ?_
  rfl

theorem b284_9 {h : HP} {I : Nat → Int → Int} {x1 : Int} {x2 : Int} {v4 : MV} {sr0 : Option Nat} : Go 284 9 [.inr (.inl (some 1)), .inl x1, .inl x2, .inr (.inl (some 139)), v4] [.inr (.inl sr0)] (mI h I) = some (mI h I, .inl (some (.inl 1))) := by
  refine (Go_astore (h := mI h I) (y := 284) (ip := 9) (a := 0) (b := 4) (c := 0) (by decide +kernel) rfl).trans ?_
  refine (Go_const (h := mI h I) (y := 284) (ip := 10) (a := 1) (b := 0) (c := 0) (by decide +kernel)).trans ?_
  refine (Go_iret (h := mI h I) (y := 284) (ip := 11) (a := 0) (b := 0) (c := 0) (by decide +kernel) (Or.inl rfl)).trans ?_
  rfl

theorem b284_12 {h : HP} {I : Nat → Int → Int} {x1 : Int} {x2 : Int} {v4 : MV} : Go 284 12 [.inr (.inl (some 1)), .inl x1, .inl x2, .inr (.inl (some 139)), v4] [] (mI h I) = some (mI h I, .inl (some (.inl 0))) := by
  refine (Go_const (h := mI h I) (y := 284) (ip := 12) (a := 0) (b := 0) (c := 0) (by decide +kernel)).trans ?_
  refine (Go_iret (h := mI h I) (y := 284) (ip := 13) (a := 0) (b := 0) (c := 0) (by decide +kernel) (Or.inl rfl)).trans ?_
  rfl

theorem b285_0 {h : HP} {I : Nat → Int → Int} {x1 : Int} {v3 : MV} (p0 : LX 10 h 1) : Go 285 0 [.inr (.inl (some 1)), .inl x1, .inr (.inl (some 139)), v3] [] (mI h I) = cal 285 4 [.inr (.inl (some 1)), .inl x1, .inr (.inl (some 139)), v3] [.inl 0, .inr (.inl (some 139))] 5 (Go 111 0 [.inr (.inl (some 1)), .inl x1] [] (mI h I)) := by
  refine (Go_aload (h := mI h I) (y := 285) (ip := 0) (a := 0) (b := 2) (c := 0) (by decide +kernel) rfl).trans ?_
  refine (Go_const (h := mI h I) (y := 285) (ip := 1) (a := 0) (b := 0) (c := 0) (by decide +kernel)).trans ?_
  refine (Go_aload (h := mI h I) (y := 285) (ip := 2) (a := 0) (b := 0) (c := 0) (by decide +kernel) rfl).trans ?_
  refine (Go_iload (h := mI h I) (y := 285) (ip := 3) (a := 0) (b := 1) (c := 0) (by decide +kernel) rfl).trans ?_
  refine (Go_call3 (h := mI h I) (y := 285) (ip := 4) (pc := 4) (a := 242) (z := 111) (c := 0) (as := [.inr (.inl (some 1)), .inl x1]) (rest := [.inl 0, .inr (.inl (some 139))]) (by decide +kernel) (by decide +kernel) rfl rfl (zrecv_v rfl (LX_t p0)) rfl).trans ?_
  rfl

theorem b285_5 {h : HP} {I : Nat → Int → Int} {x1 : Int} {v3 : MV} {sx1 : Int} {sx2 : Int} (p0 : hK h 139 = (2, 1)) (p1 : 0 ≤ sx1 ∧ sx1 < 1) : Go 285 5 [.inr (.inl (some 1)), .inl x1, .inr (.inl (some 139)), v3] [.inl sx2, .inl sx1, .inr (.inl (some 139))] (mI h I) = Go 285 11 [.inr (.inl (some 1)), .inl x1, .inr (.inl (some 139)), v3] [] (mI h (zu2 I 139 sx1 sx2)) := by
  refine (Go_i2l (h := mI h I) (y := 285) (ip := 5) (a := 0) (b := 0) (c := 0) (by decide +kernel)).trans ?_
  refine (Go_stl (h := mI h I) (y := 285) (ip := 6) (a := 0) (c := 0) (by decide +kernel) (p0) p1).trans ?_
  refine (Go_goto (h := mI h (zu2 I 139 sx1 sx2)) (y := 285) (ip := 7) (a := 0) (b := 0) (c := 11) (by decide +kernel)).trans ?_
  rfl

theorem b285_8 {h : HP} {I : Nat → Int → Int} {x1 : Int} {v3 : MV} {sr0 : Option Nat} : Go 285 8 [.inr (.inl (some 1)), .inl x1, .inr (.inl (some 139)), v3] [.inr (.inl sr0)] (mI h I) = some (mI h I, .inl (some (.inl 1))) := by
  refine (Go_astore (h := mI h I) (y := 285) (ip := 8) (a := 0) (b := 3) (c := 0) (by decide +kernel) rfl).trans ?_
  refine (Go_const (h := mI h I) (y := 285) (ip := 9) (a := 1) (b := 0) (c := 0) (by decide +kernel)).trans ?_
  refine (Go_iret (h := mI h I) (y := 285) (ip := 10) (a := 0) (b := 0) (c := 0) (by decide +kernel) (Or.inl rfl)).trans ?_
  rfl

theorem b285_11 {h : HP} {I : Nat → Int → Int} {x1 : Int} {v3 : MV} : Go 285 11 [.inr (.inl (some 1)), .inl x1, .inr (.inl (some 139)), v3] [] (mI h I) = some (mI h I, .inl (some (.inl 0))) := by
  refine (Go_const (h := mI h I) (y := 285) (ip := 11) (a := 0) (b := 0) (c := 0) (by decide +kernel)).trans ?_
  refine (Go_iret (h := mI h I) (y := 285) (ip := 12) (a := 0) (b := 0) (c := 0) (by decide +kernel) (Or.inl rfl)).trans ?_
  rfl

theorem b286_0 {h : HP} {I : Nat → Int → Int} {x1 : Int} {v3 : MV} (p0 : LX 10 h 1) : Go 286 0 [.inr (.inl (some 1)), .inl x1, .inr (.inl (some 139)), v3] [] (mI h I) = cal 286 4 [.inr (.inl (some 1)), .inl x1, .inr (.inl (some 139)), v3] [.inl 0, .inr (.inl (some 139))] 5 (Go 112 0 [.inr (.inl (some 1)), .inl x1] [] (mI h I)) := by
  refine (Go_aload (h := mI h I) (y := 286) (ip := 0) (a := 0) (b := 2) (c := 0) (by decide +kernel) rfl).trans ?_
  refine (Go_const (h := mI h I) (y := 286) (ip := 1) (a := 0) (b := 0) (c := 0) (by decide +kernel)).trans ?_
  refine (Go_aload (h := mI h I) (y := 286) (ip := 2) (a := 0) (b := 0) (c := 0) (by decide +kernel) rfl).trans ?_
  refine (Go_iload (h := mI h I) (y := 286) (ip := 3) (a := 0) (b := 1) (c := 0) (by decide +kernel) rfl).trans ?_
  refine (Go_call3 (h := mI h I) (y := 286) (ip := 4) (pc := 4) (a := 243) (z := 112) (c := 0) (as := [.inr (.inl (some 1)), .inl x1]) (rest := [.inl 0, .inr (.inl (some 139))]) (by decide +kernel) (by decide +kernel) rfl rfl (zrecv_v rfl (LX_t p0)) rfl).trans ?_
  rfl

theorem b286_5 {h : HP} {I : Nat → Int → Int} {x1 : Int} {v3 : MV} {sx1 : Int} {sx2 : Int} (p0 : hK h 139 = (2, 1)) (p1 : 0 ≤ sx1 ∧ sx1 < 1) : Go 286 5 [.inr (.inl (some 1)), .inl x1, .inr (.inl (some 139)), v3] [.inl sx2, .inl sx1, .inr (.inl (some 139))] (mI h I) = Go 286 11 [.inr (.inl (some 1)), .inl x1, .inr (.inl (some 139)), v3] [] (mI h (zu2 I 139 sx1 sx2)) := by
  refine (Go_i2l (h := mI h I) (y := 286) (ip := 5) (a := 0) (b := 0) (c := 0) (by decide +kernel)).trans ?_
  refine (Go_stl (h := mI h I) (y := 286) (ip := 6) (a := 0) (c := 0) (by decide +kernel) (p0) p1).trans ?_
  refine (Go_goto (h := mI h (zu2 I 139 sx1 sx2)) (y := 286) (ip := 7) (a := 0) (b := 0) (c := 11) (by decide +kernel)).trans ?_
  rfl

theorem b286_8 {h : HP} {I : Nat → Int → Int} {x1 : Int} {v3 : MV} {sr0 : Option Nat} : Go 286 8 [.inr (.inl (some 1)), .inl x1, .inr (.inl (some 139)), v3] [.inr (.inl sr0)] (mI h I) = some (mI h I, .inl (some (.inl 1))) := by
  refine (Go_astore (h := mI h I) (y := 286) (ip := 8) (a := 0) (b := 3) (c := 0) (by decide +kernel) rfl).trans ?_
  refine (Go_const (h := mI h I) (y := 286) (ip := 9) (a := 1) (b := 0) (c := 0) (by decide +kernel)).trans ?_
  refine (Go_iret (h := mI h I) (y := 286) (ip := 10) (a := 0) (b := 0) (c := 0) (by decide +kernel) (Or.inl rfl)).trans ?_
  rfl

theorem b286_11 {h : HP} {I : Nat → Int → Int} {x1 : Int} {v3 : MV} : Go 286 11 [.inr (.inl (some 1)), .inl x1, .inr (.inl (some 139)), v3] [] (mI h I) = some (mI h I, .inl (some (.inl 0))) := by
  refine (Go_const (h := mI h I) (y := 286) (ip := 11) (a := 0) (b := 0) (c := 0) (by decide +kernel)).trans ?_
  refine (Go_iret (h := mI h I) (y := 286) (ip := 12) (a := 0) (b := 0) (c := 0) (by decide +kernel) (Or.inl rfl)).trans ?_
  rfl

theorem b287_0 {h : HP} {I : Nat → Int → Int} {x1 : Int} {x2 : Int} {v4 : MV} (p0 : LX 10 h 1) : Go 287 0 [.inr (.inl (some 1)), .inl x1, .inl x2, .inr (.inl (some 139)), v4] [] (mI h I) = cal 287 5 [.inr (.inl (some 1)), .inl x1, .inl x2, .inr (.inl (some 139)), v4] [.inl 0, .inr (.inl (some 139))] 6 (Go 113 0 [.inr (.inl (some 1)), .inl x1, .inl x2, vU] [] (mI h I)) := by
  refine (Go_aload (h := mI h I) (y := 287) (ip := 0) (a := 0) (b := 3) (c := 0) (by decide +kernel) rfl).trans ?_
  refine (Go_const (h := mI h I) (y := 287) (ip := 1) (a := 0) (b := 0) (c := 0) (by decide +kernel)).trans ?_
  refine (Go_aload (h := mI h I) (y := 287) (ip := 2) (a := 0) (b := 0) (c := 0) (by decide +kernel) rfl).trans ?_
  refine (Go_iload (h := mI h I) (y := 287) (ip := 3) (a := 0) (b := 1) (c := 0) (by decide +kernel) rfl).trans ?_
  refine (Go_iload (h := mI h I) (y := 287) (ip := 4) (a := 0) (b := 2) (c := 0) (by decide +kernel) rfl).trans ?_
  refine (Go_call3 (h := mI h I) (y := 287) (ip := 5) (pc := 5) (a := 244) (z := 113) (c := 0) (as := [.inr (.inl (some 1)), .inl x1, .inl x2]) (rest := [.inl 0, .inr (.inl (some 139))]) (by decide +kernel) (by decide +kernel) rfl rfl (zrecv_v rfl (LX_t p0)) rfl).trans ?_
  rfl

theorem b287_6 {h : HP} {I : Nat → Int → Int} {x1 : Int} {x2 : Int} {v4 : MV} {sx1 : Int} {sx2 : Int} (p0 : hK h 139 = (2, 1)) (p1 : 0 ≤ sx1 ∧ sx1 < 1) : Go 287 6 [.inr (.inl (some 1)), .inl x1, .inl x2, .inr (.inl (some 139)), v4] [.inl sx2, .inl sx1, .inr (.inl (some 139))] (mI h I) = Go 287 15 [.inr (.inl (some 1)), .inl x1, .inl x2, .inr (.inl (some 139)), v4] [] (mI h (zu2 I 139 sx1 sx2)) := by
  refine (Go_i2l (h := mI h I) (y := 287) (ip := 6) (a := 0) (b := 0) (c := 0) (by decide +kernel)).trans ?_
  refine (Go_stl (h := mI h I) (y := 287) (ip := 7) (a := 0) (c := 0) (by decide +kernel) (p0) p1).trans ?_
  refine (Go_goto (h := mI h (zu2 I 139 sx1 sx2)) (y := 287) (ip := 8) (a := 0) (b := 0) (c := 15) (by decide +kernel)).trans ?_
  rfl

theorem b287_9 {h : HP} {I : Nat → Int → Int} {x1 : Int} {x2 : Int} {v4 : MV} {sr0 : Option Nat} : Go 287 9 [.inr (.inl (some 1)), .inl x1, .inl x2, .inr (.inl (some 139)), v4] [.inr (.inl sr0)] (mI h I) = some (mI h I, .inl (some (.inl 1))) := by
  refine (Go_astore (h := mI h I) (y := 287) (ip := 9) (a := 0) (b := 4) (c := 0) (by decide +kernel) rfl).trans ?_
  refine (Go_const (h := mI h I) (y := 287) (ip := 10) (a := 1) (b := 0) (c := 0) (by decide +kernel)).trans ?_
  refine (Go_iret (h := mI h I) (y := 287) (ip := 11) (a := 0) (b := 0) (c := 0) (by decide +kernel) (Or.inl rfl)).trans ?_
  rfl

theorem b287_12 {h : HP} {I : Nat → Int → Int} {x1 : Int} {x2 : Int} {v4 : MV} {sr0 : Option Nat} : Go 287 12 [.inr (.inl (some 1)), .inl x1, .inl x2, .inr (.inl (some 139)), v4] [.inr (.inl sr0)] (mI h I) = some (mI h I, .inl (some (.inl 2))) := by
  refine (Go_astore (h := mI h I) (y := 287) (ip := 12) (a := 0) (b := 4) (c := 0) (by decide +kernel) rfl).trans ?_
  refine (Go_const (h := mI h I) (y := 287) (ip := 13) (a := 2) (b := 0) (c := 0) (by decide +kernel)).trans ?_
  refine (Go_iret (h := mI h I) (y := 287) (ip := 14) (a := 0) (b := 0) (c := 0) (by decide +kernel) (Or.inl rfl)).trans ?_
  rfl

theorem b287_15 {h : HP} {I : Nat → Int → Int} {x1 : Int} {x2 : Int} {v4 : MV} : Go 287 15 [.inr (.inl (some 1)), .inl x1, .inl x2, .inr (.inl (some 139)), v4] [] (mI h I) = some (mI h I, .inl (some (.inl 0))) := by
  refine (Go_const (h := mI h I) (y := 287) (ip := 15) (a := 0) (b := 0) (c := 0) (by decide +kernel)).trans ?_
  refine (Go_iret (h := mI h I) (y := 287) (ip := 16) (a := 0) (b := 0) (c := 0) (by decide +kernel) (Or.inl rfl)).trans ?_
  rfl

theorem b288_0 {h : HP} {I : Nat → Int → Int} {x1 : Int} {v3 : MV} (p0 : LX 10 h 1) : Go 288 0 [.inr (.inl (some 1)), .inl x1, .inr (.inl (some 139)), v3] [] (mI h I) = cal 288 4 [.inr (.inl (some 1)), .inl x1, .inr (.inl (some 139)), v3] [.inl 0, .inr (.inl (some 139))] 5 (Go 114 0 [.inr (.inl (some 1)), .inl x1] [] (mI h I)) := by
  refine (Go_aload (h := mI h I) (y := 288) (ip := 0) (a := 0) (b := 2) (c := 0) (by decide +kernel) rfl).trans ?_
  refine (Go_const (h := mI h I) (y := 288) (ip := 1) (a := 0) (b := 0) (c := 0) (by decide +kernel)).trans ?_
  refine (Go_aload (h := mI h I) (y := 288) (ip := 2) (a := 0) (b := 0) (c := 0) (by decide +kernel) rfl).trans ?_
  refine (Go_iload (h := mI h I) (y := 288) (ip := 3) (a := 0) (b := 1) (c := 0) (by decide +kernel) rfl).trans ?_
  refine (Go_call3 (h := mI h I) (y := 288) (ip := 4) (pc := 4) (a := 245) (z := 114) (c := 0) (as := [.inr (.inl (some 1)), .inl x1]) (rest := [.inl 0, .inr (.inl (some 139))]) (by decide +kernel) (by decide +kernel) rfl rfl (zrecv_v rfl (LX_t p0)) rfl).trans ?_
  rfl

theorem b288_5 {h : HP} {I : Nat → Int → Int} {x1 : Int} {v3 : MV} {sx1 : Int} {sx2 : Int} (p0 : hK h 139 = (2, 1)) (p1 : 0 ≤ sx1 ∧ sx1 < 1) : Go 288 5 [.inr (.inl (some 1)), .inl x1, .inr (.inl (some 139)), v3] [.inl sx2, .inl sx1, .inr (.inl (some 139))] (mI h I) = Go 288 11 [.inr (.inl (some 1)), .inl x1, .inr (.inl (some 139)), v3] [] (mI h (zu2 I 139 sx1 sx2)) := by
  refine (Go_i2l (h := mI h I) (y := 288) (ip := 5) (a := 0) (b := 0) (c := 0) (by decide +kernel)).trans ?_
  refine (Go_stl (h := mI h I) (y := 288) (ip := 6) (a := 0) (c := 0) (by decide +kernel) (p0) p1).trans ?_
  refine (Go_goto (h := mI h (zu2 I 139 sx1 sx2)) (y := 288) (ip := 7) (a := 0) (b := 0) (c := 11) (by decide +kernel)).trans ?_
  rfl

theorem b288_8 {h : HP} {I : Nat → Int → Int} {x1 : Int} {v3 : MV} {sr0 : Option Nat} : Go 288 8 [.inr (.inl (some 1)), .inl x1, .inr (.inl (some 139)), v3] [.inr (.inl sr0)] (mI h I) = some (mI h I, .inl (some (.inl 1))) := by
  refine (Go_astore (h := mI h I) (y := 288) (ip := 8) (a := 0) (b := 3) (c := 0) (by decide +kernel) rfl).trans ?_
  refine (Go_const (h := mI h I) (y := 288) (ip := 9) (a := 1) (b := 0) (c := 0) (by decide +kernel)).trans ?_
  refine (Go_iret (h := mI h I) (y := 288) (ip := 10) (a := 0) (b := 0) (c := 0) (by decide +kernel) (Or.inl rfl)).trans ?_
  rfl

theorem b288_11 {h : HP} {I : Nat → Int → Int} {x1 : Int} {v3 : MV} : Go 288 11 [.inr (.inl (some 1)), .inl x1, .inr (.inl (some 139)), v3] [] (mI h I) = some (mI h I, .inl (some (.inl 0))) := by
  refine (Go_const (h := mI h I) (y := 288) (ip := 11) (a := 0) (b := 0) (c := 0) (by decide +kernel)).trans ?_
  refine (Go_iret (h := mI h I) (y := 288) (ip := 12) (a := 0) (b := 0) (c := 0) (by decide +kernel) (Or.inl rfl)).trans ?_
  rfl

theorem b289_0 {h : HP} {I : Nat → Int → Int} {x1 : Int} {x2 : Int} {x3 : Int} {x4 : Int} {v6 : MV} (p0 : LX 10 h 1) : Go 289 0 [.inr (.inl (some 1)), .inl x1, .inl x2, .inl x3, .inl x4, .inr (.inl (some 139)), v6] [] (mI h I) = cal 289 9 [.inr (.inl (some 1)), .inl x1, .inl x2, .inl x3, .inl x4, .inr (.inl (some 139)), v6] [.inl 0, .inr (.inl (some 139))] 8 (Go 115 0 [.inr (.inl (some 1)), .inl x1, .inl x2, .inl x3, .inl x4, vU, vU, vU, vU] [] (mI h I)) := by
  refine (Go_aload (h := mI h I) (y := 289) (ip := 0) (a := 0) (b := 5) (c := 0) (by decide +kernel) rfl).trans ?_
  refine (Go_const (h := mI h I) (y := 289) (ip := 1) (a := 0) (b := 0) (c := 0) (by decide +kernel)).trans ?_
  refine (Go_aload (h := mI h I) (y := 289) (ip := 2) (a := 0) (b := 0) (c := 0) (by decide +kernel) rfl).trans ?_
  refine (Go_iload (h := mI h I) (y := 289) (ip := 3) (a := 0) (b := 1) (c := 0) (by decide +kernel) rfl).trans ?_
  refine (Go_iload (h := mI h I) (y := 289) (ip := 4) (a := 0) (b := 2) (c := 0) (by decide +kernel) rfl).trans ?_
  refine (Go_iload (h := mI h I) (y := 289) (ip := 5) (a := 0) (b := 3) (c := 0) (by decide +kernel) rfl).trans ?_
  refine (Go_iload (h := mI h I) (y := 289) (ip := 6) (a := 0) (b := 4) (c := 0) (by decide +kernel) rfl).trans ?_
  refine (Go_call3 (h := mI h I) (y := 289) (ip := 7) (pc := 9) (a := 246) (z := 115) (c := 0) (as := [.inr (.inl (some 1)), .inl x1, .inl x2, .inl x3, .inl x4]) (rest := [.inl 0, .inr (.inl (some 139))]) (by decide +kernel) (by decide +kernel) rfl rfl (zrecv_v rfl (LX_t p0)) rfl).trans ?_
  rfl

theorem b289_8 {h : HP} {I : Nat → Int → Int} {x1 : Int} {x2 : Int} {x3 : Int} {x4 : Int} {v6 : MV} {sx1 : Int} {sx2 : Int} (p0 : hK h 139 = (2, 1)) (p1 : 0 ≤ sx1 ∧ sx1 < 1) : Go 289 8 [.inr (.inl (some 1)), .inl x1, .inl x2, .inl x3, .inl x4, .inr (.inl (some 139)), v6] [.inl sx2, .inl sx1, .inr (.inl (some 139))] (mI h I) = Go 289 17 [.inr (.inl (some 1)), .inl x1, .inl x2, .inl x3, .inl x4, .inr (.inl (some 139)), v6] [] (mI h (zu2 I 139 sx1 sx2)) := by
  refine (Go_i2l (h := mI h I) (y := 289) (ip := 8) (a := 0) (b := 0) (c := 0) (by decide +kernel)).trans ?_
  refine (Go_stl (h := mI h I) (y := 289) (ip := 9) (a := 0) (c := 0) (by decide +kernel) (p0) p1).trans ?_
  refine (Go_goto (h := mI h (zu2 I 139 sx1 sx2)) (y := 289) (ip := 10) (a := 0) (b := 0) (c := 17) (by decide +kernel)).trans ?_
  rfl

theorem b289_11 {h : HP} {I : Nat → Int → Int} {x1 : Int} {x2 : Int} {x3 : Int} {x4 : Int} {v6 : MV} {sr0 : Option Nat} : Go 289 11 [.inr (.inl (some 1)), .inl x1, .inl x2, .inl x3, .inl x4, .inr (.inl (some 139)), v6] [.inr (.inl sr0)] (mI h I) = some (mI h I, .inl (some (.inl 1))) := by
  refine (Go_astore (h := mI h I) (y := 289) (ip := 11) (a := 0) (b := 6) (c := 0) (by decide +kernel) rfl).trans ?_
  refine (Go_const (h := mI h I) (y := 289) (ip := 12) (a := 1) (b := 0) (c := 0) (by decide +kernel)).trans ?_
  refine (Go_iret (h := mI h I) (y := 289) (ip := 13) (a := 0) (b := 0) (c := 0) (by decide +kernel) (Or.inl rfl)).trans ?_
  rfl

theorem b289_14 {h : HP} {I : Nat → Int → Int} {x1 : Int} {x2 : Int} {x3 : Int} {x4 : Int} {v6 : MV} {sr0 : Option Nat} : Go 289 14 [.inr (.inl (some 1)), .inl x1, .inl x2, .inl x3, .inl x4, .inr (.inl (some 139)), v6] [.inr (.inl sr0)] (mI h I) = some (mI h I, .inl (some (.inl 2))) := by
  refine (Go_astore (h := mI h I) (y := 289) (ip := 14) (a := 0) (b := 6) (c := 0) (by decide +kernel) rfl).trans ?_
  refine (Go_const (h := mI h I) (y := 289) (ip := 15) (a := 2) (b := 0) (c := 0) (by decide +kernel)).trans ?_
  refine (Go_iret (h := mI h I) (y := 289) (ip := 16) (a := 0) (b := 0) (c := 0) (by decide +kernel) (Or.inl rfl)).trans ?_
  rfl

theorem b289_17 {h : HP} {I : Nat → Int → Int} {x1 : Int} {x2 : Int} {x3 : Int} {x4 : Int} {v6 : MV} : Go 289 17 [.inr (.inl (some 1)), .inl x1, .inl x2, .inl x3, .inl x4, .inr (.inl (some 139)), v6] [] (mI h I) = some (mI h I, .inl (some (.inl 0))) := by
  refine (Go_const (h := mI h I) (y := 289) (ip := 17) (a := 0) (b := 0) (c := 0) (by decide +kernel)).trans ?_
  refine (Go_iret (h := mI h I) (y := 289) (ip := 18) (a := 0) (b := 0) (c := 0) (by decide +kernel) (Or.inl rfl)).trans ?_
  rfl

theorem b290_0 {h : HP} {I : Nat → Int → Int} {x1 : Int} {v3 : MV} (p0 : LX 10 h 1) : Go 290 0 [.inr (.inl (some 1)), .inl x1, .inr (.inl (some 139)), v3] [] (mI h I) = cal 290 4 [.inr (.inl (some 1)), .inl x1, .inr (.inl (some 139)), v3] [.inl 0, .inr (.inl (some 139))] 5 (Go 116 0 [.inr (.inl (some 1)), .inl x1, vU, vU] [] (mI h I)) := by
  refine (Go_aload (h := mI h I) (y := 290) (ip := 0) (a := 0) (b := 2) (c := 0) (by decide +kernel) rfl).trans ?_
  refine (Go_const (h := mI h I) (y := 290) (ip := 1) (a := 0) (b := 0) (c := 0) (by decide +kernel)).trans ?_
  refine (Go_aload (h := mI h I) (y := 290) (ip := 2) (a := 0) (b := 0) (c := 0) (by decide +kernel) rfl).trans ?_
  refine (Go_iload (h := mI h I) (y := 290) (ip := 3) (a := 0) (b := 1) (c := 0) (by decide +kernel) rfl).trans ?_
  refine (Go_call3 (h := mI h I) (y := 290) (ip := 4) (pc := 4) (a := 247) (z := 116) (c := 0) (as := [.inr (.inl (some 1)), .inl x1]) (rest := [.inl 0, .inr (.inl (some 139))]) (by decide +kernel) (by decide +kernel) rfl rfl (zrecv_v rfl (LX_t p0)) rfl).trans ?_
  rfl

theorem b290_5 {h : HP} {I : Nat → Int → Int} {x1 : Int} {v3 : MV} {sx1 : Int} {sx2 : Int} : Go 290 5 [.inr (.inl (some 1)), .inl x1, .inr (.inl (some 139)), v3] [.inl sx2, .inl sx1, .inr (.inl (some 139))] (mI h I) = if sx2 = 0 then Go 290 8 [.inr (.inl (some 1)), .inl x1, .inr (.inl (some 139)), v3] [.inl sx1, .inr (.inl (some 139))] (mI h I) else Go 290 6 [.inr (.inl (some 1)), .inl x1, .inr (.inl (some 139)), v3] [.inl sx1, .inr (.inl (some 139))] (mI h I) := by
  refine (Go_ifeq (y := 290) (ip := 5) (a := 0) (c := 8) (by decide +kernel)).trans ?_
  rfl

theorem b290_6 {h : HP} {I : Nat → Int → Int} {x1 : Int} {v3 : MV} {sx1 : Int} : Go 290 6 [.inr (.inl (some 1)), .inl x1, .inr (.inl (some 139)), v3] [.inl sx1, .inr (.inl (some 139))] (mI h I) = Go 290 9 [.inr (.inl (some 1)), .inl x1, .inr (.inl (some 139)), v3] [.inr (.inr 1), .inl sx1, .inr (.inl (some 139))] (mI h I) := by
  refine (Go_lconst (h := mI h I) (y := 290) (ip := 6) (a := 1) (b := 0) (c := 0) (by decide +kernel)).trans ?_
  refine (Go_goto (h := mI h I) (y := 290) (ip := 7) (a := 0) (b := 0) (c := 9) (by decide +kernel)).trans ?_
  rfl

theorem b290_8 {h : HP} {I : Nat → Int → Int} {x1 : Int} {v3 : MV} {sx1 : Int} : Go 290 8 [.inr (.inl (some 1)), .inl x1, .inr (.inl (some 139)), v3] [.inl sx1, .inr (.inl (some 139))] (mI h I) = Go 290 9 [.inr (.inl (some 1)), .inl x1, .inr (.inl (some 139)), v3] [.inr (.inr 0), .inl sx1, .inr (.inl (some 139))] (mI h I) := by
  refine (Go_lconst (h := mI h I) (y := 290) (ip := 8) (a := 0) (b := 0) (c := 0) (by decide +kernel)).trans ?_
  rfl

theorem b290_9 {h : HP} {I : Nat → Int → Int} {x1 : Int} {v3 : MV} {sx1 : Int} {sw2 : Int} (p0 : hK h 139 = (2, 1)) (p1 : 0 ≤ sx1 ∧ sx1 < 1) : Go 290 9 [.inr (.inl (some 1)), .inl x1, .inr (.inl (some 139)), v3] [.inr (.inr sw2), .inl sx1, .inr (.inl (some 139))] (mI h I) = Go 290 17 [.inr (.inl (some 1)), .inl x1, .inr (.inl (some 139)), v3] [] (mI h (zu2 I 139 sx1 sw2)) := by
  refine (Go_stl (h := mI h I) (y := 290) (ip := 9) (a := 0) (c := 0) (by decide +kernel) (p0) p1).trans ?_
  refine (Go_goto (h := mI h (zu2 I 139 sx1 sw2)) (y := 290) (ip := 10) (a := 0) (b := 0) (c := 17) (by decide +kernel)).trans ?_
  rfl

theorem b290_11 {h : HP} {I : Nat → Int → Int} {x1 : Int} {v3 : MV} {sr0 : Option Nat} : Go 290 11 [.inr (.inl (some 1)), .inl x1, .inr (.inl (some 139)), v3] [.inr (.inl sr0)] (mI h I) = some (mI h I, .inl (some (.inl 1))) := by
  refine (Go_astore (h := mI h I) (y := 290) (ip := 11) (a := 0) (b := 3) (c := 0) (by decide +kernel) rfl).trans ?_
  refine (Go_const (h := mI h I) (y := 290) (ip := 12) (a := 1) (b := 0) (c := 0) (by decide +kernel)).trans ?_
  refine (Go_iret (h := mI h I) (y := 290) (ip := 13) (a := 0) (b := 0) (c := 0) (by decide +kernel) (Or.inl rfl)).trans ?_
  rfl

theorem b290_14 {h : HP} {I : Nat → Int → Int} {x1 : Int} {v3 : MV} {sr0 : Option Nat} : Go 290 14 [.inr (.inl (some 1)), .inl x1, .inr (.inl (some 139)), v3] [.inr (.inl sr0)] (mI h I) = some (mI h I, .inl (some (.inl 2))) := by
  refine (Go_astore (h := mI h I) (y := 290) (ip := 14) (a := 0) (b := 3) (c := 0) (by decide +kernel) rfl).trans ?_
  refine (Go_const (h := mI h I) (y := 290) (ip := 15) (a := 2) (b := 0) (c := 0) (by decide +kernel)).trans ?_
  refine (Go_iret (h := mI h I) (y := 290) (ip := 16) (a := 0) (b := 0) (c := 0) (by decide +kernel) (Or.inl rfl)).trans ?_
  rfl

theorem b290_17 {h : HP} {I : Nat → Int → Int} {x1 : Int} {v3 : MV} : Go 290 17 [.inr (.inl (some 1)), .inl x1, .inr (.inl (some 139)), v3] [] (mI h I) = some (mI h I, .inl (some (.inl 0))) := by
  refine (Go_const (h := mI h I) (y := 290) (ip := 17) (a := 0) (b := 0) (c := 0) (by decide +kernel)).trans ?_
  refine (Go_iret (h := mI h I) (y := 290) (ip := 18) (a := 0) (b := 0) (c := 0) (by decide +kernel) (Or.inl rfl)).trans ?_
  rfl

theorem b291_0 {h : HP} {I : Nat → Int → Int} {x1 : Int} {x2 : Int} {v4 : MV} (p0 : LX 10 h 1) : Go 291 0 [.inr (.inl (some 1)), .inl x1, .inl x2, .inr (.inl (some 139)), v4] [] (mI h I) = cal 291 5 [.inr (.inl (some 1)), .inl x1, .inl x2, .inr (.inl (some 139)), v4] [.inl 0, .inr (.inl (some 139))] 6 (Go 117 0 [.inr (.inl (some 1)), .inl x1, .inl x2, vU] [] (mI h I)) := by
  refine (Go_aload (h := mI h I) (y := 291) (ip := 0) (a := 0) (b := 3) (c := 0) (by decide +kernel) rfl).trans ?_
  refine (Go_const (h := mI h I) (y := 291) (ip := 1) (a := 0) (b := 0) (c := 0) (by decide +kernel)).trans ?_
  refine (Go_aload (h := mI h I) (y := 291) (ip := 2) (a := 0) (b := 0) (c := 0) (by decide +kernel) rfl).trans ?_
  refine (Go_iload (h := mI h I) (y := 291) (ip := 3) (a := 0) (b := 1) (c := 0) (by decide +kernel) rfl).trans ?_
  refine (Go_iload (h := mI h I) (y := 291) (ip := 4) (a := 0) (b := 2) (c := 0) (by decide +kernel) rfl).trans ?_
  refine (Go_call3 (h := mI h I) (y := 291) (ip := 5) (pc := 5) (a := 248) (z := 117) (c := 0) (as := [.inr (.inl (some 1)), .inl x1, .inl x2]) (rest := [.inl 0, .inr (.inl (some 139))]) (by decide +kernel) (by decide +kernel) rfl rfl (zrecv_v rfl (LX_t p0)) rfl).trans ?_
  rfl

theorem b291_6 {h : HP} {I : Nat → Int → Int} {x1 : Int} {x2 : Int} {v4 : MV} {sx1 : Int} {sx2 : Int} (p0 : hK h 139 = (2, 1)) (p1 : 0 ≤ sx1 ∧ sx1 < 1) : Go 291 6 [.inr (.inl (some 1)), .inl x1, .inl x2, .inr (.inl (some 139)), v4] [.inl sx2, .inl sx1, .inr (.inl (some 139))] (mI h I) = Go 291 12 [.inr (.inl (some 1)), .inl x1, .inl x2, .inr (.inl (some 139)), v4] [] (mI h (zu2 I 139 sx1 sx2)) := by
  refine (Go_i2l (h := mI h I) (y := 291) (ip := 6) (a := 0) (b := 0) (c := 0) (by decide +kernel)).trans ?_
  refine (Go_stl (h := mI h I) (y := 291) (ip := 7) (a := 0) (c := 0) (by decide +kernel) (p0) p1).trans ?_
  refine (Go_goto (h := mI h (zu2 I 139 sx1 sx2)) (y := 291) (ip := 8) (a := 0) (b := 0) (c := 12) (by decide +kernel)).trans ?_
  rfl

theorem b291_9 {h : HP} {I : Nat → Int → Int} {x1 : Int} {x2 : Int} {v4 : MV} {sr0 : Option Nat} : Go 291 9 [.inr (.inl (some 1)), .inl x1, .inl x2, .inr (.inl (some 139)), v4] [.inr (.inl sr0)] (mI h I) = some (mI h I, .inl (some (.inl 1))) := by
  refine (Go_astore (h := mI h I) (y := 291) (ip := 9) (a := 0) (b := 4) (c := 0) (by decide +kernel) rfl).trans ?_
  refine (Go_const (h := mI h I) (y := 291) (ip := 10) (a := 1) (b := 0) (c := 0) (by decide +kernel)).trans ?_
  refine (Go_iret (h := mI h I) (y := 291) (ip := 11) (a := 0) (b := 0) (c := 0) (by decide +kernel) (Or.inl rfl)).trans ?_
  rfl

theorem b291_12 {h : HP} {I : Nat → Int → Int} {x1 : Int} {x2 : Int} {v4 : MV} : Go 291 12 [.inr (.inl (some 1)), .inl x1, .inl x2, .inr (.inl (some 139)), v4] [] (mI h I) = some (mI h I, .inl (some (.inl 0))) := by
  refine (Go_const (h := mI h I) (y := 291) (ip := 12) (a := 0) (b := 0) (c := 0) (by decide +kernel)).trans ?_
  refine (Go_iret (h := mI h I) (y := 291) (ip := 13) (a := 0) (b := 0) (c := 0) (by decide +kernel) (Or.inl rfl)).trans ?_
  rfl

theorem b292_0 {h : HP} {I : Nat → Int → Int} {x1 : Int} {v3 : MV} (p0 : LX 10 h 1) : Go 292 0 [.inr (.inl (some 1)), .inl x1, .inr (.inl (some 139)), v3] [] (mI h I) = cal 292 4 [.inr (.inl (some 1)), .inl x1, .inr (.inl (some 139)), v3] [.inl 0, .inr (.inl (some 139))] 5 (Go 118 0 [.inr (.inl (some 1)), .inl x1] [] (mI h I)) := by
  refine (Go_aload (h := mI h I) (y := 292) (ip := 0) (a := 0) (b := 2) (c := 0) (by decide +kernel) rfl).trans ?_
  refine (Go_const (h := mI h I) (y := 292) (ip := 1) (a := 0) (b := 0) (c := 0) (by decide +kernel)).trans ?_
  refine (Go_aload (h := mI h I) (y := 292) (ip := 2) (a := 0) (b := 0) (c := 0) (by decide +kernel) rfl).trans ?_
  refine (Go_iload (h := mI h I) (y := 292) (ip := 3) (a := 0) (b := 1) (c := 0) (by decide +kernel) rfl).trans ?_
  refine (Go_call3 (h := mI h I) (y := 292) (ip := 4) (pc := 4) (a := 249) (z := 118) (c := 0) (as := [.inr (.inl (some 1)), .inl x1]) (rest := [.inl 0, .inr (.inl (some 139))]) (by decide +kernel) (by decide +kernel) rfl rfl (zrecv_v rfl (LX_t p0)) rfl).trans ?_
  rfl

theorem b292_5 {h : HP} {I : Nat → Int → Int} {x1 : Int} {v3 : MV} {sx1 : Int} {sx2 : Int} (p0 : hK h 139 = (2, 1)) (p1 : 0 ≤ sx1 ∧ sx1 < 1) : Go 292 5 [.inr (.inl (some 1)), .inl x1, .inr (.inl (some 139)), v3] [.inl sx2, .inl sx1, .inr (.inl (some 139))] (mI h I) = Go 292 11 [.inr (.inl (some 1)), .inl x1, .inr (.inl (some 139)), v3] [] (mI h (zu2 I 139 sx1 sx2)) := by
  refine (Go_i2l (h := mI h I) (y := 292) (ip := 5) (a := 0) (b := 0) (c := 0) (by decide +kernel)).trans ?_
  refine (Go_stl (h := mI h I) (y := 292) (ip := 6) (a := 0) (c := 0) (by decide +kernel) (p0) p1).trans ?_
  refine (Go_goto (h := mI h (zu2 I 139 sx1 sx2)) (y := 292) (ip := 7) (a := 0) (b := 0) (c := 11) (by decide +kernel)).trans ?_
  rfl

theorem b292_8 {h : HP} {I : Nat → Int → Int} {x1 : Int} {v3 : MV} {sr0 : Option Nat} : Go 292 8 [.inr (.inl (some 1)), .inl x1, .inr (.inl (some 139)), v3] [.inr (.inl sr0)] (mI h I) = some (mI h I, .inl (some (.inl 1))) := by
  refine (Go_astore (h := mI h I) (y := 292) (ip := 8) (a := 0) (b := 3) (c := 0) (by decide +kernel) rfl).trans ?_
  refine (Go_const (h := mI h I) (y := 292) (ip := 9) (a := 1) (b := 0) (c := 0) (by decide +kernel)).trans ?_
  refine (Go_iret (h := mI h I) (y := 292) (ip := 10) (a := 0) (b := 0) (c := 0) (by decide +kernel) (Or.inl rfl)).trans ?_
  rfl

theorem b292_11 {h : HP} {I : Nat → Int → Int} {x1 : Int} {v3 : MV} : Go 292 11 [.inr (.inl (some 1)), .inl x1, .inr (.inl (some 139)), v3] [] (mI h I) = some (mI h I, .inl (some (.inl 0))) := by
  refine (Go_const (h := mI h I) (y := 292) (ip := 11) (a := 0) (b := 0) (c := 0) (by decide +kernel)).trans ?_
  refine (Go_iret (h := mI h I) (y := 292) (ip := 12) (a := 0) (b := 0) (c := 0) (by decide +kernel) (Or.inl rfl)).trans ?_
  rfl

theorem b293_0 {h : HP} {I : Nat → Int → Int} {x1 : Int} {x2 : Int} {v4 : MV} (p0 : LX 10 h 1) : Go 293 0 [.inr (.inl (some 1)), .inl x1, .inl x2, .inr (.inl (some 139)), v4] [] (mI h I) = cal 293 5 [.inr (.inl (some 1)), .inl x1, .inl x2, .inr (.inl (some 139)), v4] [.inl 0, .inr (.inl (some 139))] 6 (Go 119 0 [.inr (.inl (some 1)), .inl x1, .inl x2, vU] [] (mI h I)) := by
  refine (Go_aload (h := mI h I) (y := 293) (ip := 0) (a := 0) (b := 3) (c := 0) (by decide +kernel) rfl).trans ?_
  refine (Go_const (h := mI h I) (y := 293) (ip := 1) (a := 0) (b := 0) (c := 0) (by decide +kernel)).trans ?_
  refine (Go_aload (h := mI h I) (y := 293) (ip := 2) (a := 0) (b := 0) (c := 0) (by decide +kernel) rfl).trans ?_
  refine (Go_iload (h := mI h I) (y := 293) (ip := 3) (a := 0) (b := 1) (c := 0) (by decide +kernel) rfl).trans ?_
  refine (Go_iload (h := mI h I) (y := 293) (ip := 4) (a := 0) (b := 2) (c := 0) (by decide +kernel) rfl).trans ?_
  refine (Go_call3 (h := mI h I) (y := 293) (ip := 5) (pc := 5) (a := 250) (z := 119) (c := 0) (as := [.inr (.inl (some 1)), .inl x1, .inl x2]) (rest := [.inl 0, .inr (.inl (some 139))]) (by decide +kernel) (by decide +kernel) rfl rfl (zrecv_v rfl (LX_t p0)) rfl).trans ?_
  rfl

theorem b293_6 {h : HP} {I : Nat → Int → Int} {x1 : Int} {x2 : Int} {v4 : MV} {sx1 : Int} {sx2 : Int} : Go 293 6 [.inr (.inl (some 1)), .inl x1, .inl x2, .inr (.inl (some 139)), v4] [.inl sx2, .inl sx1, .inr (.inl (some 139))] (mI h I) = if sx2 = 0 then Go 293 9 [.inr (.inl (some 1)), .inl x1, .inl x2, .inr (.inl (some 139)), v4] [.inl sx1, .inr (.inl (some 139))] (mI h I) else Go 293 7 [.inr (.inl (some 1)), .inl x1, .inl x2, .inr (.inl (some 139)), v4] [.inl sx1, .inr (.inl (some 139))] (mI h I) := by
  refine (Go_ifeq (y := 293) (ip := 6) (a := 0) (c := 9) (by decide +kernel)).trans ?_
  rfl

theorem b293_7 {h : HP} {I : Nat → Int → Int} {x1 : Int} {x2 : Int} {v4 : MV} {sx1 : Int} : Go 293 7 [.inr (.inl (some 1)), .inl x1, .inl x2, .inr (.inl (some 139)), v4] [.inl sx1, .inr (.inl (some 139))] (mI h I) = Go 293 10 [.inr (.inl (some 1)), .inl x1, .inl x2, .inr (.inl (some 139)), v4] [.inr (.inr 1), .inl sx1, .inr (.inl (some 139))] (mI h I) := by
  refine (Go_lconst (h := mI h I) (y := 293) (ip := 7) (a := 1) (b := 0) (c := 0) (by decide +kernel)).trans ?_
  refine (Go_goto (h := mI h I) (y := 293) (ip := 8) (a := 0) (b := 0) (c := 10) (by decide +kernel)).trans ?_
  rfl

theorem b293_9 {h : HP} {I : Nat → Int → Int} {x1 : Int} {x2 : Int} {v4 : MV} {sx1 : Int} : Go 293 9 [.inr (.inl (some 1)), .inl x1, .inl x2, .inr (.inl (some 139)), v4] [.inl sx1, .inr (.inl (some 139))] (mI h I) = Go 293 10 [.inr (.inl (some 1)), .inl x1, .inl x2, .inr (.inl (some 139)), v4] [.inr (.inr 0), .inl sx1, .inr (.inl (some 139))] (mI h I) := by
  refine (Go_lconst (h := mI h I) (y := 293) (ip := 9) (a := 0) (b := 0) (c := 0) (by decide +kernel)).trans ?_
  rfl

theorem b293_10 {h : HP} {I : Nat → Int → Int} {x1 : Int} {x2 : Int} {v4 : MV} {sx1 : Int} {sw2 : Int} (p0 : hK h 139 = (2, 1)) (p1 : 0 ≤ sx1 ∧ sx1 < 1) : Go 293 10 [.inr (.inl (some 1)), .inl x1, .inl x2, .inr (.inl (some 139)), v4] [.inr (.inr sw2), .inl sx1, .inr (.inl (some 139))] (mI h I) = Go 293 15 [.inr (.inl (some 1)), .inl x1, .inl x2, .inr (.inl (some 139)), v4] [] (mI h (zu2 I 139 sx1 sw2)) := by
  refine (Go_stl (h := mI h I) (y := 293) (ip := 10) (a := 0) (c := 0) (by decide +kernel) (p0) p1).trans ?_
  refine (Go_goto (h := mI h (zu2 I 139 sx1 sw2)) (y := 293) (ip := 11) (a := 0) (b := 0) (c := 15) (by decide +kernel)).trans ?_
  rfl

theorem b293_12 {h : HP} {I : Nat → Int → Int} {x1 : Int} {x2 : Int} {v4 : MV} {sr0 : Option Nat} : Go 293 12 [.inr (.inl (some 1)), .inl x1, .inl x2, .inr (.inl (some 139)), v4] [.inr (.inl sr0)] (mI h I) = some (mI h I, .inl (some (.inl 1))) := by
  refine (Go_astore (h := mI h I) (y := 293) (ip := 12) (a := 0) (b := 4) (c := 0) (by decide +kernel) rfl).trans ?_
  refine (Go_const (h := mI h I) (y := 293) (ip := 13) (a := 1) (b := 0) (c := 0) (by decide +kernel)).trans ?_
  refine (Go_iret (h := mI h I) (y := 293) (ip := 14) (a := 0) (b := 0) (c := 0) (by decide +kernel) (Or.inl rfl)).trans ?_
  rfl

theorem b293_15 {h : HP} {I : Nat → Int → Int} {x1 : Int} {x2 : Int} {v4 : MV} : Go 293 15 [.inr (.inl (some 1)), .inl x1, .inl x2, .inr (.inl (some 139)), v4] [] (mI h I) = some (mI h I, .inl (some (.inl 0))) := by
  refine (Go_const (h := mI h I) (y := 293) (ip := 15) (a := 0) (b := 0) (c := 0) (by decide +kernel)).trans ?_
  refine (Go_iret (h := mI h I) (y := 293) (ip := 16) (a := 0) (b := 0) (c := 0) (by decide +kernel) (Or.inl rfl)).trans ?_
  rfl

theorem b294_0 {h : HP} {I : Nat → Int → Int} {x1 : Int} {x2 : Int} {v4 : MV} (p0 : LX 10 h 1) : Go 294 0 [.inr (.inl (some 1)), .inl x1, .inl x2, .inr (.inl (some 139)), v4] [] (mI h I) = cal 294 5 [.inr (.inl (some 1)), .inl x1, .inl x2, .inr (.inl (some 139)), v4] [.inl 0, .inr (.inl (some 139))] 6 (Go 120 0 [.inr (.inl (some 1)), .inl x1, .inl x2, vU] [] (mI h I)) := by
  refine (Go_aload (h := mI h I) (y := 294) (ip := 0) (a := 0) (b := 3) (c := 0) (by decide +kernel) rfl).trans ?_
  refine (Go_const (h := mI h I) (y := 294) (ip := 1) (a := 0) (b := 0) (c := 0) (by decide +kernel)).trans ?_
  refine (Go_aload (h := mI h I) (y := 294) (ip := 2) (a := 0) (b := 0) (c := 0) (by decide +kernel) rfl).trans ?_
  refine (Go_iload (h := mI h I) (y := 294) (ip := 3) (a := 0) (b := 1) (c := 0) (by decide +kernel) rfl).trans ?_
  refine (Go_iload (h := mI h I) (y := 294) (ip := 4) (a := 0) (b := 2) (c := 0) (by decide +kernel) rfl).trans ?_
  refine (Go_call3 (h := mI h I) (y := 294) (ip := 5) (pc := 5) (a := 251) (z := 120) (c := 0) (as := [.inr (.inl (some 1)), .inl x1, .inl x2]) (rest := [.inl 0, .inr (.inl (some 139))]) (by decide +kernel) (by decide +kernel) rfl rfl (zrecv_v rfl (LX_t p0)) rfl).trans ?_
  rfl

theorem b294_6 {h : HP} {I : Nat → Int → Int} {x1 : Int} {x2 : Int} {v4 : MV} {sx1 : Int} {sx2 : Int} : Go 294 6 [.inr (.inl (some 1)), .inl x1, .inl x2, .inr (.inl (some 139)), v4] [.inl sx2, .inl sx1, .inr (.inl (some 139))] (mI h I) = if sx2 = 0 then Go 294 9 [.inr (.inl (some 1)), .inl x1, .inl x2, .inr (.inl (some 139)), v4] [.inl sx1, .inr (.inl (some 139))] (mI h I) else Go 294 7 [.inr (.inl (some 1)), .inl x1, .inl x2, .inr (.inl (some 139)), v4] [.inl sx1, .inr (.inl (some 139))] (mI h I) := by
  refine (Go_ifeq (y := 294) (ip := 6) (a := 0) (c := 9) (by decide +kernel)).trans ?_
  rfl

theorem b294_7 {h : HP} {I : Nat → Int → Int} {x1 : Int} {x2 : Int} {v4 : MV} {sx1 : Int} : Go 294 7 [.inr (.inl (some 1)), .inl x1, .inl x2, .inr (.inl (some 139)), v4] [.inl sx1, .inr (.inl (some 139))] (mI h I) = Go 294 10 [.inr (.inl (some 1)), .inl x1, .inl x2, .inr (.inl (some 139)), v4] [.inr (.inr 1), .inl sx1, .inr (.inl (some 139))] (mI h I) := by
  refine (Go_lconst (h := mI h I) (y := 294) (ip := 7) (a := 1) (b := 0) (c := 0) (by decide +kernel)).trans ?_
  refine (Go_goto (h := mI h I) (y := 294) (ip := 8) (a := 0) (b := 0) (c := 10) (by decide +kernel)).trans ?_
  rfl

theorem b294_9 {h : HP} {I : Nat → Int → Int} {x1 : Int} {x2 : Int} {v4 : MV} {sx1 : Int} : Go 294 9 [.inr (.inl (some 1)), .inl x1, .inl x2, .inr (.inl (some 139)), v4] [.inl sx1, .inr (.inl (some 139))] (mI h I) = Go 294 10 [.inr (.inl (some 1)), .inl x1, .inl x2, .inr (.inl (some 139)), v4] [.inr (.inr 0), .inl sx1, .inr (.inl (some 139))] (mI h I) := by
  refine (Go_lconst (h := mI h I) (y := 294) (ip := 9) (a := 0) (b := 0) (c := 0) (by decide +kernel)).trans ?_
  rfl

theorem b294_10 {h : HP} {I : Nat → Int → Int} {x1 : Int} {x2 : Int} {v4 : MV} {sx1 : Int} {sw2 : Int} (p0 : hK h 139 = (2, 1)) (p1 : 0 ≤ sx1 ∧ sx1 < 1) : Go 294 10 [.inr (.inl (some 1)), .inl x1, .inl x2, .inr (.inl (some 139)), v4] [.inr (.inr sw2), .inl sx1, .inr (.inl (some 139))] (mI h I) = Go 294 15 [.inr (.inl (some 1)), .inl x1, .inl x2, .inr (.inl (some 139)), v4] [] (mI h (zu2 I 139 sx1 sw2)) := by
  refine (Go_stl (h := mI h I) (y := 294) (ip := 10) (a := 0) (c := 0) (by decide +kernel) (p0) p1).trans ?_
  refine (Go_goto (h := mI h (zu2 I 139 sx1 sw2)) (y := 294) (ip := 11) (a := 0) (b := 0) (c := 15) (by decide +kernel)).trans ?_
  rfl

theorem b294_12 {h : HP} {I : Nat → Int → Int} {x1 : Int} {x2 : Int} {v4 : MV} {sr0 : Option Nat} : Go 294 12 [.inr (.inl (some 1)), .inl x1, .inl x2, .inr (.inl (some 139)), v4] [.inr (.inl sr0)] (mI h I) = some (mI h I, .inl (some (.inl 1))) := by
  refine (Go_astore (h := mI h I) (y := 294) (ip := 12) (a := 0) (b := 4) (c := 0) (by decide +kernel) rfl).trans ?_
  refine (Go_const (h := mI h I) (y := 294) (ip := 13) (a := 1) (b := 0) (c := 0) (by decide +kernel)).trans ?_
  refine (Go_iret (h := mI h I) (y := 294) (ip := 14) (a := 0) (b := 0) (c := 0) (by decide +kernel) (Or.inl rfl)).trans ?_
  rfl

theorem b294_15 {h : HP} {I : Nat → Int → Int} {x1 : Int} {x2 : Int} {v4 : MV} : Go 294 15 [.inr (.inl (some 1)), .inl x1, .inl x2, .inr (.inl (some 139)), v4] [] (mI h I) = some (mI h I, .inl (some (.inl 0))) := by
  refine (Go_const (h := mI h I) (y := 294) (ip := 15) (a := 0) (b := 0) (c := 0) (by decide +kernel)).trans ?_
  refine (Go_iret (h := mI h I) (y := 294) (ip := 16) (a := 0) (b := 0) (c := 0) (by decide +kernel) (Or.inl rfl)).trans ?_
  rfl

theorem b295_0 {h : HP} {I : Nat → Int → Int} {x1 : Int} {x2 : Int} {x3 : Int} {v5 : MV} (p0 : LX 10 h 1) : Go 295 0 [.inr (.inl (some 1)), .inl x1, .inl x2, .inl x3, .inr (.inl (some 139)), v5] [] (mI h I) = cal 295 7 [.inr (.inl (some 1)), .inl x1, .inl x2, .inl x3, .inr (.inl (some 139)), v5] [.inl 0, .inr (.inl (some 139))] 7 (Go 121 0 [.inr (.inl (some 1)), .inl x1, .inl x2, .inl x3, vU, vU, vU, vU, vU] [] (mI h I)) := by
  refine (Go_aload (h := mI h I) (y := 295) (ip := 0) (a := 0) (b := 4) (c := 0) (by decide +kernel) rfl).trans ?_
  refine (Go_const (h := mI h I) (y := 295) (ip := 1) (a := 0) (b := 0) (c := 0) (by decide +kernel)).trans ?_
  refine (Go_aload (h := mI h I) (y := 295) (ip := 2) (a := 0) (b := 0) (c := 0) (by decide +kernel) rfl).trans ?_
  refine (Go_iload (h := mI h I) (y := 295) (ip := 3) (a := 0) (b := 1) (c := 0) (by decide +kernel) rfl).trans ?_
  refine (Go_iload (h := mI h I) (y := 295) (ip := 4) (a := 0) (b := 2) (c := 0) (by decide +kernel) rfl).trans ?_
  refine (Go_iload (h := mI h I) (y := 295) (ip := 5) (a := 0) (b := 3) (c := 0) (by decide +kernel) rfl).trans ?_
  refine (Go_call3 (h := mI h I) (y := 295) (ip := 6) (pc := 7) (a := 252) (z := 121) (c := 0) (as := [.inr (.inl (some 1)), .inl x1, .inl x2, .inl x3]) (rest := [.inl 0, .inr (.inl (some 139))]) (by decide +kernel) (by decide +kernel) rfl rfl (zrecv_v rfl (LX_t p0)) rfl).trans ?_
  rfl

theorem b295_7 {h : HP} {I : Nat → Int → Int} {x1 : Int} {x2 : Int} {x3 : Int} {v5 : MV} {sx1 : Int} {sx2 : Int} (p0 : hK h 139 = (2, 1)) (p1 : 0 ≤ sx1 ∧ sx1 < 1) : Go 295 7 [.inr (.inl (some 1)), .inl x1, .inl x2, .inl x3, .inr (.inl (some 139)), v5] [.inl sx2, .inl sx1, .inr (.inl (some 139))] (mI h I) = Go 295 19 [.inr (.inl (some 1)), .inl x1, .inl x2, .inl x3, .inr (.inl (some 139)), v5] [] (mI h (zu2 I 139 sx1 sx2)) := by
  refine (Go_i2l (h := mI h I) (y := 295) (ip := 7) (a := 0) (b := 0) (c := 0) (by decide +kernel)).trans ?_
  refine (Go_stl (h := mI h I) (y := 295) (ip := 8) (a := 0) (c := 0) (by decide +kernel) (p0) p1).trans ?_
  refine (Go_goto (h := mI h (zu2 I 139 sx1 sx2)) (y := 295) (ip := 9) (a := 0) (b := 0) (c := 19) (by decide +kernel)).trans ?_
  rfl

theorem b295_10 {h : HP} {I : Nat → Int → Int} {x1 : Int} {x2 : Int} {x3 : Int} {v5 : MV} {sr0 : Option Nat} : Go 295 10 [.inr (.inl (some 1)), .inl x1, .inl x2, .inl x3, .inr (.inl (some 139)), v5] [.inr (.inl sr0)] (mI h I) = some (mI h I, .inl (some (.inl 1))) := by
  refine (Go_astore (h := mI h I) (y := 295) (ip := 10) (a := 0) (b := 5) (c := 0) (by decide +kernel) rfl).trans ?_
  refine (Go_const (h := mI h I) (y := 295) (ip := 11) (a := 1) (b := 0) (c := 0) (by decide +kernel)).trans ?_
  refine (Go_iret (h := mI h I) (y := 295) (ip := 12) (a := 0) (b := 0) (c := 0) (by decide +kernel) (Or.inl rfl)).trans ?_
  rfl

theorem b295_13 {h : HP} {I : Nat → Int → Int} {x1 : Int} {x2 : Int} {x3 : Int} {v5 : MV} {sr0 : Option Nat} : Go 295 13 [.inr (.inl (some 1)), .inl x1, .inl x2, .inl x3, .inr (.inl (some 139)), v5] [.inr (.inl sr0)] (mI h I) = some (mI h I, .inl (some (.inl 2))) := by
  refine (Go_astore (h := mI h I) (y := 295) (ip := 13) (a := 0) (b := 5) (c := 0) (by decide +kernel) rfl).trans ?_
  refine (Go_const (h := mI h I) (y := 295) (ip := 14) (a := 2) (b := 0) (c := 0) (by decide +kernel)).trans ?_
  refine (Go_iret (h := mI h I) (y := 295) (ip := 15) (a := 0) (b := 0) (c := 0) (by decide +kernel) (Or.inl rfl)).trans ?_
  rfl

theorem b295_16 {h : HP} {I : Nat → Int → Int} {x1 : Int} {x2 : Int} {x3 : Int} {v5 : MV} {sr0 : Option Nat} : Go 295 16 [.inr (.inl (some 1)), .inl x1, .inl x2, .inl x3, .inr (.inl (some 139)), v5] [.inr (.inl sr0)] (mI h I) = some (mI h I, .inl (some (.inl 3))) := by
  refine (Go_astore (h := mI h I) (y := 295) (ip := 16) (a := 0) (b := 5) (c := 0) (by decide +kernel) rfl).trans ?_
  refine (Go_const (h := mI h I) (y := 295) (ip := 17) (a := 3) (b := 0) (c := 0) (by decide +kernel)).trans ?_
  refine (Go_iret (h := mI h I) (y := 295) (ip := 18) (a := 0) (b := 0) (c := 0) (by decide +kernel) (Or.inl rfl)).trans ?_
  rfl

theorem b295_19 {h : HP} {I : Nat → Int → Int} {x1 : Int} {x2 : Int} {x3 : Int} {v5 : MV} : Go 295 19 [.inr (.inl (some 1)), .inl x1, .inl x2, .inl x3, .inr (.inl (some 139)), v5] [] (mI h I) = some (mI h I, .inl (some (.inl 0))) := by
  refine (Go_const (h := mI h I) (y := 295) (ip := 19) (a := 0) (b := 0) (c := 0) (by decide +kernel)).trans ?_
  refine (Go_iret (h := mI h I) (y := 295) (ip := 20) (a := 0) (b := 0) (c := 0) (by decide +kernel) (Or.inl rfl)).trans ?_
  rfl

theorem b296_0 {h : HP} {I : Nat → Int → Int} {x1 : Int} {x2 : Int} {x3 : Int} {v5 : MV} (p0 : LX 10 h 1) : Go 296 0 [.inr (.inl (some 1)), .inl x1, .inl x2, .inl x3, .inr (.inl (some 139)), v5] [] (mI h I) = cal 296 7 [.inr (.inl (some 1)), .inl x1, .inl x2, .inl x3, .inr (.inl (some 139)), v5] [.inl 0, .inr (.inl (some 139))] 7 (Go 122 0 [.inr (.inl (some 1)), .inl x1, .inl x2, .inl x3, vU, vU, vU] [] (mI h I)) := by
  refine (Go_aload (h := mI h I) (y := 296) (ip := 0) (a := 0) (b := 4) (c := 0) (by decide +kernel) rfl).trans ?_
  refine (Go_const (h := mI h I) (y := 296) (ip := 1) (a := 0) (b := 0) (c := 0) (by decide +kernel)).trans ?_
  refine (Go_aload (h := mI h I) (y := 296) (ip := 2) (a := 0) (b := 0) (c := 0) (by decide +kernel) rfl).trans ?_
  refine (Go_iload (h := mI h I) (y := 296) (ip := 3) (a := 0) (b := 1) (c := 0) (by decide +kernel) rfl).trans ?_
  refine (Go_iload (h := mI h I) (y := 296) (ip := 4) (a := 0) (b := 2) (c := 0) (by decide +kernel) rfl).trans ?_
  refine (Go_iload (h := mI h I) (y := 296) (ip := 5) (a := 0) (b := 3) (c := 0) (by decide +kernel) rfl).trans ?_
  refine (Go_call3 (h := mI h I) (y := 296) (ip := 6) (pc := 7) (a := 253) (z := 122) (c := 0) (as := [.inr (.inl (some 1)), .inl x1, .inl x2, .inl x3]) (rest := [.inl 0, .inr (.inl (some 139))]) (by decide +kernel) (by decide +kernel) rfl rfl (zrecv_v rfl (LX_t p0)) rfl).trans ?_
  rfl

theorem b296_7 {h : HP} {I : Nat → Int → Int} {x1 : Int} {x2 : Int} {x3 : Int} {v5 : MV} {sx1 : Int} {sx2 : Int} (p0 : hK h 139 = (2, 1)) (p1 : 0 ≤ sx1 ∧ sx1 < 1) : Go 296 7 [.inr (.inl (some 1)), .inl x1, .inl x2, .inl x3, .inr (.inl (some 139)), v5] [.inl sx2, .inl sx1, .inr (.inl (some 139))] (mI h I) = Go 296 16 [.inr (.inl (some 1)), .inl x1, .inl x2, .inl x3, .inr (.inl (some 139)), v5] [] (mI h (zu2 I 139 sx1 sx2)) := by
  refine (Go_i2l (h := mI h I) (y := 296) (ip := 7) (a := 0) (b := 0) (c := 0) (by decide +kernel)).trans ?_
  refine (Go_stl (h := mI h I) (y := 296) (ip := 8) (a := 0) (c := 0) (by decide +kernel) (p0) p1).trans ?_
  refine (Go_goto (h := mI h (zu2 I 139 sx1 sx2)) (y := 296) (ip := 9) (a := 0) (b := 0) (c := 16) (by decide +kernel)).trans ?_
  rfl

theorem b296_10 {h : HP} {I : Nat → Int → Int} {x1 : Int} {x2 : Int} {x3 : Int} {v5 : MV} {sr0 : Option Nat} : Go 296 10 [.inr (.inl (some 1)), .inl x1, .inl x2, .inl x3, .inr (.inl (some 139)), v5] [.inr (.inl sr0)] (mI h I) = some (mI h I, .inl (some (.inl 1))) := by
  refine (Go_astore (h := mI h I) (y := 296) (ip := 10) (a := 0) (b := 5) (c := 0) (by decide +kernel) rfl).trans ?_
  refine (Go_const (h := mI h I) (y := 296) (ip := 11) (a := 1) (b := 0) (c := 0) (by decide +kernel)).trans ?_
  refine (Go_iret (h := mI h I) (y := 296) (ip := 12) (a := 0) (b := 0) (c := 0) (by decide +kernel) (Or.inl rfl)).trans ?_
  rfl

theorem b296_13 {h : HP} {I : Nat → Int → Int} {x1 : Int} {x2 : Int} {x3 : Int} {v5 : MV} {sr0 : Option Nat} : Go 296 13 [.inr (.inl (some 1)), .inl x1, .inl x2, .inl x3, .inr (.inl (some 139)), v5] [.inr (.inl sr0)] (mI h I) = some (mI h I, .inl (some (.inl 2))) := by
  refine (Go_astore (h := mI h I) (y := 296) (ip := 13) (a := 0) (b := 5) (c := 0) (by decide +kernel) rfl).trans ?_
  refine (Go_const (h := mI h I) (y := 296) (ip := 14) (a := 2) (b := 0) (c := 0) (by decide +kernel)).trans ?_
  refine (Go_iret (h := mI h I) (y := 296) (ip := 15) (a := 0) (b := 0) (c := 0) (by decide +kernel) (Or.inl rfl)).trans ?_
  rfl

theorem b296_16 {h : HP} {I : Nat → Int → Int} {x1 : Int} {x2 : Int} {x3 : Int} {v5 : MV} : Go 296 16 [.inr (.inl (some 1)), .inl x1, .inl x2, .inl x3, .inr (.inl (some 139)), v5] [] (mI h I) = some (mI h I, .inl (some (.inl 0))) := by
  refine (Go_const (h := mI h I) (y := 296) (ip := 16) (a := 0) (b := 0) (c := 0) (by decide +kernel)).trans ?_
  refine (Go_iret (h := mI h I) (y := 296) (ip := 17) (a := 0) (b := 0) (c := 0) (by decide +kernel) (Or.inl rfl)).trans ?_
  rfl

theorem b297_0 {h : HP} {I : Nat → Int → Int} {x1 : Int} {v3 : MV} (p0 : LX 10 h 1) : Go 297 0 [.inr (.inl (some 1)), .inl x1, .inr (.inl (some 139)), v3] [] (mI h I) = cal 297 4 [.inr (.inl (some 1)), .inl x1, .inr (.inl (some 139)), v3] [.inl 0, .inr (.inl (some 139))] 5 (Go 123 0 [.inr (.inl (some 1)), .inl x1] [] (mI h I)) := by
  refine (Go_aload (h := mI h I) (y := 297) (ip := 0) (a := 0) (b := 2) (c := 0) (by decide +kernel) rfl).trans ?_
  refine (Go_const (h := mI h I) (y := 297) (ip := 1) (a := 0) (b := 0) (c := 0) (by decide +kernel)).trans ?_
  refine (Go_aload (h := mI h I) (y := 297) (ip := 2) (a := 0) (b := 0) (c := 0) (by decide +kernel) rfl).trans ?_
  refine (Go_iload (h := mI h I) (y := 297) (ip := 3) (a := 0) (b := 1) (c := 0) (by decide +kernel) rfl).trans ?_
  refine (Go_call3 (h := mI h I) (y := 297) (ip := 4) (pc := 4) (a := 254) (z := 123) (c := 0) (as := [.inr (.inl (some 1)), .inl x1]) (rest := [.inl 0, .inr (.inl (some 139))]) (by decide +kernel) (by decide +kernel) rfl rfl (zrecv_v rfl (LX_t p0)) rfl).trans ?_
  rfl

theorem b297_5 {h : HP} {I : Nat → Int → Int} {x1 : Int} {v3 : MV} {sx1 : Int} {sx2 : Int} (p0 : hK h 139 = (2, 1)) (p1 : 0 ≤ sx1 ∧ sx1 < 1) : Go 297 5 [.inr (.inl (some 1)), .inl x1, .inr (.inl (some 139)), v3] [.inl sx2, .inl sx1, .inr (.inl (some 139))] (mI h I) = Go 297 11 [.inr (.inl (some 1)), .inl x1, .inr (.inl (some 139)), v3] [] (mI h (zu2 I 139 sx1 sx2)) := by
  refine (Go_i2l (h := mI h I) (y := 297) (ip := 5) (a := 0) (b := 0) (c := 0) (by decide +kernel)).trans ?_
  refine (Go_stl (h := mI h I) (y := 297) (ip := 6) (a := 0) (c := 0) (by decide +kernel) (p0) p1).trans ?_
  refine (Go_goto (h := mI h (zu2 I 139 sx1 sx2)) (y := 297) (ip := 7) (a := 0) (b := 0) (c := 11) (by decide +kernel)).trans ?_
  rfl

theorem b297_8 {h : HP} {I : Nat → Int → Int} {x1 : Int} {v3 : MV} {sr0 : Option Nat} : Go 297 8 [.inr (.inl (some 1)), .inl x1, .inr (.inl (some 139)), v3] [.inr (.inl sr0)] (mI h I) = some (mI h I, .inl (some (.inl 1))) := by
  refine (Go_astore (h := mI h I) (y := 297) (ip := 8) (a := 0) (b := 3) (c := 0) (by decide +kernel) rfl).trans ?_
  refine (Go_const (h := mI h I) (y := 297) (ip := 9) (a := 1) (b := 0) (c := 0) (by decide +kernel)).trans ?_
  refine (Go_iret (h := mI h I) (y := 297) (ip := 10) (a := 0) (b := 0) (c := 0) (by decide +kernel) (Or.inl rfl)).trans ?_
  rfl

theorem b297_11 {h : HP} {I : Nat → Int → Int} {x1 : Int} {v3 : MV} : Go 297 11 [.inr (.inl (some 1)), .inl x1, .inr (.inl (some 139)), v3] [] (mI h I) = some (mI h I, .inl (some (.inl 0))) := by
  refine (Go_const (h := mI h I) (y := 297) (ip := 11) (a := 0) (b := 0) (c := 0) (by decide +kernel)).trans ?_
  refine (Go_iret (h := mI h I) (y := 297) (ip := 12) (a := 0) (b := 0) (c := 0) (by decide +kernel) (Or.inl rfl)).trans ?_
  rfl

theorem b298_0 {h : HP} {I : Nat → Int → Int} {x1 : Int} {x2 : Int} {v4 : MV} (p0 : LX 10 h 1) : Go 298 0 [.inr (.inl (some 1)), .inl x1, .inl x2, .inr (.inl (some 139)), v4] [] (mI h I) = cal 298 5 [.inr (.inl (some 1)), .inl x1, .inl x2, .inr (.inl (some 139)), v4] [.inl 0, .inr (.inl (some 139))] 6 (Go 124 0 [.inr (.inl (some 1)), .inl x1, .inl x2, vU, vU] [] (mI h I)) := by
  refine (Go_aload (h := mI h I) (y := 298) (ip := 0) (a := 0) (b := 3) (c := 0) (by decide +kernel) rfl).trans ?_
  refine (Go_const (h := mI h I) (y := 298) (ip := 1) (a := 0) (b := 0) (c := 0) (by decide +kernel)).trans ?_
  refine (Go_aload (h := mI h I) (y := 298) (ip := 2) (a := 0) (b := 0) (c := 0) (by decide +kernel) rfl).trans ?_
  refine (Go_iload (h := mI h I) (y := 298) (ip := 3) (a := 0) (b := 1) (c := 0) (by decide +kernel) rfl).trans ?_
  refine (Go_iload (h := mI h I) (y := 298) (ip := 4) (a := 0) (b := 2) (c := 0) (by decide +kernel) rfl).trans ?_
  refine (Go_call3 (h := mI h I) (y := 298) (ip := 5) (pc := 5) (a := 255) (z := 124) (c := 0) (as := [.inr (.inl (some 1)), .inl x1, .inl x2]) (rest := [.inl 0, .inr (.inl (some 139))]) (by decide +kernel) (by decide +kernel) rfl rfl (zrecv_v rfl (LX_t p0)) rfl).trans ?_
  rfl

theorem b298_6 {h : HP} {I : Nat → Int → Int} {x1 : Int} {x2 : Int} {v4 : MV} {sx1 : Int} {sx2 : Int} (p0 : hK h 139 = (2, 1)) (p1 : 0 ≤ sx1 ∧ sx1 < 1) : Go 298 6 [.inr (.inl (some 1)), .inl x1, .inl x2, .inr (.inl (some 139)), v4] [.inl sx2, .inl sx1, .inr (.inl (some 139))] (mI h I) = Go 298 18 [.inr (.inl (some 1)), .inl x1, .inl x2, .inr (.inl (some 139)), v4] [] (mI h (zu2 I 139 sx1 sx2)) := by
  refine (Go_i2l (h := mI h I) (y := 298) (ip := 6) (a := 0) (b := 0) (c := 0) (by decide +kernel)).trans ?_
  refine (Go_stl (h := mI h I) (y := 298) (ip := 7) (a := 0) (c := 0) (by decide +kernel) (p0) p1).trans ?_
  refine (Go_goto (h := mI h (zu2 I 139 sx1 sx2)) (y := 298) (ip := 8) (a := 0) (b := 0) (c := 18) (by decide +kernel)).trans ?_
  rfl

theorem b298_9 {h : HP} {I : Nat → Int → Int} {x1 : Int} {x2 : Int} {v4 : MV} {sr0 : Option Nat} : Go 298 9 [.inr (.inl (some 1)), .inl x1, .inl x2, .inr (.inl (some 139)), v4] [.inr (.inl sr0)] (mI h I) = some (mI h I, .inl (some (.inl 1))) := by
  refine (Go_astore (h := mI h I) (y := 298) (ip := 9) (a := 0) (b := 4) (c := 0) (by decide +kernel) rfl).trans ?_
  refine (Go_const (h := mI h I) (y := 298) (ip := 10) (a := 1) (b := 0) (c := 0) (by decide +kernel)).trans ?_
  refine (Go_iret (h := mI h I) (y := 298) (ip := 11) (a := 0) (b := 0) (c := 0) (by decide +kernel) (Or.inl rfl)).trans ?_
  rfl

theorem b298_12 {h : HP} {I : Nat → Int → Int} {x1 : Int} {x2 : Int} {v4 : MV} {sr0 : Option Nat} : Go 298 12 [.inr (.inl (some 1)), .inl x1, .inl x2, .inr (.inl (some 139)), v4] [.inr (.inl sr0)] (mI h I) = some (mI h I, .inl (some (.inl 2))) := by
  refine (Go_astore (h := mI h I) (y := 298) (ip := 12) (a := 0) (b := 4) (c := 0) (by decide +kernel) rfl).trans ?_
  refine (Go_const (h := mI h I) (y := 298) (ip := 13) (a := 2) (b := 0) (c := 0) (by decide +kernel)).trans ?_
  refine (Go_iret (h := mI h I) (y := 298) (ip := 14) (a := 0) (b := 0) (c := 0) (by decide +kernel) (Or.inl rfl)).trans ?_
  rfl

theorem b298_15 {h : HP} {I : Nat → Int → Int} {x1 : Int} {x2 : Int} {v4 : MV} {sr0 : Option Nat} : Go 298 15 [.inr (.inl (some 1)), .inl x1, .inl x2, .inr (.inl (some 139)), v4] [.inr (.inl sr0)] (mI h I) = some (mI h I, .inl (some (.inl 3))) := by
  refine (Go_astore (h := mI h I) (y := 298) (ip := 15) (a := 0) (b := 4) (c := 0) (by decide +kernel) rfl).trans ?_
  refine (Go_const (h := mI h I) (y := 298) (ip := 16) (a := 3) (b := 0) (c := 0) (by decide +kernel)).trans ?_
  refine (Go_iret (h := mI h I) (y := 298) (ip := 17) (a := 0) (b := 0) (c := 0) (by decide +kernel) (Or.inl rfl)).trans ?_
  rfl

theorem b298_18 {h : HP} {I : Nat → Int → Int} {x1 : Int} {x2 : Int} {v4 : MV} : Go 298 18 [.inr (.inl (some 1)), .inl x1, .inl x2, .inr (.inl (some 139)), v4] [] (mI h I) = some (mI h I, .inl (some (.inl 0))) := by
  refine (Go_const (h := mI h I) (y := 298) (ip := 18) (a := 0) (b := 0) (c := 0) (by decide +kernel)).trans ?_
  refine (Go_iret (h := mI h I) (y := 298) (ip := 19) (a := 0) (b := 0) (c := 0) (by decide +kernel) (Or.inl rfl)).trans ?_
  rfl

theorem b299_0 {h : HP} {I : Nat → Int → Int} {x1 : Int} {v3 : MV} (p0 : LX 10 h 1) : Go 299 0 [.inr (.inl (some 1)), .inl x1, .inr (.inl (some 139)), v3] [] (mI h I) = cal 299 4 [.inr (.inl (some 1)), .inl x1, .inr (.inl (some 139)), v3] [.inl 0, .inr (.inl (some 139))] 5 (Go 125 0 [.inr (.inl (some 1)), .inl x1] [] (mI h I)) := by
  refine (Go_aload (h := mI h I) (y := 299) (ip := 0) (a := 0) (b := 2) (c := 0) (by decide +kernel) rfl).trans ?_
  refine (Go_const (h := mI h I) (y := 299) (ip := 1) (a := 0) (b := 0) (c := 0) (by decide +kernel)).trans ?_
  refine (Go_aload (h := mI h I) (y := 299) (ip := 2) (a := 0) (b := 0) (c := 0) (by decide +kernel) rfl).trans ?_
  refine (Go_iload (h := mI h I) (y := 299) (ip := 3) (a := 0) (b := 1) (c := 0) (by decide +kernel) rfl).trans ?_
  refine (Go_call3 (h := mI h I) (y := 299) (ip := 4) (pc := 4) (a := 256) (z := 125) (c := 0) (as := [.inr (.inl (some 1)), .inl x1]) (rest := [.inl 0, .inr (.inl (some 139))]) (by decide +kernel) (by decide +kernel) rfl rfl (zrecv_v rfl (LX_t p0)) rfl).trans ?_
  rfl

theorem b299_5 {h : HP} {I : Nat → Int → Int} {x1 : Int} {v3 : MV} {sx1 : Int} {sx2 : Int} (p0 : hK h 139 = (2, 1)) (p1 : 0 ≤ sx1 ∧ sx1 < 1) : Go 299 5 [.inr (.inl (some 1)), .inl x1, .inr (.inl (some 139)), v3] [.inl sx2, .inl sx1, .inr (.inl (some 139))] (mI h I) = Go 299 11 [.inr (.inl (some 1)), .inl x1, .inr (.inl (some 139)), v3] [] (mI h (zu2 I 139 sx1 sx2)) := by
  refine (Go_i2l (h := mI h I) (y := 299) (ip := 5) (a := 0) (b := 0) (c := 0) (by decide +kernel)).trans ?_
  refine (Go_stl (h := mI h I) (y := 299) (ip := 6) (a := 0) (c := 0) (by decide +kernel) (p0) p1).trans ?_
  refine (Go_goto (h := mI h (zu2 I 139 sx1 sx2)) (y := 299) (ip := 7) (a := 0) (b := 0) (c := 11) (by decide +kernel)).trans ?_
  rfl

theorem b299_8 {h : HP} {I : Nat → Int → Int} {x1 : Int} {v3 : MV} {sr0 : Option Nat} : Go 299 8 [.inr (.inl (some 1)), .inl x1, .inr (.inl (some 139)), v3] [.inr (.inl sr0)] (mI h I) = some (mI h I, .inl (some (.inl 1))) := by
  refine (Go_astore (h := mI h I) (y := 299) (ip := 8) (a := 0) (b := 3) (c := 0) (by decide +kernel) rfl).trans ?_
  refine (Go_const (h := mI h I) (y := 299) (ip := 9) (a := 1) (b := 0) (c := 0) (by decide +kernel)).trans ?_
  refine (Go_iret (h := mI h I) (y := 299) (ip := 10) (a := 0) (b := 0) (c := 0) (by decide +kernel) (Or.inl rfl)).trans ?_
  rfl

theorem b299_11 {h : HP} {I : Nat → Int → Int} {x1 : Int} {v3 : MV} : Go 299 11 [.inr (.inl (some 1)), .inl x1, .inr (.inl (some 139)), v3] [] (mI h I) = some (mI h I, .inl (some (.inl 0))) := by
  refine (Go_const (h := mI h I) (y := 299) (ip := 11) (a := 0) (b := 0) (c := 0) (by decide +kernel)).trans ?_
  refine (Go_iret (h := mI h I) (y := 299) (ip := 12) (a := 0) (b := 0) (c := 0) (by decide +kernel) (Or.inl rfl)).trans ?_
  rfl

theorem b300_0 {h : HP} {I : Nat → Int → Int} {x1 : Int} {x2 : Int} {v4 : MV} (p0 : LX 10 h 1) : Go 300 0 [.inr (.inl (some 1)), .inl x1, .inl x2, .inr (.inl (some 139)), v4] [] (mI h I) = cal 300 5 [.inr (.inl (some 1)), .inl x1, .inl x2, .inr (.inl (some 139)), v4] [.inl 0, .inr (.inl (some 139))] 6 (Go 126 0 [.inr (.inl (some 1)), .inl x1, .inl x2, vU, vU] [] (mI h I)) := by
  refine (Go_aload (h := mI h I) (y := 300) (ip := 0) (a := 0) (b := 3) (c := 0) (by decide +kernel) rfl).trans ?_
  refine (Go_const (h := mI h I) (y := 300) (ip := 1) (a := 0) (b := 0) (c := 0) (by decide +kernel)).trans ?_
  refine (Go_aload (h := mI h I) (y := 300) (ip := 2) (a := 0) (b := 0) (c := 0) (by decide +kernel) rfl).trans ?_
  refine (Go_iload (h := mI h I) (y := 300) (ip := 3) (a := 0) (b := 1) (c := 0) (by decide +kernel) rfl).trans ?_
  refine (Go_iload (h := mI h I) (y := 300) (ip := 4) (a := 0) (b := 2) (c := 0) (by decide +kernel) rfl).trans ?_
  refine (Go_call3 (h := mI h I) (y := 300) (ip := 5) (pc := 5) (a := 257) (z := 126) (c := 0) (as := [.inr (.inl (some 1)), .inl x1, .inl x2]) (rest := [.inl 0, .inr (.inl (some 139))]) (by decide +kernel) (by decide +kernel) rfl rfl (zrecv_v rfl (LX_t p0)) rfl).trans ?_
  rfl

theorem b300_6 {h : HP} {I : Nat → Int → Int} {x1 : Int} {x2 : Int} {v4 : MV} {sx1 : Int} {sx2 : Int} (p0 : hK h 139 = (2, 1)) (p1 : 0 ≤ sx1 ∧ sx1 < 1) : Go 300 6 [.inr (.inl (some 1)), .inl x1, .inl x2, .inr (.inl (some 139)), v4] [.inl sx2, .inl sx1, .inr (.inl (some 139))] (mI h I) = Go 300 12 [.inr (.inl (some 1)), .inl x1, .inl x2, .inr (.inl (some 139)), v4] [] (mI h (zu2 I 139 sx1 sx2)) := by
  refine (Go_i2l (h := mI h I) (y := 300) (ip := 6) (a := 0) (b := 0) (c := 0) (by decide +kernel)).trans ?_
  refine (Go_stl (h := mI h I) (y := 300) (ip := 7) (a := 0) (c := 0) (by decide +kernel) (p0) p1).trans ?_
  refine (Go_goto (h := mI h (zu2 I 139 sx1 sx2)) (y := 300) (ip := 8) (a := 0) (b := 0) (c := 12) (by decide +kernel)).trans ?_
  rfl

theorem b300_9 {h : HP} {I : Nat → Int → Int} {x1 : Int} {x2 : Int} {v4 : MV} {sr0 : Option Nat} : Go 300 9 [.inr (.inl (some 1)), .inl x1, .inl x2, .inr (.inl (some 139)), v4] [.inr (.inl sr0)] (mI h I) = some (mI h I, .inl (some (.inl 1))) := by
  refine (Go_astore (h := mI h I) (y := 300) (ip := 9) (a := 0) (b := 4) (c := 0) (by decide +kernel) rfl).trans ?_
  refine (Go_const (h := mI h I) (y := 300) (ip := 10) (a := 1) (b := 0) (c := 0) (by decide +kernel)).trans ?_
  refine (Go_iret (h := mI h I) (y := 300) (ip := 11) (a := 0) (b := 0) (c := 0) (by decide +kernel) (Or.inl rfl)).trans ?_
  rfl

theorem b300_12 {h : HP} {I : Nat → Int → Int} {x1 : Int} {x2 : Int} {v4 : MV} : Go 300 12 [.inr (.inl (some 1)), .inl x1, .inl x2, .inr (.inl (some 139)), v4] [] (mI h I) = some (mI h I, .inl (some (.inl 0))) := by
  refine (Go_const (h := mI h I) (y := 300) (ip := 12) (a := 0) (b := 0) (c := 0) (by decide +kernel)).trans ?_
  refine (Go_iret (h := mI h I) (y := 300) (ip := 13) (a := 0) (b := 0) (c := 0) (by decide +kernel) (Or.inl rfl)).trans ?_
  rfl

theorem b301_0 {h : HP} {I : Nat → Int → Int} {x1 : Int} {x2 : Int} {v4 : MV} (p0 : LX 10 h 1) : Go 301 0 [.inr (.inl (some 1)), .inl x1, .inl x2, .inr (.inl (some 139)), v4] [] (mI h I) = cal 301 5 [.inr (.inl (some 1)), .inl x1, .inl x2, .inr (.inl (some 139)), v4] [.inl 0, .inr (.inl (some 139))] 6 (Go 127 0 [.inr (.inl (some 1)), .inl x1, .inl x2, vU, vU] [] (mI h I)) := by
  refine (Go_aload (h := mI h I) (y := 301) (ip := 0) (a := 0) (b := 3) (c := 0) (by decide +kernel) rfl).trans ?_
  refine (Go_const (h := mI h I) (y := 301) (ip := 1) (a := 0) (b := 0) (c := 0) (by decide +kernel)).trans ?_
  refine (Go_aload (h := mI h I) (y := 301) (ip := 2) (a := 0) (b := 0) (c := 0) (by decide +kernel) rfl).trans ?_
  refine (Go_iload (h := mI h I) (y := 301) (ip := 3) (a := 0) (b := 1) (c := 0) (by decide +kernel) rfl).trans ?_
  refine (Go_iload (h := mI h I) (y := 301) (ip := 4) (a := 0) (b := 2) (c := 0) (by decide +kernel) rfl).trans ?_
  refine (Go_call3 (h := mI h I) (y := 301) (ip := 5) (pc := 5) (a := 258) (z := 127) (c := 0) (as := [.inr (.inl (some 1)), .inl x1, .inl x2]) (rest := [.inl 0, .inr (.inl (some 139))]) (by decide +kernel) (by decide +kernel) rfl rfl (zrecv_v rfl (LX_t p0)) rfl).trans ?_
  rfl

theorem b301_6 {h : HP} {I : Nat → Int → Int} {x1 : Int} {x2 : Int} {v4 : MV} {sx1 : Int} {sx2 : Int} (p0 : hK h 139 = (2, 1)) (p1 : 0 ≤ sx1 ∧ sx1 < 1) : Go 301 6 [.inr (.inl (some 1)), .inl x1, .inl x2, .inr (.inl (some 139)), v4] [.inl sx2, .inl sx1, .inr (.inl (some 139))] (mI h I) = Go 301 12 [.inr (.inl (some 1)), .inl x1, .inl x2, .inr (.inl (some 139)), v4] [] (mI h (zu2 I 139 sx1 sx2)) := by
  refine (Go_i2l (h := mI h I) (y := 301) (ip := 6) (a := 0) (b := 0) (c := 0) (by decide +kernel)).trans ?_
  refine (Go_stl (h := mI h I) (y := 301) (ip := 7) (a := 0) (c := 0) (by decide +kernel) (p0) p1).trans ?_
  refine (Go_goto (h := mI h (zu2 I 139 sx1 sx2)) (y := 301) (ip := 8) (a := 0) (b := 0) (c := 12) (by decide +kernel)).trans ?_
  rfl

theorem b301_9 {h : HP} {I : Nat → Int → Int} {x1 : Int} {x2 : Int} {v4 : MV} {sr0 : Option Nat} : Go 301 9 [.inr (.inl (some 1)), .inl x1, .inl x2, .inr (.inl (some 139)), v4] [.inr (.inl sr0)] (mI h I) = some (mI h I, .inl (some (.inl 1))) := by
  refine (Go_astore (h := mI h I) (y := 301) (ip := 9) (a := 0) (b := 4) (c := 0) (by decide +kernel) rfl).trans ?_
  refine (Go_const (h := mI h I) (y := 301) (ip := 10) (a := 1) (b := 0) (c := 0) (by decide +kernel)).trans ?_
  refine (Go_iret (h := mI h I) (y := 301) (ip := 11) (a := 0) (b := 0) (c := 0) (by decide +kernel) (Or.inl rfl)).trans ?_
  rfl

theorem b301_12 {h : HP} {I : Nat → Int → Int} {x1 : Int} {x2 : Int} {v4 : MV} : Go 301 12 [.inr (.inl (some 1)), .inl x1, .inl x2, .inr (.inl (some 139)), v4] [] (mI h I) = some (mI h I, .inl (some (.inl 0))) := by
  refine (Go_const (h := mI h I) (y := 301) (ip := 12) (a := 0) (b := 0) (c := 0) (by decide +kernel)).trans ?_
  refine (Go_iret (h := mI h I) (y := 301) (ip := 13) (a := 0) (b := 0) (c := 0) (by decide +kernel) (Or.inl rfl)).trans ?_
  rfl

theorem b302_0 {h : HP} {I : Nat → Int → Int} {x1 : Int} {x2 : Int} {x3 : Int} {v5 : MV} (p0 : LX 10 h 1) : Go 302 0 [.inr (.inl (some 1)), .inl x1, .inl x2, .inl x3, .inr (.inl (some 139)), v5] [] (mI h I) = cal 302 7 [.inr (.inl (some 1)), .inl x1, .inl x2, .inl x3, .inr (.inl (some 139)), v5] [.inl 0, .inr (.inl (some 139))] 7 (Go 128 0 [.inr (.inl (some 1)), .inl x1, .inl x2, .inl x3, vU, vU, vU] [] (mI h I)) := by
  refine (Go_aload (h := mI h I) (y := 302) (ip := 0) (a := 0) (b := 4) (c := 0) (by decide +kernel) rfl).trans ?_
  refine (Go_const (h := mI h I) (y := 302) (ip := 1) (a := 0) (b := 0) (c := 0) (by decide +kernel)).trans ?_
  refine (Go_aload (h := mI h I) (y := 302) (ip := 2) (a := 0) (b := 0) (c := 0) (by decide +kernel) rfl).trans ?_
  refine (Go_iload (h := mI h I) (y := 302) (ip := 3) (a := 0) (b := 1) (c := 0) (by decide +kernel) rfl).trans ?_
  refine (Go_iload (h := mI h I) (y := 302) (ip := 4) (a := 0) (b := 2) (c := 0) (by decide +kernel) rfl).trans ?_
  refine (Go_iload (h := mI h I) (y := 302) (ip := 5) (a := 0) (b := 3) (c := 0) (by decide +kernel) rfl).trans ?_
  refine (Go_call3 (h := mI h I) (y := 302) (ip := 6) (pc := 7) (a := 259) (z := 128) (c := 0) (as := [.inr (.inl (some 1)), .inl x1, .inl x2, .inl x3]) (rest := [.inl 0, .inr (.inl (some 139))]) (by decide +kernel) (by decide +kernel) rfl rfl (zrecv_v rfl (LX_t p0)) rfl).trans ?_
  rfl

theorem b302_7 {h : HP} {I : Nat → Int → Int} {x1 : Int} {x2 : Int} {x3 : Int} {v5 : MV} {sx1 : Int} {sx2 : Int} (p0 : hK h 139 = (2, 1)) (p1 : 0 ≤ sx1 ∧ sx1 < 1) : Go 302 7 [.inr (.inl (some 1)), .inl x1, .inl x2, .inl x3, .inr (.inl (some 139)), v5] [.inl sx2, .inl sx1, .inr (.inl (some 139))] (mI h I) = Go 302 19 [.inr (.inl (some 1)), .inl x1, .inl x2, .inl x3, .inr (.inl (some 139)), v5] [] (mI h (zu2 I 139 sx1 sx2)) := by
  refine (Go_i2l (h := mI h I) (y := 302) (ip := 7) (a := 0) (b := 0) (c := 0) (by decide +kernel)).trans ?_
  refine (Go_stl (h := mI h I) (y := 302) (ip := 8) (a := 0) (c := 0) (by decide +kernel) (p0) p1).trans ?_
  refine (Go_goto (h := mI h (zu2 I 139 sx1 sx2)) (y := 302) (ip := 9) (a := 0) (b := 0) (c := 19) (by decide +kernel)).trans ?_
  rfl

theorem b302_10 {h : HP} {I : Nat → Int → Int} {x1 : Int} {x2 : Int} {x3 : Int} {v5 : MV} {sr0 : Option Nat} : Go 302 10 [.inr (.inl (some 1)), .inl x1, .inl x2, .inl x3, .inr (.inl (some 139)), v5] [.inr (.inl sr0)] (mI h I) = some (mI h I, .inl (some (.inl 1))) := by
  refine (Go_astore (h := mI h I) (y := 302) (ip := 10) (a := 0) (b := 5) (c := 0) (by decide +kernel) rfl).trans ?_
  refine (Go_const (h := mI h I) (y := 302) (ip := 11) (a := 1) (b := 0) (c := 0) (by decide +kernel)).trans ?_
  refine (Go_iret (h := mI h I) (y := 302) (ip := 12) (a := 0) (b := 0) (c := 0) (by decide +kernel) (Or.inl rfl)).trans ?_
  rfl

theorem b302_13 {h : HP} {I : Nat → Int → Int} {x1 : Int} {x2 : Int} {x3 : Int} {v5 : MV} {sr0 : Option Nat} : Go 302 13 [.inr (.inl (some 1)), .inl x1, .inl x2, .inl x3, .inr (.inl (some 139)), v5] [.inr (.inl sr0)] (mI h I) = some (mI h I, .inl (some (.inl 2))) := by
  refine (Go_astore (h := mI h I) (y := 302) (ip := 13) (a := 0) (b := 5) (c := 0) (by decide +kernel) rfl).trans ?_
  refine (Go_const (h := mI h I) (y := 302) (ip := 14) (a := 2) (b := 0) (c := 0) (by decide +kernel)).trans ?_
  refine (Go_iret (h := mI h I) (y := 302) (ip := 15) (a := 0) (b := 0) (c := 0) (by decide +kernel) (Or.inl rfl)).trans ?_
  rfl

theorem b302_16 {h : HP} {I : Nat → Int → Int} {x1 : Int} {x2 : Int} {x3 : Int} {v5 : MV} {sr0 : Option Nat} : Go 302 16 [.inr (.inl (some 1)), .inl x1, .inl x2, .inl x3, .inr (.inl (some 139)), v5] [.inr (.inl sr0)] (mI h I) = some (mI h I, .inl (some (.inl 3))) := by
  refine (Go_astore (h := mI h I) (y := 302) (ip := 16) (a := 0) (b := 5) (c := 0) (by decide +kernel) rfl).trans ?_
  refine (Go_const (h := mI h I) (y := 302) (ip := 17) (a := 3) (b := 0) (c := 0) (by decide +kernel)).trans ?_
  refine (Go_iret (h := mI h I) (y := 302) (ip := 18) (a := 0) (b := 0) (c := 0) (by decide +kernel) (Or.inl rfl)).trans ?_
  rfl

theorem b302_19 {h : HP} {I : Nat → Int → Int} {x1 : Int} {x2 : Int} {x3 : Int} {v5 : MV} : Go 302 19 [.inr (.inl (some 1)), .inl x1, .inl x2, .inl x3, .inr (.inl (some 139)), v5] [] (mI h I) = some (mI h I, .inl (some (.inl 0))) := by
  refine (Go_const (h := mI h I) (y := 302) (ip := 19) (a := 0) (b := 0) (c := 0) (by decide +kernel)).trans ?_
  refine (Go_iret (h := mI h I) (y := 302) (ip := 20) (a := 0) (b := 0) (c := 0) (by decide +kernel) (Or.inl rfl)).trans ?_
  rfl

theorem b303_0 {h : HP} {I : Nat → Int → Int} {x1 : Int} {v3 : MV} (p0 : LX 10 h 1) : Go 303 0 [.inr (.inl (some 1)), .inl x1, .inr (.inl (some 139)), v3] [] (mI h I) = cal 303 4 [.inr (.inl (some 1)), .inl x1, .inr (.inl (some 139)), v3] [.inl 0, .inr (.inl (some 139))] 5 (Go 129 0 [.inr (.inl (some 1)), .inl x1] [] (mI h I)) := by
  refine (Go_aload (h := mI h I) (y := 303) (ip := 0) (a := 0) (b := 2) (c := 0) (by decide +kernel) rfl).trans ?_
  refine (Go_const (h := mI h I) (y := 303) (ip := 1) (a := 0) (b := 0) (c := 0) (by decide +kernel)).trans ?_
  refine (Go_aload (h := mI h I) (y := 303) (ip := 2) (a := 0) (b := 0) (c := 0) (by decide +kernel) rfl).trans ?_
  refine (Go_iload (h := mI h I) (y := 303) (ip := 3) (a := 0) (b := 1) (c := 0) (by decide +kernel) rfl).trans ?_
  refine (Go_call3 (h := mI h I) (y := 303) (ip := 4) (pc := 4) (a := 260) (z := 129) (c := 0) (as := [.inr (.inl (some 1)), .inl x1]) (rest := [.inl 0, .inr (.inl (some 139))]) (by decide +kernel) (by decide +kernel) rfl rfl (zrecv_v rfl (LX_t p0)) rfl).trans ?_
  rfl

theorem b303_5 {h : HP} {I : Nat → Int → Int} {x1 : Int} {v3 : MV} {sx1 : Int} {sx2 : Int} (p0 : hK h 139 = (2, 1)) (p1 : 0 ≤ sx1 ∧ sx1 < 1) : Go 303 5 [.inr (.inl (some 1)), .inl x1, .inr (.inl (some 139)), v3] [.inl sx2, .inl sx1, .inr (.inl (some 139))] (mI h I) = Go 303 11 [.inr (.inl (some 1)), .inl x1, .inr (.inl (some 139)), v3] [] (mI h (zu2 I 139 sx1 sx2)) := by
  refine (Go_i2l (h := mI h I) (y := 303) (ip := 5) (a := 0) (b := 0) (c := 0) (by decide +kernel)).trans ?_
  refine (Go_stl (h := mI h I) (y := 303) (ip := 6) (a := 0) (c := 0) (by decide +kernel) (p0) p1).trans ?_
  refine (Go_goto (h := mI h (zu2 I 139 sx1 sx2)) (y := 303) (ip := 7) (a := 0) (b := 0) (c := 11) (by decide +kernel)).trans ?_
  rfl

theorem b303_8 {h : HP} {I : Nat → Int → Int} {x1 : Int} {v3 : MV} {sr0 : Option Nat} : Go 303 8 [.inr (.inl (some 1)), .inl x1, .inr (.inl (some 139)), v3] [.inr (.inl sr0)] (mI h I) = some (mI h I, .inl (some (.inl 1))) := by
  refine (Go_astore (h := mI h I) (y := 303) (ip := 8) (a := 0) (b := 3) (c := 0) (by decide +kernel) rfl).trans ?_
  refine (Go_const (h := mI h I) (y := 303) (ip := 9) (a := 1) (b := 0) (c := 0) (by decide +kernel)).trans ?_
  refine (Go_iret (h := mI h I) (y := 303) (ip := 10) (a := 0) (b := 0) (c := 0) (by decide +kernel) (Or.inl rfl)).trans ?_
  rfl

theorem b303_11 {h : HP} {I : Nat → Int → Int} {x1 : Int} {v3 : MV} : Go 303 11 [.inr (.inl (some 1)), .inl x1, .inr (.inl (some 139)), v3] [] (mI h I) = some (mI h I, .inl (some (.inl 0))) := by
  refine (Go_const (h := mI h I) (y := 303) (ip := 11) (a := 0) (b := 0) (c := 0) (by decide +kernel)).trans ?_
  refine (Go_iret (h := mI h I) (y := 303) (ip := 12) (a := 0) (b := 0) (c := 0) (by decide +kernel) (Or.inl rfl)).trans ?_
  rfl

theorem b304_0 {h : HP} {I : Nat → Int → Int} {x1 : Int} {x2 : Int} {v4 : MV} (p0 : LX 10 h 1) : Go 304 0 [.inr (.inl (some 1)), .inl x1, .inl x2, .inr (.inl (some 139)), v4] [] (mI h I) = cal 304 5 [.inr (.inl (some 1)), .inl x1, .inl x2, .inr (.inl (some 139)), v4] [.inl 0, .inr (.inl (some 139))] 6 (Go 130 0 [.inr (.inl (some 1)), .inl x1, .inl x2] [] (mI h I)) := by
  refine (Go_aload (h := mI h I) (y := 304) (ip := 0) (a := 0) (b := 3) (c := 0) (by decide +kernel) rfl).trans ?_
  refine (Go_const (h := mI h I) (y := 304) (ip := 1) (a := 0) (b := 0) (c := 0) (by decide +kernel)).trans ?_
  refine (Go_aload (h := mI h I) (y := 304) (ip := 2) (a := 0) (b := 0) (c := 0) (by decide +kernel) rfl).trans ?_
  refine (Go_iload (h := mI h I) (y := 304) (ip := 3) (a := 0) (b := 1) (c := 0) (by decide +kernel) rfl).trans ?_
  refine (Go_iload (h := mI h I) (y := 304) (ip := 4) (a := 0) (b := 2) (c := 0) (by decide +kernel) rfl).trans ?_
  refine (Go_call3 (h := mI h I) (y := 304) (ip := 5) (pc := 5) (a := 261) (z := 130) (c := 0) (as := [.inr (.inl (some 1)), .inl x1, .inl x2]) (rest := [.inl 0, .inr (.inl (some 139))]) (by decide +kernel) (by decide +kernel) rfl rfl (zrecv_v rfl (LX_t p0)) rfl).trans ?_
  rfl

theorem b304_6 {h : HP} {I : Nat → Int → Int} {x1 : Int} {x2 : Int} {v4 : MV} {sx1 : Int} {sx2 : Int} (p0 : hK h 139 = (2, 1)) (p1 : 0 ≤ sx1 ∧ sx1 < 1) : Go 304 6 [.inr (.inl (some 1)), .inl x1, .inl x2, .inr (.inl (some 139)), v4] [.inl sx2, .inl sx1, .inr (.inl (some 139))] (mI h I) = Go 304 12 [.inr (.inl (some 1)), .inl x1, .inl x2, .inr (.inl (some 139)), v4] [] (mI h (zu2 I 139 sx1 sx2)) := by
  refine (Go_i2l (h := mI h I) (y := 304) (ip := 6) (a := 0) (b := 0) (c := 0) (by decide +kernel)).trans ?_
  refine (Go_stl (h := mI h I) (y := 304) (ip := 7) (a := 0) (c := 0) (by decide +kernel) (p0) p1).trans ?_
  refine (Go_goto (h := mI h (zu2 I 139 sx1 sx2)) (y := 304) (ip := 8) (a := 0) (b := 0) (c := 12) (by decide +kernel)).trans ?_
  rfl

theorem b304_9 {h : HP} {I : Nat → Int → Int} {x1 : Int} {x2 : Int} {v4 : MV} {sr0 : Option Nat} : Go 304 9 [.inr (.inl (some 1)), .inl x1, .inl x2, .inr (.inl (some 139)), v4] [.inr (.inl sr0)] (mI h I) = some (mI h I, .inl (some (.inl 1))) := by
  refine (Go_astore (h := mI h I) (y := 304) (ip := 9) (a := 0) (b := 4) (c := 0) (by decide +kernel) rfl).trans ?_
  refine (Go_const (h := mI h I) (y := 304) (ip := 10) (a := 1) (b := 0) (c := 0) (by decide +kernel)).trans ?_
  refine (Go_iret (h := mI h I) (y := 304) (ip := 11) (a := 0) (b := 0) (c := 0) (by decide +kernel) (Or.inl rfl)).trans ?_
  rfl

theorem b304_12 {h : HP} {I : Nat → Int → Int} {x1 : Int} {x2 : Int} {v4 : MV} : Go 304 12 [.inr (.inl (some 1)), .inl x1, .inl x2, .inr (.inl (some 139)), v4] [] (mI h I) = some (mI h I, .inl (some (.inl 0))) := by
  refine (Go_const (h := mI h I) (y := 304) (ip := 12) (a := 0) (b := 0) (c := 0) (by decide +kernel)).trans ?_
  refine (Go_iret (h := mI h I) (y := 304) (ip := 13) (a := 0) (b := 0) (c := 0) (by decide +kernel) (Or.inl rfl)).trans ?_
  rfl

theorem b305_0 {h : HP} {I : Nat → Int → Int} {x1 : Int} {x2 : Int} {v4 : MV} (p0 : LX 10 h 1) : Go 305 0 [.inr (.inl (some 1)), .inl x1, .inl x2, .inr (.inl (some 139)), v4] [] (mI h I) = cal 305 5 [.inr (.inl (some 1)), .inl x1, .inl x2, .inr (.inl (some 139)), v4] [.inl 0, .inr (.inl (some 139))] 6 (Go 131 0 [.inr (.inl (some 1)), .inl x1, .inl x2] [] (mI h I)) := by
  refine (Go_aload (h := mI h I) (y := 305) (ip := 0) (a := 0) (b := 3) (c := 0) (by decide +kernel) rfl).trans ?_
  refine (Go_const (h := mI h I) (y := 305) (ip := 1) (a := 0) (b := 0) (c := 0) (by decide +kernel)).trans ?_
  refine (Go_aload (h := mI h I) (y := 305) (ip := 2) (a := 0) (b := 0) (c := 0) (by decide +kernel) rfl).trans ?_
  refine (Go_iload (h := mI h I) (y := 305) (ip := 3) (a := 0) (b := 1) (c := 0) (by decide +kernel) rfl).trans ?_
  refine (Go_iload (h := mI h I) (y := 305) (ip := 4) (a := 0) (b := 2) (c := 0) (by decide +kernel) rfl).trans ?_
  refine (Go_call3 (h := mI h I) (y := 305) (ip := 5) (pc := 5) (a := 262) (z := 131) (c := 0) (as := [.inr (.inl (some 1)), .inl x1, .inl x2]) (rest := [.inl 0, .inr (.inl (some 139))]) (by decide +kernel) (by decide +kernel) rfl rfl (zrecv_v rfl (LX_t p0)) rfl).trans ?_
  rfl

theorem b305_6 {h : HP} {I : Nat → Int → Int} {x1 : Int} {x2 : Int} {v4 : MV} {sx1 : Int} {sx2 : Int} (p0 : hK h 139 = (2, 1)) (p1 : 0 ≤ sx1 ∧ sx1 < 1) : Go 305 6 [.inr (.inl (some 1)), .inl x1, .inl x2, .inr (.inl (some 139)), v4] [.inl sx2, .inl sx1, .inr (.inl (some 139))] (mI h I) = Go 305 12 [.inr (.inl (some 1)), .inl x1, .inl x2, .inr (.inl (some 139)), v4] [] (mI h (zu2 I 139 sx1 sx2)) := by
  refine (Go_i2l (h := mI h I) (y := 305) (ip := 6) (a := 0) (b := 0) (c := 0) (by decide +kernel)).trans ?_
  refine (Go_stl (h := mI h I) (y := 305) (ip := 7) (a := 0) (c := 0) (by decide +kernel) (p0) p1).trans ?_
  refine (Go_goto (h := mI h (zu2 I 139 sx1 sx2)) (y := 305) (ip := 8) (a := 0) (b := 0) (c := 12) (by decide +kernel)).trans ?_
  rfl

theorem b305_9 {h : HP} {I : Nat → Int → Int} {x1 : Int} {x2 : Int} {v4 : MV} {sr0 : Option Nat} : Go 305 9 [.inr (.inl (some 1)), .inl x1, .inl x2, .inr (.inl (some 139)), v4] [.inr (.inl sr0)] (mI h I) = some (mI h I, .inl (some (.inl 1))) := by
  refine (Go_astore (h := mI h I) (y := 305) (ip := 9) (a := 0) (b := 4) (c := 0) (by decide +kernel) rfl).trans ?_
  refine (Go_const (h := mI h I) (y := 305) (ip := 10) (a := 1) (b := 0) (c := 0) (by decide +kernel)).trans ?_
  refine (Go_iret (h := mI h I) (y := 305) (ip := 11) (a := 0) (b := 0) (c := 0) (by decide +kernel) (Or.inl rfl)).trans ?_
  rfl

theorem b305_12 {h : HP} {I : Nat → Int → Int} {x1 : Int} {x2 : Int} {v4 : MV} : Go 305 12 [.inr (.inl (some 1)), .inl x1, .inl x2, .inr (.inl (some 139)), v4] [] (mI h I) = some (mI h I, .inl (some (.inl 0))) := by
  refine (Go_const (h := mI h I) (y := 305) (ip := 12) (a := 0) (b := 0) (c := 0) (by decide +kernel)).trans ?_
  refine (Go_iret (h := mI h I) (y := 305) (ip := 13) (a := 0) (b := 0) (c := 0) (by decide +kernel) (Or.inl rfl)).trans ?_
  rfl

theorem b306_0 {h : HP} {I : Nat → Int → Int} {x1 : Int} {x2 : Int} {x3 : Int} {v5 : MV} (p0 : LX 10 h 1) : Go 306 0 [.inr (.inl (some 1)), .inl x1, .inl x2, .inl x3, .inr (.inl (some 139)), v5] [] (mI h I) = cal 306 7 [.inr (.inl (some 1)), .inl x1, .inl x2, .inl x3, .inr (.inl (some 139)), v5] [.inl 0, .inr (.inl (some 139))] 7 (Go 132 0 [.inr (.inl (some 1)), .inl x1, .inl x2, .inl x3, vU] [] (mI h I)) := by
  refine (Go_aload (h := mI h I) (y := 306) (ip := 0) (a := 0) (b := 4) (c := 0) (by decide +kernel) rfl).trans ?_
  refine (Go_const (h := mI h I) (y := 306) (ip := 1) (a := 0) (b := 0) (c := 0) (by decide +kernel)).trans ?_
  refine (Go_aload (h := mI h I) (y := 306) (ip := 2) (a := 0) (b := 0) (c := 0) (by decide +kernel) rfl).trans ?_
  refine (Go_iload (h := mI h I) (y := 306) (ip := 3) (a := 0) (b := 1) (c := 0) (by decide +kernel) rfl).trans ?_
  refine (Go_iload (h := mI h I) (y := 306) (ip := 4) (a := 0) (b := 2) (c := 0) (by decide +kernel) rfl).trans ?_
  refine (Go_iload (h := mI h I) (y := 306) (ip := 5) (a := 0) (b := 3) (c := 0) (by decide +kernel) rfl).trans ?_
  refine (Go_call3 (h := mI h I) (y := 306) (ip := 6) (pc := 7) (a := 263) (z := 132) (c := 0) (as := [.inr (.inl (some 1)), .inl x1, .inl x2, .inl x3]) (rest := [.inl 0, .inr (.inl (some 139))]) (by decide +kernel) (by decide +kernel) rfl rfl (zrecv_v rfl (LX_t p0)) rfl).trans ?_
  rfl

theorem b306_7 {h : HP} {I : Nat → Int → Int} {x1 : Int} {x2 : Int} {x3 : Int} {v5 : MV} {sx1 : Int} {sx2 : Int} (p0 : hK h 139 = (2, 1)) (p1 : 0 ≤ sx1 ∧ sx1 < 1) : Go 306 7 [.inr (.inl (some 1)), .inl x1, .inl x2, .inl x3, .inr (.inl (some 139)), v5] [.inl sx2, .inl sx1, .inr (.inl (some 139))] (mI h I) = Go 306 13 [.inr (.inl (some 1)), .inl x1, .inl x2, .inl x3, .inr (.inl (some 139)), v5] [] (mI h (zu2 I 139 sx1 sx2)) := by
  refine (Go_i2l (h := mI h I) (y := 306) (ip := 7) (a := 0) (b := 0) (c := 0) (by decide +kernel)).trans ?_
  refine (Go_stl (h := mI h I) (y := 306) (ip := 8) (a := 0) (c := 0) (by decide +kernel) (p0) p1).trans ?_
  refine (Go_goto (h := mI h (zu2 I 139 sx1 sx2)) (y := 306) (ip := 9) (a := 0) (b := 0) (c := 13) (by decide +kernel)).trans ?_
  rfl

theorem b306_10 {h : HP} {I : Nat → Int → Int} {x1 : Int} {x2 : Int} {x3 : Int} {v5 : MV} {sr0 : Option Nat} : Go 306 10 [.inr (.inl (some 1)), .inl x1, .inl x2, .inl x3, .inr (.inl (some 139)), v5] [.inr (.inl sr0)] (mI h I) = some (mI h I, .inl (some (.inl 1))) := by
  refine (Go_astore (h := mI h I) (y := 306) (ip := 10) (a := 0) (b := 5) (c := 0) (by decide +kernel) rfl).trans ?_
  refine (Go_const (h := mI h I) (y := 306) (ip := 11) (a := 1) (b := 0) (c := 0) (by decide +kernel)).trans ?_
  refine (Go_iret (h := mI h I) (y := 306) (ip := 12) (a := 0) (b := 0) (c := 0) (by decide +kernel) (Or.inl rfl)).trans ?_
  rfl

theorem b306_13 {h : HP} {I : Nat → Int → Int} {x1 : Int} {x2 : Int} {x3 : Int} {v5 : MV} : Go 306 13 [.inr (.inl (some 1)), .inl x1, .inl x2, .inl x3, .inr (.inl (some 139)), v5] [] (mI h I) = some (mI h I, .inl (some (.inl 0))) := by
  refine (Go_const (h := mI h I) (y := 306) (ip := 13) (a := 0) (b := 0) (c := 0) (by decide +kernel)).trans ?_
  refine (Go_iret (h := mI h I) (y := 306) (ip := 14) (a := 0) (b := 0) (c := 0) (by decide +kernel) (Or.inl rfl)).trans ?_
  rfl

theorem b307_0 {h : HP} {I : Nat → Int → Int} {x1 : Int} {x2 : Int} {v4 : MV} (p0 : LX 10 h 1) : Go 307 0 [.inr (.inl (some 1)), .inl x1, .inl x2, .inr (.inl (some 139)), v4] [] (mI h I) = cal 307 5 [.inr (.inl (some 1)), .inl x1, .inl x2, .inr (.inl (some 139)), v4] [.inl 0, .inr (.inl (some 139))] 6 (Go 133 0 [.inr (.inl (some 1)), .inl x1, .inl x2, vU, vU] [] (mI h I)) := by
  refine (Go_aload (h := mI h I) (y := 307) (ip := 0) (a := 0) (b := 3) (c := 0) (by decide +kernel) rfl).trans ?_
  refine (Go_const (h := mI h I) (y := 307) (ip := 1) (a := 0) (b := 0) (c := 0) (by decide +kernel)).trans ?_
  refine (Go_aload (h := mI h I) (y := 307) (ip := 2) (a := 0) (b := 0) (c := 0) (by decide +kernel) rfl).trans ?_
  refine (Go_iload (h := mI h I) (y := 307) (ip := 3) (a := 0) (b := 1) (c := 0) (by decide +kernel) rfl).trans ?_
  refine (Go_iload (h := mI h I) (y := 307) (ip := 4) (a := 0) (b := 2) (c := 0) (by decide +kernel) rfl).trans ?_
  refine (Go_call3 (h := mI h I) (y := 307) (ip := 5) (pc := 5) (a := 264) (z := 133) (c := 0) (as := [.inr (.inl (some 1)), .inl x1, .inl x2]) (rest := [.inl 0, .inr (.inl (some 139))]) (by decide +kernel) (by decide +kernel) rfl rfl (zrecv_v rfl (LX_t p0)) rfl).trans ?_
  rfl

theorem b307_6 {h : HP} {I : Nat → Int → Int} {x1 : Int} {x2 : Int} {v4 : MV} {sx1 : Int} {sx2 : Int} : Go 307 6 [.inr (.inl (some 1)), .inl x1, .inl x2, .inr (.inl (some 139)), v4] [.inl sx2, .inl sx1, .inr (.inl (some 139))] (mI h I) = if sx2 = 0 then Go 307 9 [.inr (.inl (some 1)), .inl x1, .inl x2, .inr (.inl (some 139)), v4] [.inl sx1, .inr (.inl (some 139))] (mI h I) else Go 307 7 [.inr (.inl (some 1)), .inl x1, .inl x2, .inr (.inl (some 139)), v4] [.inl sx1, .inr (.inl (some 139))] (mI h I) := by
  refine (Go_ifeq (y := 307) (ip := 6) (a := 0) (c := 9) (by decide +kernel)).trans ?_
  rfl

theorem b307_7 {h : HP} {I : Nat → Int → Int} {x1 : Int} {x2 : Int} {v4 : MV} {sx1 : Int} : Go 307 7 [.inr (.inl (some 1)), .inl x1, .inl x2, .inr (.inl (some 139)), v4] [.inl sx1, .inr (.inl (some 139))] (mI h I) = Go 307 10 [.inr (.inl (some 1)), .inl x1, .inl x2, .inr (.inl (some 139)), v4] [.inr (.inr 1), .inl sx1, .inr (.inl (some 139))] (mI h I) := by
  refine (Go_lconst (h := mI h I) (y := 307) (ip := 7) (a := 1) (b := 0) (c := 0) (by decide +kernel)).trans ?_
  refine (Go_goto (h := mI h I) (y := 307) (ip := 8) (a := 0) (b := 0) (c := 10) (by decide +kernel)).trans ?_
  rfl

theorem b307_9 {h : HP} {I : Nat → Int → Int} {x1 : Int} {x2 : Int} {v4 : MV} {sx1 : Int} : Go 307 9 [.inr (.inl (some 1)), .inl x1, .inl x2, .inr (.inl (some 139)), v4] [.inl sx1, .inr (.inl (some 139))] (mI h I) = Go 307 10 [.inr (.inl (some 1)), .inl x1, .inl x2, .inr (.inl (some 139)), v4] [.inr (.inr 0), .inl sx1, .inr (.inl (some 139))] (mI h I) := by
  refine (Go_lconst (h := mI h I) (y := 307) (ip := 9) (a := 0) (b := 0) (c := 0) (by decide +kernel)).trans ?_
  rfl

theorem b307_10 {h : HP} {I : Nat → Int → Int} {x1 : Int} {x2 : Int} {v4 : MV} {sx1 : Int} {sw2 : Int} (p0 : hK h 139 = (2, 1)) (p1 : 0 ≤ sx1 ∧ sx1 < 1) : Go 307 10 [.inr (.inl (some 1)), .inl x1, .inl x2, .inr (.inl (some 139)), v4] [.inr (.inr sw2), .inl sx1, .inr (.inl (some 139))] (mI h I) = Go 307 15 [.inr (.inl (some 1)), .inl x1, .inl x2, .inr (.inl (some 139)), v4] [] (mI h (zu2 I 139 sx1 sw2)) := by
  refine (Go_stl (h := mI h I) (y := 307) (ip := 10) (a := 0) (c := 0) (by decide +kernel) (p0) p1).trans ?_
  refine (Go_goto (h := mI h (zu2 I 139 sx1 sw2)) (y := 307) (ip := 11) (a := 0) (b := 0) (c := 15) (by decide +kernel)).trans ?_
  rfl

theorem b307_12 {h : HP} {I : Nat → Int → Int} {x1 : Int} {x2 : Int} {v4 : MV} {sr0 : Option Nat} : Go 307 12 [.inr (.inl (some 1)), .inl x1, .inl x2, .inr (.inl (some 139)), v4] [.inr (.inl sr0)] (mI h I) = some (mI h I, .inl (some (.inl 1))) := by
  refine (Go_astore (h := mI h I) (y := 307) (ip := 12) (a := 0) (b := 4) (c := 0) (by decide +kernel) rfl).trans ?_
  refine (Go_const (h := mI h I) (y := 307) (ip := 13) (a := 1) (b := 0) (c := 0) (by decide +kernel)).trans ?_
  refine (Go_iret (h := mI h I) (y := 307) (ip := 14) (a := 0) (b := 0) (c := 0) (by decide +kernel) (Or.inl rfl)).trans ?_
  rfl

theorem b307_15 {h : HP} {I : Nat → Int → Int} {x1 : Int} {x2 : Int} {v4 : MV} : Go 307 15 [.inr (.inl (some 1)), .inl x1, .inl x2, .inr (.inl (some 139)), v4] [] (mI h I) = some (mI h I, .inl (some (.inl 0))) := by
  refine (Go_const (h := mI h I) (y := 307) (ip := 15) (a := 0) (b := 0) (c := 0) (by decide +kernel)).trans ?_
  refine (Go_iret (h := mI h I) (y := 307) (ip := 16) (a := 0) (b := 0) (c := 0) (by decide +kernel) (Or.inl rfl)).trans ?_
  rfl

theorem b308_0 {h : HP} {I : Nat → Int → Int} {x1 : Int} {v3 : MV} (p0 : LX 10 h 1) : Go 308 0 [.inr (.inl (some 1)), .inl x1, .inr (.inl (some 139)), v3] [] (mI h I) = cal 308 4 [.inr (.inl (some 1)), .inl x1, .inr (.inl (some 139)), v3] [.inl 0, .inr (.inl (some 139))] 5 (Go 134 0 [.inr (.inl (some 1)), .inl x1, vU] [] (mI h I)) := by
  refine (Go_aload (h := mI h I) (y := 308) (ip := 0) (a := 0) (b := 2) (c := 0) (by decide +kernel) rfl).trans ?_
  refine (Go_const (h := mI h I) (y := 308) (ip := 1) (a := 0) (b := 0) (c := 0) (by decide +kernel)).trans ?_
  refine (Go_aload (h := mI h I) (y := 308) (ip := 2) (a := 0) (b := 0) (c := 0) (by decide +kernel) rfl).trans ?_
  refine (Go_iload (h := mI h I) (y := 308) (ip := 3) (a := 0) (b := 1) (c := 0) (by decide +kernel) rfl).trans ?_
  refine (Go_call3 (h := mI h I) (y := 308) (ip := 4) (pc := 4) (a := 265) (z := 134) (c := 0) (as := [.inr (.inl (some 1)), .inl x1]) (rest := [.inl 0, .inr (.inl (some 139))]) (by decide +kernel) (by decide +kernel) rfl rfl (zrecv_v rfl (LX_t p0)) rfl).trans ?_
  rfl

theorem b308_5 {h : HP} {I : Nat → Int → Int} {x1 : Int} {v3 : MV} {sx1 : Int} {sx2 : Int} (p0 : hK h 139 = (2, 1)) (p1 : 0 ≤ sx1 ∧ sx1 < 1) : Go 308 5 [.inr (.inl (some 1)), .inl x1, .inr (.inl (some 139)), v3] [.inl sx2, .inl sx1, .inr (.inl (some 139))] (mI h I) = Go 308 11 [.inr (.inl (some 1)), .inl x1, .inr (.inl (some 139)), v3] [] (mI h (zu2 I 139 sx1 sx2)) := by
  refine (Go_i2l (h := mI h I) (y := 308) (ip := 5) (a := 0) (b := 0) (c := 0) (by decide +kernel)).trans ?_
  refine (Go_stl (h := mI h I) (y := 308) (ip := 6) (a := 0) (c := 0) (by decide +kernel) (p0) p1).trans ?_
  refine (Go_goto (h := mI h (zu2 I 139 sx1 sx2)) (y := 308) (ip := 7) (a := 0) (b := 0) (c := 11) (by decide +kernel)).trans ?_
  rfl

theorem b308_8 {h : HP} {I : Nat → Int → Int} {x1 : Int} {v3 : MV} {sr0 : Option Nat} : Go 308 8 [.inr (.inl (some 1)), .inl x1, .inr (.inl (some 139)), v3] [.inr (.inl sr0)] (mI h I) = some (mI h I, .inl (some (.inl 1))) := by
  refine (Go_astore (h := mI h I) (y := 308) (ip := 8) (a := 0) (b := 3) (c := 0) (by decide +kernel) rfl).trans ?_
  refine (Go_const (h := mI h I) (y := 308) (ip := 9) (a := 1) (b := 0) (c := 0) (by decide +kernel)).trans ?_
  refine (Go_iret (h := mI h I) (y := 308) (ip := 10) (a := 0) (b := 0) (c := 0) (by decide +kernel) (Or.inl rfl)).trans ?_
  rfl

theorem b308_11 {h : HP} {I : Nat → Int → Int} {x1 : Int} {v3 : MV} : Go 308 11 [.inr (.inl (some 1)), .inl x1, .inr (.inl (some 139)), v3] [] (mI h I) = some (mI h I, .inl (some (.inl 0))) := by
  refine (Go_const (h := mI h I) (y := 308) (ip := 11) (a := 0) (b := 0) (c := 0) (by decide +kernel)).trans ?_
  refine (Go_iret (h := mI h I) (y := 308) (ip := 12) (a := 0) (b := 0) (c := 0) (by decide +kernel) (Or.inl rfl)).trans ?_
  rfl

theorem b309_0 {h : HP} {I : Nat → Int → Int} {x1 : Int} {x2 : Int} {x3 : Int} {x4 : Int} {v6 : MV} (p0 : LX 10 h 1) : Go 309 0 [.inr (.inl (some 1)), .inl x1, .inl x2, .inl x3, .inl x4, .inr (.inl (some 139)), v6] [] (mI h I) = cal 309 9 [.inr (.inl (some 1)), .inl x1, .inl x2, .inl x3, .inl x4, .inr (.inl (some 139)), v6] [.inl 0, .inr (.inl (some 139))] 8 (Go 136 0 [.inr (.inl (some 1)), .inl x1, .inl x2, .inl x3, .inl x4, vU] [] (mI h I)) := by
  refine (Go_aload (h := mI h I) (y := 309) (ip := 0) (a := 0) (b := 5) (c := 0) (by decide +kernel) rfl).trans ?_
  refine (Go_const (h := mI h I) (y := 309) (ip := 1) (a := 0) (b := 0) (c := 0) (by decide +kernel)).trans ?_
  refine (Go_aload (h := mI h I) (y := 309) (ip := 2) (a := 0) (b := 0) (c := 0) (by decide +kernel) rfl).trans ?_
  refine (Go_iload (h := mI h I) (y := 309) (ip := 3) (a := 0) (b := 1) (c := 0) (by decide +kernel) rfl).trans ?_
  refine (Go_iload (h := mI h I) (y := 309) (ip := 4) (a := 0) (b := 2) (c := 0) (by decide +kernel) rfl).trans ?_
  refine (Go_iload (h := mI h I) (y := 309) (ip := 5) (a := 0) (b := 3) (c := 0) (by decide +kernel) rfl).trans ?_
  refine (Go_iload (h := mI h I) (y := 309) (ip := 6) (a := 0) (b := 4) (c := 0) (by decide +kernel) rfl).trans ?_
  refine (Go_call3 (h := mI h I) (y := 309) (ip := 7) (pc := 9) (a := 266) (z := 136) (c := 0) (as := [.inr (.inl (some 1)), .inl x1, .inl x2, .inl x3, .inl x4]) (rest := [.inl 0, .inr (.inl (some 139))]) (by decide +kernel) (by decide +kernel) rfl rfl (zrecv_v rfl (LX_t p0)) rfl).trans ?_
  rfl

theorem b309_8 {h : HP} {I : Nat → Int → Int} {x1 : Int} {x2 : Int} {x3 : Int} {x4 : Int} {v6 : MV} {sx1 : Int} {sx2 : Int} (p0 : hK h 139 = (2, 1)) (p1 : 0 ≤ sx1 ∧ sx1 < 1) : Go 309 8 [.inr (.inl (some 1)), .inl x1, .inl x2, .inl x3, .inl x4, .inr (.inl (some 139)), v6] [.inl sx2, .inl sx1, .inr (.inl (some 139))] (mI h I) = Go 309 20 [.inr (.inl (some 1)), .inl x1, .inl x2, .inl x3, .inl x4, .inr (.inl (some 139)), v6] [] (mI h (zu2 I 139 sx1 sx2)) := by
  refine (Go_i2l (h := mI h I) (y := 309) (ip := 8) (a := 0) (b := 0) (c := 0) (by decide +kernel)).trans ?_
  refine (Go_stl (h := mI h I) (y := 309) (ip := 9) (a := 0) (c := 0) (by decide +kernel) (p0) p1).trans ?_
  refine (Go_goto (h := mI h (zu2 I 139 sx1 sx2)) (y := 309) (ip := 10) (a := 0) (b := 0) (c := 20) (by decide +kernel)).trans ?_
  rfl

theorem b309_11 {h : HP} {I : Nat → Int → Int} {x1 : Int} {x2 : Int} {x3 : Int} {x4 : Int} {v6 : MV} {sr0 : Option Nat} : Go 309 11 [.inr (.inl (some 1)), .inl x1, .inl x2, .inl x3, .inl x4, .inr (.inl (some 139)), v6] [.inr (.inl sr0)] (mI h I) = some (mI h I, .inl (some (.inl 1))) := by
  refine (Go_astore (h := mI h I) (y := 309) (ip := 11) (a := 0) (b := 6) (c := 0) (by decide +kernel) rfl).trans ?_
  refine (Go_const (h := mI h I) (y := 309) (ip := 12) (a := 1) (b := 0) (c := 0) (by decide +kernel)).trans ?_
  refine (Go_iret (h := mI h I) (y := 309) (ip := 13) (a := 0) (b := 0) (c := 0) (by decide +kernel) (Or.inl rfl)).trans ?_
  rfl

theorem b309_14 {h : HP} {I : Nat → Int → Int} {x1 : Int} {x2 : Int} {x3 : Int} {x4 : Int} {v6 : MV} {sr0 : Option Nat} : Go 309 14 [.inr (.inl (some 1)), .inl x1, .inl x2, .inl x3, .inl x4, .inr (.inl (some 139)), v6] [.inr (.inl sr0)] (mI h I) = some (mI h I, .inl (some (.inl 2))) := by
  refine (Go_astore (h := mI h I) (y := 309) (ip := 14) (a := 0) (b := 6) (c := 0) (by decide +kernel) rfl).trans ?_
  refine (Go_const (h := mI h I) (y := 309) (ip := 15) (a := 2) (b := 0) (c := 0) (by decide +kernel)).trans ?_
  refine (Go_iret (h := mI h I) (y := 309) (ip := 16) (a := 0) (b := 0) (c := 0) (by decide +kernel) (Or.inl rfl)).trans ?_
  rfl

theorem b309_17 {h : HP} {I : Nat → Int → Int} {x1 : Int} {x2 : Int} {x3 : Int} {x4 : Int} {v6 : MV} {sr0 : Option Nat} : Go 309 17 [.inr (.inl (some 1)), .inl x1, .inl x2, .inl x3, .inl x4, .inr (.inl (some 139)), v6] [.inr (.inl sr0)] (mI h I) = some (mI h I, .inl (some (.inl 3))) := by
  refine (Go_astore (h := mI h I) (y := 309) (ip := 17) (a := 0) (b := 6) (c := 0) (by decide +kernel) rfl).trans ?_
  refine (Go_const (h := mI h I) (y := 309) (ip := 18) (a := 3) (b := 0) (c := 0) (by decide +kernel)).trans ?_
  refine (Go_iret (h := mI h I) (y := 309) (ip := 19) (a := 0) (b := 0) (c := 0) (by decide +kernel) (Or.inl rfl)).trans ?_
  rfl

theorem b309_20 {h : HP} {I : Nat → Int → Int} {x1 : Int} {x2 : Int} {x3 : Int} {x4 : Int} {v6 : MV} : Go 309 20 [.inr (.inl (some 1)), .inl x1, .inl x2, .inl x3, .inl x4, .inr (.inl (some 139)), v6] [] (mI h I) = some (mI h I, .inl (some (.inl 0))) := by
  refine (Go_const (h := mI h I) (y := 309) (ip := 20) (a := 0) (b := 0) (c := 0) (by decide +kernel)).trans ?_
  refine (Go_iret (h := mI h I) (y := 309) (ip := 21) (a := 0) (b := 0) (c := 0) (by decide +kernel) (Or.inl rfl)).trans ?_
  rfl

theorem b310_0 {h : HP} {I : Nat → Int → Int} {x1 : Int} {x2 : Int} {v4 : MV} (p0 : LX 10 h 1) : Go 310 0 [.inr (.inl (some 1)), .inl x1, .inl x2, .inr (.inl (some 139)), v4] [] (mI h I) = cal 310 5 [.inr (.inl (some 1)), .inl x1, .inl x2, .inr (.inl (some 139)), v4] [.inl 0, .inr (.inl (some 139))] 6 (Go 137 0 [.inr (.inl (some 1)), .inl x1, .inl x2, vU, vU] [] (mI h I)) := by
  refine (Go_aload (h := mI h I) (y := 310) (ip := 0) (a := 0) (b := 3) (c := 0) (by decide +kernel) rfl).trans ?_
  refine (Go_const (h := mI h I) (y := 310) (ip := 1) (a := 0) (b := 0) (c := 0) (by decide +kernel)).trans ?_
  refine (Go_aload (h := mI h I) (y := 310) (ip := 2) (a := 0) (b := 0) (c := 0) (by decide +kernel) rfl).trans ?_
  refine (Go_iload (h := mI h I) (y := 310) (ip := 3) (a := 0) (b := 1) (c := 0) (by decide +kernel) rfl).trans ?_
  refine (Go_iload (h := mI h I) (y := 310) (ip := 4) (a := 0) (b := 2) (c := 0) (by decide +kernel) rfl).trans ?_
  refine (Go_call3 (h := mI h I) (y := 310) (ip := 5) (pc := 5) (a := 267) (z := 137) (c := 0) (as := [.inr (.inl (some 1)), .inl x1, .inl x2]) (rest := [.inl 0, .inr (.inl (some 139))]) (by decide +kernel) (by decide +kernel) rfl rfl (zrecv_v rfl (LX_t p0)) rfl).trans ?_
  rfl

theorem b310_6 {h : HP} {I : Nat → Int → Int} {x1 : Int} {x2 : Int} {v4 : MV} {sx1 : Int} {sx2 : Int} (p0 : hK h 139 = (2, 1)) (p1 : 0 ≤ sx1 ∧ sx1 < 1) : Go 310 6 [.inr (.inl (some 1)), .inl x1, .inl x2, .inr (.inl (some 139)), v4] [.inl sx2, .inl sx1, .inr (.inl (some 139))] (mI h I) = Go 310 15 [.inr (.inl (some 1)), .inl x1, .inl x2, .inr (.inl (some 139)), v4] [] (mI h (zu2 I 139 sx1 sx2)) := by
  refine (Go_i2l (h := mI h I) (y := 310) (ip := 6) (a := 0) (b := 0) (c := 0) (by decide +kernel)).trans ?_
  refine (Go_stl (h := mI h I) (y := 310) (ip := 7) (a := 0) (c := 0) (by decide +kernel) (p0) p1).trans ?_
  refine (Go_goto (h := mI h (zu2 I 139 sx1 sx2)) (y := 310) (ip := 8) (a := 0) (b := 0) (c := 15) (by decide +kernel)).trans ?_
  rfl

theorem b310_9 {h : HP} {I : Nat → Int → Int} {x1 : Int} {x2 : Int} {v4 : MV} {sr0 : Option Nat} : Go 310 9 [.inr (.inl (some 1)), .inl x1, .inl x2, .inr (.inl (some 139)), v4] [.inr (.inl sr0)] (mI h I) = some (mI h I, .inl (some (.inl 1))) := by
  refine (Go_astore (h := mI h I) (y := 310) (ip := 9) (a := 0) (b := 4) (c := 0) (by decide +kernel) rfl).trans ?_
  refine (Go_const (h := mI h I) (y := 310) (ip := 10) (a := 1) (b := 0) (c := 0) (by decide +kernel)).trans ?_
  refine (Go_iret (h := mI h I) (y := 310) (ip := 11) (a := 0) (b := 0) (c := 0) (by decide +kernel) (Or.inl rfl)).trans ?_
  rfl

theorem b310_12 {h : HP} {I : Nat → Int → Int} {x1 : Int} {x2 : Int} {v4 : MV} {sr0 : Option Nat} : Go 310 12 [.inr (.inl (some 1)), .inl x1, .inl x2, .inr (.inl (some 139)), v4] [.inr (.inl sr0)] (mI h I) = some (mI h I, .inl (some (.inl 2))) := by
  refine (Go_astore (h := mI h I) (y := 310) (ip := 12) (a := 0) (b := 4) (c := 0) (by decide +kernel) rfl).trans ?_
  refine (Go_const (h := mI h I) (y := 310) (ip := 13) (a := 2) (b := 0) (c := 0) (by decide +kernel)).trans ?_
  refine (Go_iret (h := mI h I) (y := 310) (ip := 14) (a := 0) (b := 0) (c := 0) (by decide +kernel) (Or.inl rfl)).trans ?_
  rfl

theorem b310_15 {h : HP} {I : Nat → Int → Int} {x1 : Int} {x2 : Int} {v4 : MV} : Go 310 15 [.inr (.inl (some 1)), .inl x1, .inl x2, .inr (.inl (some 139)), v4] [] (mI h I) = some (mI h I, .inl (some (.inl 0))) := by
  refine (Go_const (h := mI h I) (y := 310) (ip := 15) (a := 0) (b := 0) (c := 0) (by decide +kernel)).trans ?_
  refine (Go_iret (h := mI h I) (y := 310) (ip := 16) (a := 0) (b := 0) (c := 0) (by decide +kernel) (Or.inl rfl)).trans ?_
  rfl

theorem b311_0 {h : HP} {I : Nat → Int → Int} {x1 : Int} {x2 : Int} {v4 : MV} (p0 : LX 10 h 1) : Go 311 0 [.inr (.inl (some 1)), .inl x1, .inl x2, .inr (.inl (some 139)), v4] [] (mI h I) = cal 311 5 [.inr (.inl (some 1)), .inl x1, .inl x2, .inr (.inl (some 139)), v4] [.inl 0, .inr (.inl (some 139))] 6 (Go 138 0 [.inr (.inl (some 1)), .inl x1, .inl x2, vU, vU, vU] [] (mI h I)) := by
  refine (Go_aload (h := mI h I) (y := 311) (ip := 0) (a := 0) (b := 3) (c := 0) (by decide +kernel) rfl).trans ?_
  refine (Go_const (h := mI h I) (y := 311) (ip := 1) (a := 0) (b := 0) (c := 0) (by decide +kernel)).trans ?_
  refine (Go_aload (h := mI h I) (y := 311) (ip := 2) (a := 0) (b := 0) (c := 0) (by decide +kernel) rfl).trans ?_
  refine (Go_iload (h := mI h I) (y := 311) (ip := 3) (a := 0) (b := 1) (c := 0) (by decide +kernel) rfl).trans ?_
  refine (Go_iload (h := mI h I) (y := 311) (ip := 4) (a := 0) (b := 2) (c := 0) (by decide +kernel) rfl).trans ?_
  refine (Go_call3 (h := mI h I) (y := 311) (ip := 5) (pc := 5) (a := 268) (z := 138) (c := 0) (as := [.inr (.inl (some 1)), .inl x1, .inl x2]) (rest := [.inl 0, .inr (.inl (some 139))]) (by decide +kernel) (by decide +kernel) rfl rfl (zrecv_v rfl (LX_t p0)) rfl).trans ?_
  rfl

theorem b311_6 {h : HP} {I : Nat → Int → Int} {x1 : Int} {x2 : Int} {v4 : MV} {sx1 : Int} {sx2 : Int} (p0 : hK h 139 = (2, 1)) (p1 : 0 ≤ sx1 ∧ sx1 < 1) : Go 311 6 [.inr (.inl (some 1)), .inl x1, .inl x2, .inr (.inl (some 139)), v4] [.inl sx2, .inl sx1, .inr (.inl (some 139))] (mI h I) = Go 311 15 [.inr (.inl (some 1)), .inl x1, .inl x2, .inr (.inl (some 139)), v4] [] (mI h (zu2 I 139 sx1 sx2)) := by
  refine (Go_i2l (h := mI h I) (y := 311) (ip := 6) (a := 0) (b := 0) (c := 0) (by decide +kernel)).trans ?_
  refine (Go_stl (h := mI h I) (y := 311) (ip := 7) (a := 0) (c := 0) (by decide +kernel) (p0) p1).trans ?_
  refine (Go_goto (h := mI h (zu2 I 139 sx1 sx2)) (y := 311) (ip := 8) (a := 0) (b := 0) (c := 15) (by decide +kernel)).trans ?_
  rfl

theorem b311_9 {h : HP} {I : Nat → Int → Int} {x1 : Int} {x2 : Int} {v4 : MV} {sr0 : Option Nat} : Go 311 9 [.inr (.inl (some 1)), .inl x1, .inl x2, .inr (.inl (some 139)), v4] [.inr (.inl sr0)] (mI h I) = some (mI h I, .inl (some (.inl 1))) := by
  refine (Go_astore (h := mI h I) (y := 311) (ip := 9) (a := 0) (b := 4) (c := 0) (by decide +kernel) rfl).trans ?_
  refine (Go_const (h := mI h I) (y := 311) (ip := 10) (a := 1) (b := 0) (c := 0) (by decide +kernel)).trans ?_
  refine (Go_iret (h := mI h I) (y := 311) (ip := 11) (a := 0) (b := 0) (c := 0) (by decide +kernel) (Or.inl rfl)).trans ?_
  rfl

theorem b311_12 {h : HP} {I : Nat → Int → Int} {x1 : Int} {x2 : Int} {v4 : MV} {sr0 : Option Nat} : Go 311 12 [.inr (.inl (some 1)), .inl x1, .inl x2, .inr (.inl (some 139)), v4] [.inr (.inl sr0)] (mI h I) = some (mI h I, .inl (some (.inl 2))) := by
  refine (Go_astore (h := mI h I) (y := 311) (ip := 12) (a := 0) (b := 4) (c := 0) (by decide +kernel) rfl).trans ?_
  refine (Go_const (h := mI h I) (y := 311) (ip := 13) (a := 2) (b := 0) (c := 0) (by decide +kernel)).trans ?_
  refine (Go_iret (h := mI h I) (y := 311) (ip := 14) (a := 0) (b := 0) (c := 0) (by decide +kernel) (Or.inl rfl)).trans ?_
  rfl

theorem b311_15 {h : HP} {I : Nat → Int → Int} {x1 : Int} {x2 : Int} {v4 : MV} : Go 311 15 [.inr (.inl (some 1)), .inl x1, .inl x2, .inr (.inl (some 139)), v4] [] (mI h I) = some (mI h I, .inl (some (.inl 0))) := by
  refine (Go_const (h := mI h I) (y := 311) (ip := 15) (a := 0) (b := 0) (c := 0) (by decide +kernel)).trans ?_
  refine (Go_iret (h := mI h I) (y := 311) (ip := 16) (a := 0) (b := 0) (c := 0) (by decide +kernel) (Or.inl rfl)).trans ?_
  rfl

theorem b312_0 {h : HP} {I : Nat → Int → Int} {x1 : Int} {v3 : MV} (p0 : LX 10 h 1) : Go 312 0 [.inr (.inl (some 1)), .inl x1, .inr (.inl (some 139)), v3] [] (mI h I) = cal 312 4 [.inr (.inl (some 1)), .inl x1, .inr (.inl (some 139)), v3] [.inl 0, .inr (.inl (some 139))] 5 (Go 139 0 [.inr (.inl (some 1)), .inl x1, vU] [] (mI h I)) := by
  refine (Go_aload (h := mI h I) (y := 312) (ip := 0) (a := 0) (b := 2) (c := 0) (by decide +kernel) rfl).trans ?_
  refine (Go_const (h := mI h I) (y := 312) (ip := 1) (a := 0) (b := 0) (c := 0) (by decide +kernel)).trans ?_
  refine (Go_aload (h := mI h I) (y := 312) (ip := 2) (a := 0) (b := 0) (c := 0) (by decide +kernel) rfl).trans ?_
  refine (Go_iload (h := mI h I) (y := 312) (ip := 3) (a := 0) (b := 1) (c := 0) (by decide +kernel) rfl).trans ?_
  refine (Go_call3 (h := mI h I) (y := 312) (ip := 4) (pc := 4) (a := 269) (z := 139) (c := 0) (as := [.inr (.inl (some 1)), .inl x1]) (rest := [.inl 0, .inr (.inl (some 139))]) (by decide +kernel) (by decide +kernel) rfl rfl (zrecv_v rfl (LX_t p0)) rfl).trans ?_
  rfl

theorem b312_5 {h : HP} {I : Nat → Int → Int} {x1 : Int} {v3 : MV} {sx1 : Int} {sx2 : Int} (p0 : hK h 139 = (2, 1)) (p1 : 0 ≤ sx1 ∧ sx1 < 1) : Go 312 5 [.inr (.inl (some 1)), .inl x1, .inr (.inl (some 139)), v3] [.inl sx2, .inl sx1, .inr (.inl (some 139))] (mI h I) = Go 312 11 [.inr (.inl (some 1)), .inl x1, .inr (.inl (some 139)), v3] [] (mI h (zu2 I 139 sx1 sx2)) := by
  refine (Go_i2l (h := mI h I) (y := 312) (ip := 5) (a := 0) (b := 0) (c := 0) (by decide +kernel)).trans ?_
  refine (Go_stl (h := mI h I) (y := 312) (ip := 6) (a := 0) (c := 0) (by decide +kernel) (p0) p1).trans ?_
  refine (Go_goto (h := mI h (zu2 I 139 sx1 sx2)) (y := 312) (ip := 7) (a := 0) (b := 0) (c := 11) (by decide +kernel)).trans ?_
  rfl

theorem b312_8 {h : HP} {I : Nat → Int → Int} {x1 : Int} {v3 : MV} {sr0 : Option Nat} : Go 312 8 [.inr (.inl (some 1)), .inl x1, .inr (.inl (some 139)), v3] [.inr (.inl sr0)] (mI h I) = some (mI h I, .inl (some (.inl 1))) := by
  refine (Go_astore (h := mI h I) (y := 312) (ip := 8) (a := 0) (b := 3) (c := 0) (by decide +kernel) rfl).trans ?_
  refine (Go_const (h := mI h I) (y := 312) (ip := 9) (a := 1) (b := 0) (c := 0) (by decide +kernel)).trans ?_
  refine (Go_iret (h := mI h I) (y := 312) (ip := 10) (a := 0) (b := 0) (c := 0) (by decide +kernel) (Or.inl rfl)).trans ?_
  rfl

theorem b312_11 {h : HP} {I : Nat → Int → Int} {x1 : Int} {v3 : MV} : Go 312 11 [.inr (.inl (some 1)), .inl x1, .inr (.inl (some 139)), v3] [] (mI h I) = some (mI h I, .inl (some (.inl 0))) := by
  refine (Go_const (h := mI h I) (y := 312) (ip := 11) (a := 0) (b := 0) (c := 0) (by decide +kernel)).trans ?_
  refine (Go_iret (h := mI h I) (y := 312) (ip := 12) (a := 0) (b := 0) (c := 0) (by decide +kernel) (Or.inl rfl)).trans ?_
  rfl

theorem b313_0 {h : HP} {I : Nat → Int → Int} {x1 : Int} {x2 : Int} {v4 : MV} (p0 : LX 10 h 1) : Go 313 0 [.inr (.inl (some 1)), .inl x1, .inl x2, .inr (.inl (some 139)), v4] [] (mI h I) = cal 313 5 [.inr (.inl (some 1)), .inl x1, .inl x2, .inr (.inl (some 139)), v4] [.inl 0, .inr (.inl (some 139))] 6 (Go 140 0 [.inr (.inl (some 1)), .inl x1, .inl x2, vU, vU, vU, vU] [] (mI h I)) := by
  refine (Go_aload (h := mI h I) (y := 313) (ip := 0) (a := 0) (b := 3) (c := 0) (by decide +kernel) rfl).trans ?_
  refine (Go_const (h := mI h I) (y := 313) (ip := 1) (a := 0) (b := 0) (c := 0) (by decide +kernel)).trans ?_
  refine (Go_aload (h := mI h I) (y := 313) (ip := 2) (a := 0) (b := 0) (c := 0) (by decide +kernel) rfl).trans ?_
  refine (Go_iload (h := mI h I) (y := 313) (ip := 3) (a := 0) (b := 1) (c := 0) (by decide +kernel) rfl).trans ?_
  refine (Go_iload (h := mI h I) (y := 313) (ip := 4) (a := 0) (b := 2) (c := 0) (by decide +kernel) rfl).trans ?_
  refine (Go_call3 (h := mI h I) (y := 313) (ip := 5) (pc := 5) (a := 270) (z := 140) (c := 0) (as := [.inr (.inl (some 1)), .inl x1, .inl x2]) (rest := [.inl 0, .inr (.inl (some 139))]) (by decide +kernel) (by decide +kernel) rfl rfl (zrecv_v rfl (LX_t p0)) rfl).trans ?_
  rfl

theorem b313_6 {h : HP} {I : Nat → Int → Int} {x1 : Int} {x2 : Int} {v4 : MV} {sx1 : Int} {sx2 : Int} (p0 : hK h 139 = (2, 1)) (p1 : 0 ≤ sx1 ∧ sx1 < 1) : Go 313 6 [.inr (.inl (some 1)), .inl x1, .inl x2, .inr (.inl (some 139)), v4] [.inl sx2, .inl sx1, .inr (.inl (some 139))] (mI h I) = Go 313 12 [.inr (.inl (some 1)), .inl x1, .inl x2, .inr (.inl (some 139)), v4] [] (mI h (zu2 I 139 sx1 sx2)) := by
  refine (Go_i2l (h := mI h I) (y := 313) (ip := 6) (a := 0) (b := 0) (c := 0) (by decide +kernel)).trans ?_
  refine (Go_stl (h := mI h I) (y := 313) (ip := 7) (a := 0) (c := 0) (by decide +kernel) (p0) p1).trans ?_
  refine (Go_goto (h := mI h (zu2 I 139 sx1 sx2)) (y := 313) (ip := 8) (a := 0) (b := 0) (c := 12) (by decide +kernel)).trans ?_
  rfl

theorem b313_9 {h : HP} {I : Nat → Int → Int} {x1 : Int} {x2 : Int} {v4 : MV} {sr0 : Option Nat} : Go 313 9 [.inr (.inl (some 1)), .inl x1, .inl x2, .inr (.inl (some 139)), v4] [.inr (.inl sr0)] (mI h I) = some (mI h I, .inl (some (.inl 1))) := by
  refine (Go_astore (h := mI h I) (y := 313) (ip := 9) (a := 0) (b := 4) (c := 0) (by decide +kernel) rfl).trans ?_
  refine (Go_const (h := mI h I) (y := 313) (ip := 10) (a := 1) (b := 0) (c := 0) (by decide +kernel)).trans ?_
  refine (Go_iret (h := mI h I) (y := 313) (ip := 11) (a := 0) (b := 0) (c := 0) (by decide +kernel) (Or.inl rfl)).trans ?_
  rfl

theorem b313_12 {h : HP} {I : Nat → Int → Int} {x1 : Int} {x2 : Int} {v4 : MV} : Go 313 12 [.inr (.inl (some 1)), .inl x1, .inl x2, .inr (.inl (some 139)), v4] [] (mI h I) = some (mI h I, .inl (some (.inl 0))) := by
  refine (Go_const (h := mI h I) (y := 313) (ip := 12) (a := 0) (b := 0) (c := 0) (by decide +kernel)).trans ?_
  refine (Go_iret (h := mI h I) (y := 313) (ip := 13) (a := 0) (b := 0) (c := 0) (by decide +kernel) (Or.inl rfl)).trans ?_
  rfl

theorem b314_0 {h : HP} {I : Nat → Int → Int} {x1 : Int} {v3 : MV} (p0 : LX 10 h 1) : Go 314 0 [.inr (.inl (some 1)), .inl x1, .inr (.inl (some 139)), v3] [] (mI h I) = cal 314 4 [.inr (.inl (some 1)), .inl x1, .inr (.inl (some 139)), v3] [.inl 0, .inr (.inl (some 139))] 5 (Go 141 0 [.inr (.inl (some 1)), .inl x1, vU, vU, vU, vU, vU] [] (mI h I)) := by
  refine (Go_aload (h := mI h I) (y := 314) (ip := 0) (a := 0) (b := 2) (c := 0) (by decide +kernel) rfl).trans ?_
  refine (Go_const (h := mI h I) (y := 314) (ip := 1) (a := 0) (b := 0) (c := 0) (by decide +kernel)).trans ?_
  refine (Go_aload (h := mI h I) (y := 314) (ip := 2) (a := 0) (b := 0) (c := 0) (by decide +kernel) rfl).trans ?_
  refine (Go_iload (h := mI h I) (y := 314) (ip := 3) (a := 0) (b := 1) (c := 0) (by decide +kernel) rfl).trans ?_
  refine (Go_call3 (h := mI h I) (y := 314) (ip := 4) (pc := 4) (a := 271) (z := 141) (c := 0) (as := [.inr (.inl (some 1)), .inl x1]) (rest := [.inl 0, .inr (.inl (some 139))]) (by decide +kernel) (by decide +kernel) rfl rfl (zrecv_v rfl (LX_t p0)) rfl).trans ?_
  rfl

theorem b314_5 {h : HP} {I : Nat → Int → Int} {x1 : Int} {v3 : MV} {sx1 : Int} {sx2 : Int} (p0 : hK h 139 = (2, 1)) (p1 : 0 ≤ sx1 ∧ sx1 < 1) : Go 314 5 [.inr (.inl (some 1)), .inl x1, .inr (.inl (some 139)), v3] [.inl sx2, .inl sx1, .inr (.inl (some 139))] (mI h I) = Go 314 14 [.inr (.inl (some 1)), .inl x1, .inr (.inl (some 139)), v3] [] (mI h (zu2 I 139 sx1 sx2)) := by
  refine (Go_i2l (h := mI h I) (y := 314) (ip := 5) (a := 0) (b := 0) (c := 0) (by decide +kernel)).trans ?_
  refine (Go_stl (h := mI h I) (y := 314) (ip := 6) (a := 0) (c := 0) (by decide +kernel) (p0) p1).trans ?_
  refine (Go_goto (h := mI h (zu2 I 139 sx1 sx2)) (y := 314) (ip := 7) (a := 0) (b := 0) (c := 14) (by decide +kernel)).trans ?_
  rfl

theorem b314_8 {h : HP} {I : Nat → Int → Int} {x1 : Int} {v3 : MV} {sr0 : Option Nat} : Go 314 8 [.inr (.inl (some 1)), .inl x1, .inr (.inl (some 139)), v3] [.inr (.inl sr0)] (mI h I) = some (mI h I, .inl (some (.inl 1))) := by
  refine (Go_astore (h := mI h I) (y := 314) (ip := 8) (a := 0) (b := 3) (c := 0) (by decide +kernel) rfl).trans ?_
  refine (Go_const (h := mI h I) (y := 314) (ip := 9) (a := 1) (b := 0) (c := 0) (by decide +kernel)).trans ?_
  refine (Go_iret (h := mI h I) (y := 314) (ip := 10) (a := 0) (b := 0) (c := 0) (by decide +kernel) (Or.inl rfl)).trans ?_
  rfl

theorem b314_11 {h : HP} {I : Nat → Int → Int} {x1 : Int} {v3 : MV} {sr0 : Option Nat} : Go 314 11 [.inr (.inl (some 1)), .inl x1, .inr (.inl (some 139)), v3] [.inr (.inl sr0)] (mI h I) = some (mI h I, .inl (some (.inl 2))) := by
  refine (Go_astore (h := mI h I) (y := 314) (ip := 11) (a := 0) (b := 3) (c := 0) (by decide +kernel) rfl).trans ?_
  refine (Go_const (h := mI h I) (y := 314) (ip := 12) (a := 2) (b := 0) (c := 0) (by decide +kernel)).trans ?_
  refine (Go_iret (h := mI h I) (y := 314) (ip := 13) (a := 0) (b := 0) (c := 0) (by decide +kernel) (Or.inl rfl)).trans ?_
  rfl

theorem b314_14 {h : HP} {I : Nat → Int → Int} {x1 : Int} {v3 : MV} : Go 314 14 [.inr (.inl (some 1)), .inl x1, .inr (.inl (some 139)), v3] [] (mI h I) = some (mI h I, .inl (some (.inl 0))) := by
  refine (Go_const (h := mI h I) (y := 314) (ip := 14) (a := 0) (b := 0) (c := 0) (by decide +kernel)).trans ?_
  refine (Go_iret (h := mI h I) (y := 314) (ip := 15) (a := 0) (b := 0) (c := 0) (by decide +kernel) (Or.inl rfl)).trans ?_
  rfl

theorem b315_0 {h : HP} {I : Nat → Int → Int} {v1 : MV} {v2 : MV} {v3 : MV} {v4 : MV} {v5 : MV} {v6 : MV} : Go 315 0 [.inr (.inl (some 0)), v1, v2, v3, v4, v5, v6] [] (mI h I) = caln 315 [.inr (.inl (some 0)), v1, v2, v3, v4, v5, v6] [.inr (.inl (some (hN h)))] 3 (Go 98 0 [.inr (.inl (some (hN h)))] [] (hNew (mI h I) 20 0 14)) := by
  refine (Go_new (h := mI h I) (y := 315) (ip := 0) (a := 11) (b := 10) (c := 0) (by decide +kernel)).trans ?_
  refine (Go_dupR (h := hNew (mI h I) 20 0 14) (y := 315) (ip := 1) (a := 0) (b := 0) (c := 0) (by decide +kernel)).trans ?_
  refine (Go_call2 (h := hNew (mI h I) 20 0 14) (y := 315) (ip := 2) (a := 272) (z := 98) (c := 2) (as := [.inr (.inl (some (hN h)))]) (rest := [.inr (.inl (some (hN h)))]) (by decide +kernel) (by decide +kernel) rfl rfl rfl rfl).trans ?_
  rfl

theorem b315_3 {h : HP} {I : Nat → Int → Int} {v1 : MV} {v2 : MV} {v3 : MV} {v4 : MV} {v5 : MV} {v6 : MV} : Go 315 3 [.inr (.inl (some 0)), v1, v2, v3, v4, v5, v6] [.inr (.inl (some 1))] (mI h I) = caln 315 [.inr (.inl (some 0)), .inr (.inl (some 1)), v2, v3, v4, v5, v6] [.inr (.inl (some (hN h)))] 7 (Go 161 0 [.inr (.inl (some (hN h))), vU] [] (hNew (mI h I) 21 0 50)) := by
  refine (Go_astore (h := mI h I) (y := 315) (ip := 3) (a := 0) (b := 1) (c := 0) (by decide +kernel) rfl).trans ?_
  refine (Go_new (h := mI h I) (y := 315) (ip := 4) (a := 12) (b := 11) (c := 0) (by decide +kernel)).trans ?_
  refine (Go_dupR (h := hNew (mI h I) 21 0 50) (y := 315) (ip := 5) (a := 0) (b := 0) (c := 0) (by decide +kernel)).trans ?_
  refine (Go_call2 (h := hNew (mI h I) 21 0 50) (y := 315) (ip := 6) (a := 273) (z := 161) (c := 2) (as := [.inr (.inl (some (hN h)))]) (rest := [.inr (.inl (some (hN h)))]) (by decide +kernel) (by decide +kernel) rfl rfl rfl rfl).trans ?_
  rfl

theorem b315_7 {h : HP} {I : Nat → Int → Int} {v2 : MV} {v3 : MV} {v4 : MV} {v5 : MV} {v6 : MV} : Go 315 7 [.inr (.inl (some 0)), .inr (.inl (some 1)), v2, v3, v4, v5, v6] [.inr (.inl (some 94))] (mI h I) = Go 315 13 [.inr (.inl (some 0)), .inr (.inl (some 1)), .inr (.inl (some 94)), .inr (.inl (some (hN h))), .inl 0, v5, v6] [] (mI (hNew h 2 1 1) (rowU I (hN h) (fun _ => 0))) := by
  refine (Go_astore (h := mI h I) (y := 315) (ip := 7) (a := 0) (b := 2) (c := 0) (by decide +kernel) rfl).trans ?_
  refine (Go_const (h := mI h I) (y := 315) (ip := 8) (a := 1) (b := 0) (c := 0) (by decide +kernel)).trans ?_
  refine (Go_newa (h := mI h I) (y := 315) (ip := 9) (a := 0) (b := 2) (c := 0) (by decide +kernel) (by decide)).trans ?_
  refine (Go_astore (h := mI (hNew h 2 1 1) (rowU I (hN h) (fun _ => 0))) (y := 315) (ip := 10) (a := 0) (b := 3) (c := 0) (by decide +kernel) rfl).trans ?_
  refine (Go_const (h := mI (hNew h 2 1 1) (rowU I (hN h) (fun _ => 0))) (y := 315) (ip := 11) (a := 0) (b := 0) (c := 0) (by decide +kernel)).trans ?_
  refine (Go_istore (h := mI (hNew h 2 1 1) (rowU I (hN h) (fun _ => 0))) (y := 315) (ip := 12) (a := 0) (b := 4) (c := 0) (by decide +kernel) rfl).trans ?_
  rfl

theorem b315_13 {h : HP} {I : Nat → Int → Int} {x4 : Int} {v5 : MV} {v6 : MV} {L : Int} (p0 : hK h 0 = (6, L)) (p1 : -2147483648 ≤ L - 6 ∧ L - 6 < 2147483648) : Go 315 13 [.inr (.inl (some 0)), .inr (.inl (some 1)), .inr (.inl (some 94)), .inr (.inl (some 139)), .inl x4, v5, v6] [] (mI h I) = if L - 6 < x4 then Go 315 1828 [.inr (.inl (some 0)), .inr (.inl (some 1)), .inr (.inl (some 94)), .inr (.inl (some 139)), .inl x4, v5, v6] [] (mI h I) else Go 315 19 [.inr (.inl (some 0)), .inr (.inl (some 1)), .inr (.inl (some 94)), .inr (.inl (some 139)), .inl x4, v5, v6] [] (mI h I) := by
  refine (Go_iload (h := mI h I) (y := 315) (ip := 13) (a := 0) (b := 4) (c := 0) (by decide +kernel) rfl).trans ?_
  refine (Go_aload (h := mI h I) (y := 315) (ip := 14) (a := 0) (b := 0) (c := 0) (by decide +kernel) rfl).trans ?_
  refine (Go_alen (h := mI h I) (y := 315) (ip := 15) (a := 0) (b := 0) (c := 0) (by decide +kernel) (p0) rfl).trans ?_
  refine (Go_const (h := mI h I) (y := 315) (ip := 16) (a := 6) (b := 0) (c := 0) (by decide +kernel)).trans ?_
  refine (Go_ar (op := 5) (x := L - 6) (h := mI h I) (y := 315) (ip := 17) (a := 0) (b := 0) (c := 0) (by decide +kernel) rfl (zar5 p1)).trans ?_
  refine (Go_cmpgt (y := 315) (ip := 18) (a := 0) (c := 1828) (by decide +kernel)).trans ?_
  rfl

theorem b315_19 {h : HP} {I : Nat → Int → Int} {x4 : Int} {v5 : MV} {v6 : MV} {L : Int} (p0 : hK h 0 = (6, L)) (p1 : 0 ≤ x4 ∧ x4 < L) : Go 315 19 [.inr (.inl (some 0)), .inr (.inl (some 1)), .inr (.inl (some 94)), .inr (.inl (some 139)), .inl x4, v5, v6] [] (mI h I) = Go 315 (if 0 ≤ (zand (I 0 x4) 63) ∧ (zand (I 0 x4) 63) < ((zsw.getD 1 []).length : Int) then (zsw.getD 1 []).getD (zand (I 0 x4) 63).toNat 0 else 1826) [.inr (.inl (some 0)), .inr (.inl (some 1)), .inr (.inl (some 94)), .inr (.inl (some 139)), .inl x4, v5, v6] [] (mI h I) := by
  refine (Go_aload (h := mI h I) (y := 315) (ip := 19) (a := 0) (b := 0) (c := 0) (by decide +kernel) rfl).trans ?_
  refine (Go_iload (h := mI h I) (y := 315) (ip := 20) (a := 0) (b := 4) (c := 0) (by decide +kernel) rfl).trans ?_
  refine (Go_ald (h := mI h I) (y := 315) (ip := 21) (a := 0) (b := 0) (c := 0) (by decide +kernel) rfl (p0) rfl p1).trans ?_
  refine (Go_const (h := mI h I) (y := 315) (ip := 22) (a := 63) (b := 0) (c := 0) (by decide +kernel)).trans ?_
  refine (Go_ar (op := 10) (x := zand (I 0 x4) 63) (h := mI h I) (y := 315) (ip := 23) (a := 0) (b := 0) (c := 0) (by decide +kernel) rfl rfl).trans ?_
  refine (Go_switch (h := mI h I) (y := 315) (ip := 24) (a := 0) (b := 1) (c := 1826) (by decide +kernel)).trans ?_
  rfl

theorem b315_25 {h : HP} {I : Nat → Int → Int} {x4 : Int} {v5 : MV} {v6 : MV} {L : Int} (p0 : -2147483648 ≤ x4 + 1 ∧ x4 + 1 < 2147483648) (p1 : hK h 0 = (6, L)) (p2 : 0 ≤ x4 + 1 ∧ x4 + 1 < L) : Go 315 25 [.inr (.inl (some 0)), .inr (.inl (some 1)), .inr (.inl (some 94)), .inr (.inl (some 139)), .inl x4, v5, v6] [] (mI h I) = caln 315 [.inr (.inl (some 0)), .inr (.inl (some 1)), .inr (.inl (some 94)), .inr (.inl (some 139)), .inl x4, v5, v6] [] 33 (Go 275 0 [.inr (.inl (some 1)), .inl (I 0 (x4 + 1)), .inr (.inl (some 139)), vU] [] (mI h I)) := by
  refine (Go_aload (h := mI h I) (y := 315) (ip := 25) (a := 0) (b := 1) (c := 0) (by decide +kernel) rfl).trans ?_
  refine (Go_aload (h := mI h I) (y := 315) (ip := 26) (a := 0) (b := 0) (c := 0) (by decide +kernel) rfl).trans ?_
  refine (Go_iload (h := mI h I) (y := 315) (ip := 27) (a := 0) (b := 4) (c := 0) (by decide +kernel) rfl).trans ?_
  refine (Go_const (h := mI h I) (y := 315) (ip := 28) (a := 1) (b := 0) (c := 0) (by decide +kernel)).trans ?_
  refine (Go_ar (op := 4) (x := x4 + 1) (h := mI h I) (y := 315) (ip := 29) (a := 0) (b := 0) (c := 0) (by decide +kernel) rfl (zar4 p0)).trans ?_
  refine (Go_ald (h := mI h I) (y := 315) (ip := 30) (a := 0) (b := 0) (c := 0) (by decide +kernel) rfl (p1) rfl p2).trans ?_
  refine (Go_aload (h := mI h I) (y := 315) (ip := 31) (a := 0) (b := 3) (c := 0) (by decide +kernel) rfl).trans ?_
  refine (Go_call2 (h := mI h I) (y := 315) (ip := 32) (a := 274) (z := 275) (c := 1) (as := [.inr (.inl (some 1)), .inl (I 0 (x4 + 1)), .inr (.inl (some 139))]) (rest := []) (by decide +kernel) (by decide +kernel) rfl rfl rfl rfl).trans ?_
  rfl

theorem b315_33 {h : HP} {I : Nat → Int → Int} {x4 : Int} {v5 : MV} {v6 : MV} {sx0 : Int} {L : Int} (p0 : -2147483648 ≤ x4 + 1 ∧ x4 + 1 < 2147483648) (p1 : hK h 0 = (6, L)) (p2 : 0 ≤ x4 + 1 ∧ x4 + 1 < L) (p3 : LX 11 h 94) : Go 315 33 [.inr (.inl (some 0)), .inr (.inl (some 1)), .inr (.inl (some 94)), .inr (.inl (some 139)), .inl x4, v5, v6] [.inl sx0] (mI h I) = caln 315 [.inr (.inl (some 0)), .inr (.inl (some 1)), .inr (.inl (some 94)), .inr (.inl (some 139)), .inl x4, .inl sx0, v6] [] 41 (Go 189 0 [.inr (.inl (some 94)), .inl (I 0 (x4 + 1))] [] (mI h I)) := by
  refine (Go_istore (h := mI h I) (y := 315) (ip := 33) (a := 0) (b := 5) (c := 0) (by decide +kernel) rfl).trans ?_
  refine (Go_aload (h := mI h I) (y := 315) (ip := 34) (a := 0) (b := 2) (c := 0) (by decide +kernel) rfl).trans ?_
  refine (Go_aload (h := mI h I) (y := 315) (ip := 35) (a := 0) (b := 0) (c := 0) (by decide +kernel) rfl).trans ?_
  refine (Go_iload (h := mI h I) (y := 315) (ip := 36) (a := 0) (b := 4) (c := 0) (by decide +kernel) rfl).trans ?_
  refine (Go_const (h := mI h I) (y := 315) (ip := 37) (a := 1) (b := 0) (c := 0) (by decide +kernel)).trans ?_
  refine (Go_ar (op := 4) (x := x4 + 1) (h := mI h I) (y := 315) (ip := 38) (a := 0) (b := 0) (c := 0) (by decide +kernel) rfl (zar4 p0)).trans ?_
  refine (Go_ald (h := mI h I) (y := 315) (ip := 39) (a := 0) (b := 0) (c := 0) (by decide +kernel) rfl (p1) rfl p2).trans ?_
  refine (Go_call2 (h := mI h I) (y := 315) (ip := 40) (a := 275) (z := 189) (c := 0) (as := [.inr (.inl (some 94)), .inl (I 0 (x4 + 1))]) (rest := []) (by decide +kernel) (by decide +kernel) rfl rfl (zrecv_v rfl (LX_t p3)) rfl).trans ?_
  rfl

theorem b315_41 {h : HP} {I : Nat → Int → Int} {x4 : Int} {x5 : Int} {v6 : MV} {sx0 : Int} (p0 : LX 11 h 94) : Go 315 41 [.inr (.inl (some 0)), .inr (.inl (some 1)), .inr (.inl (some 94)), .inr (.inl (some 139)), .inl x4, .inl x5, v6] [.inl sx0] (mI h I) = caln 315 [.inr (.inl (some 0)), .inr (.inl (some 1)), .inr (.inl (some 94)), .inr (.inl (some 139)), .inl x4, .inl x5, .inl sx0] [] 44 (Go 162 0 [.inr (.inl (some 94))] [] (mI h I)) := by
  refine (Go_istore (h := mI h I) (y := 315) (ip := 41) (a := 0) (b := 6) (c := 0) (by decide +kernel) rfl).trans ?_
  refine (Go_aload (h := mI h I) (y := 315) (ip := 42) (a := 0) (b := 2) (c := 0) (by decide +kernel) rfl).trans ?_
  refine (Go_call2 (h := mI h I) (y := 315) (ip := 43) (a := 276) (z := 162) (c := 0) (as := [.inr (.inl (some 94))]) (rest := []) (by decide +kernel) (by decide +kernel) rfl rfl (zrecv_v rfl (LX_t p0)) rfl).trans ?_
  rfl

theorem b315_44 {h : HP} {I : Nat → Int → Int} {x4 : Int} {x5 : Int} {x6 : Int} {sx0 : Int} : Go 315 44 [.inr (.inl (some 0)), .inr (.inl (some 1)), .inr (.inl (some 94)), .inr (.inl (some 139)), .inl x4, .inl x5, .inl x6] [.inl sx0] (mI h I) = if sx0 = x5 then Go 315 48 [.inr (.inl (some 0)), .inr (.inl (some 1)), .inr (.inl (some 94)), .inr (.inl (some 139)), .inl x4, .inl x5, .inl x6] [] (mI h I) else Go 315 46 [.inr (.inl (some 0)), .inr (.inl (some 1)), .inr (.inl (some 94)), .inr (.inl (some 139)), .inl x4, .inl x5, .inl x6] [] (mI h I) := by
  refine (Go_iload (h := mI h I) (y := 315) (ip := 44) (a := 0) (b := 5) (c := 0) (by decide +kernel) rfl).trans ?_
  refine (Go_cmpeq (y := 315) (ip := 45) (a := 0) (c := 48) (by decide +kernel)).trans ?_
  rfl

theorem b315_46 {h : HP} {I : Nat → Int → Int} {x4 : Int} {x5 : Int} {x6 : Int} : Go 315 46 [.inr (.inl (some 0)), .inr (.inl (some 1)), .inr (.inl (some 94)), .inr (.inl (some 139)), .inl x4, .inl x5, .inl x6] [] (mI h I) = some (mI h I, .inl (some (.inl 0))) := by
  refine (Go_const (h := mI h I) (y := 315) (ip := 46) (a := 0) (b := 0) (c := 0) (by decide +kernel)).trans ?_
  refine (Go_iret (h := mI h I) (y := 315) (ip := 47) (a := 0) (b := 0) (c := 0) (by decide +kernel) (Or.inr ⟨rfl, by decide⟩)).trans ?_
  rfl

theorem b315_48 {h : HP} {I : Nat → Int → Int} {x4 : Int} {x5 : Int} {x6 : Int} : Go 315 48 [.inr (.inl (some 0)), .inr (.inl (some 1)), .inr (.inl (some 94)), .inr (.inl (some 139)), .inl x4, .inl x5, .inl x6] [] (mI h I) = if x5 ≠ 0 then Go 315 59 [.inr (.inl (some 0)), .inr (.inl (some 1)), .inr (.inl (some 94)), .inr (.inl (some 139)), .inl x4, .inl x5, .inl x6] [] (mI h I) else Go 315 50 [.inr (.inl (some 0)), .inr (.inl (some 1)), .inr (.inl (some 94)), .inr (.inl (some 139)), .inl x4, .inl x5, .inl x6] [] (mI h I) := by
  refine (Go_iload (h := mI h I) (y := 315) (ip := 48) (a := 0) (b := 5) (c := 0) (by decide +kernel) rfl).trans ?_
  refine (Go_ifne (y := 315) (ip := 49) (a := 0) (c := 59) (by decide +kernel)).trans ?_
  rfl

theorem b315_50 {h : HP} {I : Nat → Int → Int} {x4 : Int} {x5 : Int} {x6 : Int} (p0 : hK h 139 = (2, 1)) : Go 315 50 [.inr (.inl (some 0)), .inr (.inl (some 1)), .inr (.inl (some 94)), .inr (.inl (some 139)), .inl x4, .inl x5, .inl x6] [] (mI h I) = if (if I 139 0 < x6 then -1 else if I 139 0 = x6 then 0 else 1 : Int) = 0 then Go 315 59 [.inr (.inl (some 0)), .inr (.inl (some 1)), .inr (.inl (some 94)), .inr (.inl (some 139)), .inl x4, .inl x5, .inl x6] [] (mI h I) else Go 315 57 [.inr (.inl (some 0)), .inr (.inl (some 1)), .inr (.inl (some 94)), .inr (.inl (some 139)), .inl x4, .inl x5, .inl x6] [] (mI h I) := by
  refine (Go_aload (h := mI h I) (y := 315) (ip := 50) (a := 0) (b := 3) (c := 0) (by decide +kernel) rfl).trans ?_
  refine (Go_const (h := mI h I) (y := 315) (ip := 51) (a := 0) (b := 0) (c := 0) (by decide +kernel)).trans ?_
  refine (Go_ldl (h := mI h I) (y := 315) (ip := 52) (a := 0) (c := 0) (by decide +kernel) (p0) (by decide)).trans ?_
  refine (Go_iload (h := mI h I) (y := 315) (ip := 53) (a := 0) (b := 6) (c := 0) (by decide +kernel) rfl).trans ?_
  refine (Go_i2l (h := mI h I) (y := 315) (ip := 54) (a := 0) (b := 0) (c := 0) (by decide +kernel)).trans ?_
  refine (Go_lcmp (h := mI h I) (y := 315) (ip := 55) (a := 0) (b := 0) (c := 0) (by decide +kernel)).trans ?_
  refine (Go_ifeq (y := 315) (ip := 56) (a := 0) (c := 59) (by decide +kernel)).trans ?_
  rfl

theorem b315_57 {h : HP} {I : Nat → Int → Int} {x4 : Int} {x5 : Int} {x6 : Int} : Go 315 57 [.inr (.inl (some 0)), .inr (.inl (some 1)), .inr (.inl (some 94)), .inr (.inl (some 139)), .inl x4, .inl x5, .inl x6] [] (mI h I) = some (mI h I, .inl (some (.inl 0))) := by
  refine (Go_const (h := mI h I) (y := 315) (ip := 57) (a := 0) (b := 0) (c := 0) (by decide +kernel)).trans ?_
  refine (Go_iret (h := mI h I) (y := 315) (ip := 58) (a := 0) (b := 0) (c := 0) (by decide +kernel) (Or.inr ⟨rfl, by decide⟩)).trans ?_
  rfl

theorem b315_59 {h : HP} {I : Nat → Int → Int} {x4 : Int} {x5 : Int} {x6 : Int} : Go 315 59 [.inr (.inl (some 0)), .inr (.inl (some 1)), .inr (.inl (some 94)), .inr (.inl (some 139)), .inl x4, .inl x5, .inl x6] [] (mI h I) = Go 315 1826 [.inr (.inl (some 0)), .inr (.inl (some 1)), .inr (.inl (some 94)), .inr (.inl (some 139)), .inl x4, .inl x5, .inl x6] [] (mI h I) := by
  refine (Go_goto (h := mI h I) (y := 315) (ip := 59) (a := 0) (b := 0) (c := 1826) (by decide +kernel)).trans ?_
  rfl

theorem b315_60 {h : HP} {I : Nat → Int → Int} {x4 : Int} {v5 : MV} {v6 : MV} (p0 : LX 10 h 1) : Go 315 60 [.inr (.inl (some 0)), .inr (.inl (some 1)), .inr (.inl (some 94)), .inr (.inl (some 139)), .inl x4, v5, v6] [] (mI h I) = caln 315 [.inr (.inl (some 0)), .inr (.inl (some 1)), .inr (.inl (some 94)), .inr (.inl (some 139)), .inl x4, v5, v6] [] 62 (Go 100 0 [.inr (.inl (some 1)), vU] [] (mI h I)) := by
  refine (Go_aload (h := mI h I) (y := 315) (ip := 60) (a := 0) (b := 1) (c := 0) (by decide +kernel) rfl).trans ?_
  refine (Go_call2 (h := mI h I) (y := 315) (ip := 61) (a := 277) (z := 100) (c := 0) (as := [.inr (.inl (some 1))]) (rest := []) (by decide +kernel) (by decide +kernel) rfl rfl (zrecv_v rfl (LX_t p0)) rfl).trans ?_
  rfl

theorem b315_62 {h : HP} {I : Nat → Int → Int} {x4 : Int} {v5 : MV} {v6 : MV} {sx0 : Int} (p0 : LX 11 h 94) : Go 315 62 [.inr (.inl (some 0)), .inr (.inl (some 1)), .inr (.inl (some 94)), .inr (.inl (some 139)), .inl x4, v5, v6] [.inl sx0] (mI h I) = caln 315 [.inr (.inl (some 0)), .inr (.inl (some 1)), .inr (.inl (some 94)), .inr (.inl (some 139)), .inl x4, v5, v6] [.inl sx0] 64 (Go 190 0 [.inr (.inl (some 94)), vU] [] (mI h I)) := by
  refine (Go_aload (h := mI h I) (y := 315) (ip := 62) (a := 0) (b := 2) (c := 0) (by decide +kernel) rfl).trans ?_
  refine (Go_call2 (h := mI h I) (y := 315) (ip := 63) (a := 278) (z := 190) (c := 0) (as := [.inr (.inl (some 94))]) (rest := [.inl sx0]) (by decide +kernel) (by decide +kernel) rfl rfl (zrecv_v rfl (LX_t p0)) rfl).trans ?_
  rfl

theorem b315_64 {h : HP} {I : Nat → Int → Int} {x4 : Int} {v5 : MV} {v6 : MV} {sx0 : Int} {sx1 : Int} : Go 315 64 [.inr (.inl (some 0)), .inr (.inl (some 1)), .inr (.inl (some 94)), .inr (.inl (some 139)), .inl x4, v5, v6] [.inl sx1, .inl sx0] (mI h I) = if sx0 = sx1 then Go 315 1826 [.inr (.inl (some 0)), .inr (.inl (some 1)), .inr (.inl (some 94)), .inr (.inl (some 139)), .inl x4, v5, v6] [] (mI h I) else Go 315 65 [.inr (.inl (some 0)), .inr (.inl (some 1)), .inr (.inl (some 94)), .inr (.inl (some 139)), .inl x4, v5, v6] [] (mI h I) := by
  refine (Go_cmpeq (y := 315) (ip := 64) (a := 0) (c := 1826) (by decide +kernel)).trans ?_
  rfl

theorem b315_65 {h : HP} {I : Nat → Int → Int} {x4 : Int} {v5 : MV} {v6 : MV} : Go 315 65 [.inr (.inl (some 0)), .inr (.inl (some 1)), .inr (.inl (some 94)), .inr (.inl (some 139)), .inl x4, v5, v6] [] (mI h I) = some (mI h I, .inl (some (.inl 0))) := by
  refine (Go_const (h := mI h I) (y := 315) (ip := 65) (a := 0) (b := 0) (c := 0) (by decide +kernel)).trans ?_
  refine (Go_iret (h := mI h I) (y := 315) (ip := 66) (a := 0) (b := 0) (c := 0) (by decide +kernel) (Or.inr ⟨rfl, by decide⟩)).trans ?_
  rfl

theorem b315_67 {h : HP} {I : Nat → Int → Int} {x4 : Int} {v5 : MV} {v6 : MV} {L : Int} (p0 : -2147483648 ≤ x4 + 1 ∧ x4 + 1 < 2147483648) (p1 : hK h 0 = (6, L)) (p2 : 0 ≤ x4 + 1 ∧ x4 + 1 < L) : Go 315 67 [.inr (.inl (some 0)), .inr (.inl (some 1)), .inr (.inl (some 94)), .inr (.inl (some 139)), .inl x4, v5, v6] [] (mI h I) = caln 315 [.inr (.inl (some 0)), .inr (.inl (some 1)), .inr (.inl (some 94)), .inr (.inl (some 139)), .inl x4, v5, v6] [] 75 (Go 276 0 [.inr (.inl (some 1)), .inl (I 0 (x4 + 1)), .inr (.inl (some 139)), vU] [] (mI h I)) := by
  refine (Go_aload (h := mI h I) (y := 315) (ip := 67) (a := 0) (b := 1) (c := 0) (by decide +kernel) rfl).trans ?_
  refine (Go_aload (h := mI h I) (y := 315) (ip := 68) (a := 0) (b := 0) (c := 0) (by decide +kernel) rfl).trans ?_
  refine (Go_iload (h := mI h I) (y := 315) (ip := 69) (a := 0) (b := 4) (c := 0) (by decide +kernel) rfl).trans ?_
  refine (Go_const (h := mI h I) (y := 315) (ip := 70) (a := 1) (b := 0) (c := 0) (by decide +kernel)).trans ?_
  refine (Go_ar (op := 4) (x := x4 + 1) (h := mI h I) (y := 315) (ip := 71) (a := 0) (b := 0) (c := 0) (by decide +kernel) rfl (zar4 p0)).trans ?_
  refine (Go_ald (h := mI h I) (y := 315) (ip := 72) (a := 0) (b := 0) (c := 0) (by decide +kernel) rfl (p1) rfl p2).trans ?_
  refine (Go_aload (h := mI h I) (y := 315) (ip := 73) (a := 0) (b := 3) (c := 0) (by decide +kernel) rfl).trans ?_
  refine (Go_call2 (h := mI h I) (y := 315) (ip := 74) (a := 279) (z := 276) (c := 1) (as := [.inr (.inl (some 1)), .inl (I 0 (x4 + 1)), .inr (.inl (some 139))]) (rest := []) (by decide +kernel) (by decide +kernel) rfl rfl rfl rfl).trans ?_
  rfl

theorem b315_75 {h : HP} {I : Nat → Int → Int} {x4 : Int} {v5 : MV} {v6 : MV} {sx0 : Int} {L : Int} (p0 : -2147483648 ≤ x4 + 1 ∧ x4 + 1 < 2147483648) (p1 : hK h 0 = (6, L)) (p2 : 0 ≤ x4 + 1 ∧ x4 + 1 < L) (p3 : LX 11 h 94) : Go 315 75 [.inr (.inl (some 0)), .inr (.inl (some 1)), .inr (.inl (some 94)), .inr (.inl (some 139)), .inl x4, v5, v6] [.inl sx0] (mI h I) = caln 315 [.inr (.inl (some 0)), .inr (.inl (some 1)), .inr (.inl (some 94)), .inr (.inl (some 139)), .inl x4, .inl sx0, v6] [] 83 (Go 194 0 [.inr (.inl (some 94)), .inl (I 0 (x4 + 1)), vU] [] (mI h I)) := by
  refine (Go_istore (h := mI h I) (y := 315) (ip := 75) (a := 0) (b := 5) (c := 0) (by decide +kernel) rfl).trans ?_
  refine (Go_aload (h := mI h I) (y := 315) (ip := 76) (a := 0) (b := 2) (c := 0) (by decide +kernel) rfl).trans ?_
  refine (Go_aload (h := mI h I) (y := 315) (ip := 77) (a := 0) (b := 0) (c := 0) (by decide +kernel) rfl).trans ?_
  refine (Go_iload (h := mI h I) (y := 315) (ip := 78) (a := 0) (b := 4) (c := 0) (by decide +kernel) rfl).trans ?_
  refine (Go_const (h := mI h I) (y := 315) (ip := 79) (a := 1) (b := 0) (c := 0) (by decide +kernel)).trans ?_
  refine (Go_ar (op := 4) (x := x4 + 1) (h := mI h I) (y := 315) (ip := 80) (a := 0) (b := 0) (c := 0) (by decide +kernel) rfl (zar4 p0)).trans ?_
  refine (Go_ald (h := mI h I) (y := 315) (ip := 81) (a := 0) (b := 0) (c := 0) (by decide +kernel) rfl (p1) rfl p2).trans ?_
  refine (Go_call2 (h := mI h I) (y := 315) (ip := 82) (a := 280) (z := 194) (c := 0) (as := [.inr (.inl (some 94)), .inl (I 0 (x4 + 1))]) (rest := []) (by decide +kernel) (by decide +kernel) rfl rfl (zrecv_v rfl (LX_t p3)) rfl).trans ?_
  rfl

theorem b315_83 {h : HP} {I : Nat → Int → Int} {x4 : Int} {x5 : Int} {v6 : MV} {sx0 : Int} (p0 : LX 11 h 94) : Go 315 83 [.inr (.inl (some 0)), .inr (.inl (some 1)), .inr (.inl (some 94)), .inr (.inl (some 139)), .inl x4, .inl x5, v6] [.inl sx0] (mI h I) = caln 315 [.inr (.inl (some 0)), .inr (.inl (some 1)), .inr (.inl (some 94)), .inr (.inl (some 139)), .inl x4, .inl x5, .inl sx0] [] 86 (Go 162 0 [.inr (.inl (some 94))] [] (mI h I)) := by
  refine (Go_istore (h := mI h I) (y := 315) (ip := 83) (a := 0) (b := 6) (c := 0) (by decide +kernel) rfl).trans ?_
  refine (Go_aload (h := mI h I) (y := 315) (ip := 84) (a := 0) (b := 2) (c := 0) (by decide +kernel) rfl).trans ?_
  refine (Go_call2 (h := mI h I) (y := 315) (ip := 85) (a := 276) (z := 162) (c := 0) (as := [.inr (.inl (some 94))]) (rest := []) (by decide +kernel) (by decide +kernel) rfl rfl (zrecv_v rfl (LX_t p0)) rfl).trans ?_
  rfl

theorem b315_86 {h : HP} {I : Nat → Int → Int} {x4 : Int} {x5 : Int} {x6 : Int} {sx0 : Int} : Go 315 86 [.inr (.inl (some 0)), .inr (.inl (some 1)), .inr (.inl (some 94)), .inr (.inl (some 139)), .inl x4, .inl x5, .inl x6] [.inl sx0] (mI h I) = if sx0 = x5 then Go 315 90 [.inr (.inl (some 0)), .inr (.inl (some 1)), .inr (.inl (some 94)), .inr (.inl (some 139)), .inl x4, .inl x5, .inl x6] [] (mI h I) else Go 315 88 [.inr (.inl (some 0)), .inr (.inl (some 1)), .inr (.inl (some 94)), .inr (.inl (some 139)), .inl x4, .inl x5, .inl x6] [] (mI h I) := by
  refine (Go_iload (h := mI h I) (y := 315) (ip := 86) (a := 0) (b := 5) (c := 0) (by decide +kernel) rfl).trans ?_
  refine (Go_cmpeq (y := 315) (ip := 87) (a := 0) (c := 90) (by decide +kernel)).trans ?_
  rfl

theorem b315_88 {h : HP} {I : Nat → Int → Int} {x4 : Int} {x5 : Int} {x6 : Int} : Go 315 88 [.inr (.inl (some 0)), .inr (.inl (some 1)), .inr (.inl (some 94)), .inr (.inl (some 139)), .inl x4, .inl x5, .inl x6] [] (mI h I) = some (mI h I, .inl (some (.inl 0))) := by
  refine (Go_const (h := mI h I) (y := 315) (ip := 88) (a := 0) (b := 0) (c := 0) (by decide +kernel)).trans ?_
  refine (Go_iret (h := mI h I) (y := 315) (ip := 89) (a := 0) (b := 0) (c := 0) (by decide +kernel) (Or.inr ⟨rfl, by decide⟩)).trans ?_
  rfl

theorem b315_90 {h : HP} {I : Nat → Int → Int} {x4 : Int} {x5 : Int} {x6 : Int} : Go 315 90 [.inr (.inl (some 0)), .inr (.inl (some 1)), .inr (.inl (some 94)), .inr (.inl (some 139)), .inl x4, .inl x5, .inl x6] [] (mI h I) = if x5 ≠ 0 then Go 315 101 [.inr (.inl (some 0)), .inr (.inl (some 1)), .inr (.inl (some 94)), .inr (.inl (some 139)), .inl x4, .inl x5, .inl x6] [] (mI h I) else Go 315 92 [.inr (.inl (some 0)), .inr (.inl (some 1)), .inr (.inl (some 94)), .inr (.inl (some 139)), .inl x4, .inl x5, .inl x6] [] (mI h I) := by
  refine (Go_iload (h := mI h I) (y := 315) (ip := 90) (a := 0) (b := 5) (c := 0) (by decide +kernel) rfl).trans ?_
  refine (Go_ifne (y := 315) (ip := 91) (a := 0) (c := 101) (by decide +kernel)).trans ?_
  rfl

theorem b315_92 {h : HP} {I : Nat → Int → Int} {x4 : Int} {x5 : Int} {x6 : Int} (p0 : hK h 139 = (2, 1)) : Go 315 92 [.inr (.inl (some 0)), .inr (.inl (some 1)), .inr (.inl (some 94)), .inr (.inl (some 139)), .inl x4, .inl x5, .inl x6] [] (mI h I) = if (if I 139 0 < x6 then -1 else if I 139 0 = x6 then 0 else 1 : Int) = 0 then Go 315 101 [.inr (.inl (some 0)), .inr (.inl (some 1)), .inr (.inl (some 94)), .inr (.inl (some 139)), .inl x4, .inl x5, .inl x6] [] (mI h I) else Go 315 99 [.inr (.inl (some 0)), .inr (.inl (some 1)), .inr (.inl (some 94)), .inr (.inl (some 139)), .inl x4, .inl x5, .inl x6] [] (mI h I) := by
  refine (Go_aload (h := mI h I) (y := 315) (ip := 92) (a := 0) (b := 3) (c := 0) (by decide +kernel) rfl).trans ?_
  refine (Go_const (h := mI h I) (y := 315) (ip := 93) (a := 0) (b := 0) (c := 0) (by decide +kernel)).trans ?_
  refine (Go_ldl (h := mI h I) (y := 315) (ip := 94) (a := 0) (c := 0) (by decide +kernel) (p0) (by decide)).trans ?_
  refine (Go_iload (h := mI h I) (y := 315) (ip := 95) (a := 0) (b := 6) (c := 0) (by decide +kernel) rfl).trans ?_
  refine (Go_i2l (h := mI h I) (y := 315) (ip := 96) (a := 0) (b := 0) (c := 0) (by decide +kernel)).trans ?_
  refine (Go_lcmp (h := mI h I) (y := 315) (ip := 97) (a := 0) (b := 0) (c := 0) (by decide +kernel)).trans ?_
  refine (Go_ifeq (y := 315) (ip := 98) (a := 0) (c := 101) (by decide +kernel)).trans ?_
  rfl

theorem b315_99 {h : HP} {I : Nat → Int → Int} {x4 : Int} {x5 : Int} {x6 : Int} : Go 315 99 [.inr (.inl (some 0)), .inr (.inl (some 1)), .inr (.inl (some 94)), .inr (.inl (some 139)), .inl x4, .inl x5, .inl x6] [] (mI h I) = some (mI h I, .inl (some (.inl 0))) := by
  refine (Go_const (h := mI h I) (y := 315) (ip := 99) (a := 0) (b := 0) (c := 0) (by decide +kernel)).trans ?_
  refine (Go_iret (h := mI h I) (y := 315) (ip := 100) (a := 0) (b := 0) (c := 0) (by decide +kernel) (Or.inr ⟨rfl, by decide⟩)).trans ?_
  rfl

theorem b315_101 {h : HP} {I : Nat → Int → Int} {x4 : Int} {x5 : Int} {x6 : Int} : Go 315 101 [.inr (.inl (some 0)), .inr (.inl (some 1)), .inr (.inl (some 94)), .inr (.inl (some 139)), .inl x4, .inl x5, .inl x6] [] (mI h I) = Go 315 1826 [.inr (.inl (some 0)), .inr (.inl (some 1)), .inr (.inl (some 94)), .inr (.inl (some 139)), .inl x4, .inl x5, .inl x6] [] (mI h I) := by
  refine (Go_goto (h := mI h I) (y := 315) (ip := 101) (a := 0) (b := 0) (c := 1826) (by decide +kernel)).trans ?_
  rfl

theorem b315_102 {h : HP} {I : Nat → Int → Int} {x4 : Int} {v5 : MV} {v6 : MV} {L : Int} (p0 : -2147483648 ≤ x4 + 1 ∧ x4 + 1 < 2147483648) (p1 : hK h 0 = (6, L)) (p2 : 0 ≤ x4 + 1 ∧ x4 + 1 < L) : Go 315 102 [.inr (.inl (some 0)), .inr (.inl (some 1)), .inr (.inl (some 94)), .inr (.inl (some 139)), .inl x4, v5, v6] [] (mI h I) = caln 315 [.inr (.inl (some 0)), .inr (.inl (some 1)), .inr (.inl (some 94)), .inr (.inl (some 139)), .inl x4, v5, v6] [] 110 (Go 277 0 [.inr (.inl (some 1)), .inl (I 0 (x4 + 1)), .inr (.inl (some 139)), vU] [] (mI h I)) := by
  refine (Go_aload (h := mI h I) (y := 315) (ip := 102) (a := 0) (b := 1) (c := 0) (by decide +kernel) rfl).trans ?_
  refine (Go_aload (h := mI h I) (y := 315) (ip := 103) (a := 0) (b := 0) (c := 0) (by decide +kernel) rfl).trans ?_
  refine (Go_iload (h := mI h I) (y := 315) (ip := 104) (a := 0) (b := 4) (c := 0) (by decide +kernel) rfl).trans ?_
  refine (Go_const (h := mI h I) (y := 315) (ip := 105) (a := 1) (b := 0) (c := 0) (by decide +kernel)).trans ?_
  refine (Go_ar (op := 4) (x := x4 + 1) (h := mI h I) (y := 315) (ip := 106) (a := 0) (b := 0) (c := 0) (by decide +kernel) rfl (zar4 p0)).trans ?_
  refine (Go_ald (h := mI h I) (y := 315) (ip := 107) (a := 0) (b := 0) (c := 0) (by decide +kernel) rfl (p1) rfl p2).trans ?_
  refine (Go_aload (h := mI h I) (y := 315) (ip := 108) (a := 0) (b := 3) (c := 0) (by decide +kernel) rfl).trans ?_
  refine (Go_call2 (h := mI h I) (y := 315) (ip := 109) (a := 281) (z := 277) (c := 1) (as := [.inr (.inl (some 1)), .inl (I 0 (x4 + 1)), .inr (.inl (some 139))]) (rest := []) (by decide +kernel) (by decide +kernel) rfl rfl rfl rfl).trans ?_
  rfl

theorem b315_110 {h : HP} {I : Nat → Int → Int} {x4 : Int} {v5 : MV} {v6 : MV} {sx0 : Int} {L : Int} (p0 : -2147483648 ≤ x4 + 1 ∧ x4 + 1 < 2147483648) (p1 : hK h 0 = (6, L)) (p2 : 0 ≤ x4 + 1 ∧ x4 + 1 < L) (p3 : LX 11 h 94) : Go 315 110 [.inr (.inl (some 0)), .inr (.inl (some 1)), .inr (.inl (some 94)), .inr (.inl (some 139)), .inl x4, v5, v6] [.inl sx0] (mI h I) = caln 315 [.inr (.inl (some 0)), .inr (.inl (some 1)), .inr (.inl (some 94)), .inr (.inl (some 139)), .inl x4, .inl sx0, v6] [] 118 (Go 196 0 [.inr (.inl (some 94)), .inl (I 0 (x4 + 1)), vU, vU] [] (mI h I)) := by
  refine (Go_istore (h := mI h I) (y := 315) (ip := 110) (a := 0) (b := 5) (c := 0) (by decide +kernel) rfl).trans ?_
  refine (Go_aload (h := mI h I) (y := 315) (ip := 111) (a := 0) (b := 2) (c := 0) (by decide +kernel) rfl).trans ?_
  refine (Go_aload (h := mI h I) (y := 315) (ip := 112) (a := 0) (b := 0) (c := 0) (by decide +kernel) rfl).trans ?_
  refine (Go_iload (h := mI h I) (y := 315) (ip := 113) (a := 0) (b := 4) (c := 0) (by decide +kernel) rfl).trans ?_
  refine (Go_const (h := mI h I) (y := 315) (ip := 114) (a := 1) (b := 0) (c := 0) (by decide +kernel)).trans ?_
  refine (Go_ar (op := 4) (x := x4 + 1) (h := mI h I) (y := 315) (ip := 115) (a := 0) (b := 0) (c := 0) (by decide +kernel) rfl (zar4 p0)).trans ?_
  refine (Go_ald (h := mI h I) (y := 315) (ip := 116) (a := 0) (b := 0) (c := 0) (by decide +kernel) rfl (p1) rfl p2).trans ?_
  refine (Go_call2 (h := mI h I) (y := 315) (ip := 117) (a := 282) (z := 196) (c := 0) (as := [.inr (.inl (some 94)), .inl (I 0 (x4 + 1))]) (rest := []) (by decide +kernel) (by decide +kernel) rfl rfl (zrecv_v rfl (LX_t p3)) rfl).trans ?_
  rfl

theorem b315_118 {h : HP} {I : Nat → Int → Int} {x4 : Int} {x5 : Int} {v6 : MV} {sx0 : Int} (p0 : LX 11 h 94) : Go 315 118 [.inr (.inl (some 0)), .inr (.inl (some 1)), .inr (.inl (some 94)), .inr (.inl (some 139)), .inl x4, .inl x5, v6] [.inl sx0] (mI h I) = caln 315 [.inr (.inl (some 0)), .inr (.inl (some 1)), .inr (.inl (some 94)), .inr (.inl (some 139)), .inl x4, .inl x5, .inl sx0] [] 121 (Go 162 0 [.inr (.inl (some 94))] [] (mI h I)) := by
  refine (Go_istore (h := mI h I) (y := 315) (ip := 118) (a := 0) (b := 6) (c := 0) (by decide +kernel) rfl).trans ?_
  refine (Go_aload (h := mI h I) (y := 315) (ip := 119) (a := 0) (b := 2) (c := 0) (by decide +kernel) rfl).trans ?_
  refine (Go_call2 (h := mI h I) (y := 315) (ip := 120) (a := 276) (z := 162) (c := 0) (as := [.inr (.inl (some 94))]) (rest := []) (by decide +kernel) (by decide +kernel) rfl rfl (zrecv_v rfl (LX_t p0)) rfl).trans ?_
  rfl

theorem b315_121 {h : HP} {I : Nat → Int → Int} {x4 : Int} {x5 : Int} {x6 : Int} {sx0 : Int} : Go 315 121 [.inr (.inl (some 0)), .inr (.inl (some 1)), .inr (.inl (some 94)), .inr (.inl (some 139)), .inl x4, .inl x5, .inl x6] [.inl sx0] (mI h I) = if sx0 = x5 then Go 315 125 [.inr (.inl (some 0)), .inr (.inl (some 1)), .inr (.inl (some 94)), .inr (.inl (some 139)), .inl x4, .inl x5, .inl x6] [] (mI h I) else Go 315 123 [.inr (.inl (some 0)), .inr (.inl (some 1)), .inr (.inl (some 94)), .inr (.inl (some 139)), .inl x4, .inl x5, .inl x6] [] (mI h I) := by
  refine (Go_iload (h := mI h I) (y := 315) (ip := 121) (a := 0) (b := 5) (c := 0) (by decide +kernel) rfl).trans ?_
  refine (Go_cmpeq (y := 315) (ip := 122) (a := 0) (c := 125) (by decide +kernel)).trans ?_
  rfl

theorem b315_123 {h : HP} {I : Nat → Int → Int} {x4 : Int} {x5 : Int} {x6 : Int} : Go 315 123 [.inr (.inl (some 0)), .inr (.inl (some 1)), .inr (.inl (some 94)), .inr (.inl (some 139)), .inl x4, .inl x5, .inl x6] [] (mI h I) = some (mI h I, .inl (some (.inl 0))) := by
  refine (Go_const (h := mI h I) (y := 315) (ip := 123) (a := 0) (b := 0) (c := 0) (by decide +kernel)).trans ?_
  refine (Go_iret (h := mI h I) (y := 315) (ip := 124) (a := 0) (b := 0) (c := 0) (by decide +kernel) (Or.inr ⟨rfl, by decide⟩)).trans ?_
  rfl

theorem b315_125 {h : HP} {I : Nat → Int → Int} {x4 : Int} {x5 : Int} {x6 : Int} : Go 315 125 [.inr (.inl (some 0)), .inr (.inl (some 1)), .inr (.inl (some 94)), .inr (.inl (some 139)), .inl x4, .inl x5, .inl x6] [] (mI h I) = if x5 ≠ 0 then Go 315 136 [.inr (.inl (some 0)), .inr (.inl (some 1)), .inr (.inl (some 94)), .inr (.inl (some 139)), .inl x4, .inl x5, .inl x6] [] (mI h I) else Go 315 127 [.inr (.inl (some 0)), .inr (.inl (some 1)), .inr (.inl (some 94)), .inr (.inl (some 139)), .inl x4, .inl x5, .inl x6] [] (mI h I) := by
  refine (Go_iload (h := mI h I) (y := 315) (ip := 125) (a := 0) (b := 5) (c := 0) (by decide +kernel) rfl).trans ?_
  refine (Go_ifne (y := 315) (ip := 126) (a := 0) (c := 136) (by decide +kernel)).trans ?_
  rfl

theorem b315_127 {h : HP} {I : Nat → Int → Int} {x4 : Int} {x5 : Int} {x6 : Int} (p0 : hK h 139 = (2, 1)) : Go 315 127 [.inr (.inl (some 0)), .inr (.inl (some 1)), .inr (.inl (some 94)), .inr (.inl (some 139)), .inl x4, .inl x5, .inl x6] [] (mI h I) = if (if I 139 0 < x6 then -1 else if I 139 0 = x6 then 0 else 1 : Int) = 0 then Go 315 136 [.inr (.inl (some 0)), .inr (.inl (some 1)), .inr (.inl (some 94)), .inr (.inl (some 139)), .inl x4, .inl x5, .inl x6] [] (mI h I) else Go 315 134 [.inr (.inl (some 0)), .inr (.inl (some 1)), .inr (.inl (some 94)), .inr (.inl (some 139)), .inl x4, .inl x5, .inl x6] [] (mI h I) := by
  refine (Go_aload (h := mI h I) (y := 315) (ip := 127) (a := 0) (b := 3) (c := 0) (by decide +kernel) rfl).trans ?_
  refine (Go_const (h := mI h I) (y := 315) (ip := 128) (a := 0) (b := 0) (c := 0) (by decide +kernel)).trans ?_
  refine (Go_ldl (h := mI h I) (y := 315) (ip := 129) (a := 0) (c := 0) (by decide +kernel) (p0) (by decide)).trans ?_
  refine (Go_iload (h := mI h I) (y := 315) (ip := 130) (a := 0) (b := 6) (c := 0) (by decide +kernel) rfl).trans ?_
  refine (Go_i2l (h := mI h I) (y := 315) (ip := 131) (a := 0) (b := 0) (c := 0) (by decide +kernel)).trans ?_
  refine (Go_lcmp (h := mI h I) (y := 315) (ip := 132) (a := 0) (b := 0) (c := 0) (by decide +kernel)).trans ?_
  refine (Go_ifeq (y := 315) (ip := 133) (a := 0) (c := 136) (by decide +kernel)).trans ?_
  rfl

theorem b315_134 {h : HP} {I : Nat → Int → Int} {x4 : Int} {x5 : Int} {x6 : Int} : Go 315 134 [.inr (.inl (some 0)), .inr (.inl (some 1)), .inr (.inl (some 94)), .inr (.inl (some 139)), .inl x4, .inl x5, .inl x6] [] (mI h I) = some (mI h I, .inl (some (.inl 0))) := by
  refine (Go_const (h := mI h I) (y := 315) (ip := 134) (a := 0) (b := 0) (c := 0) (by decide +kernel)).trans ?_
  refine (Go_iret (h := mI h I) (y := 315) (ip := 135) (a := 0) (b := 0) (c := 0) (by decide +kernel) (Or.inr ⟨rfl, by decide⟩)).trans ?_
  rfl

theorem b315_136 {h : HP} {I : Nat → Int → Int} {x4 : Int} {x5 : Int} {x6 : Int} : Go 315 136 [.inr (.inl (some 0)), .inr (.inl (some 1)), .inr (.inl (some 94)), .inr (.inl (some 139)), .inl x4, .inl x5, .inl x6] [] (mI h I) = Go 315 1826 [.inr (.inl (some 0)), .inr (.inl (some 1)), .inr (.inl (some 94)), .inr (.inl (some 139)), .inl x4, .inl x5, .inl x6] [] (mI h I) := by
  refine (Go_goto (h := mI h I) (y := 315) (ip := 136) (a := 0) (b := 0) (c := 1826) (by decide +kernel)).trans ?_
  rfl

theorem b315_137 {h : HP} {I : Nat → Int → Int} {x4 : Int} {v5 : MV} {v6 : MV} {L : Int} (p0 : -2147483648 ≤ x4 + 1 ∧ x4 + 1 < 2147483648) (p1 : hK h 0 = (6, L)) (p2 : 0 ≤ x4 + 1 ∧ x4 + 1 < L) (p3 : -2147483648 ≤ x4 + 2 ∧ x4 + 2 < 2147483648) (p4 : 0 ≤ x4 + 2 ∧ x4 + 2 < L) (p5 : -2147483648 ≤ x4 + 3 ∧ x4 + 3 < 2147483648) (p6 : 0 ≤ x4 + 3 ∧ x4 + 3 < L) (p7 : -2147483648 ≤ x4 + 4 ∧ x4 + 4 < 2147483648) (p8 : 0 ≤ x4 + 4 ∧ x4 + 4 < L) (p9 : -2147483648 ≤ x4 + 5 ∧ x4 + 5 < 2147483648) (p10 : 0 ≤ x4 + 5 ∧ x4 + 5 < L) : Go 315 137 [.inr (.inl (some 0)), .inr (.inl (some 1)), .inr (.inl (some 94)), .inr (.inl (some 139)), .inl x4, v5, v6] [] (mI h I) = caln 315 [.inr (.inl (some 0)), .inr (.inl (some 1)), .inr (.inl (some 94)), .inr (.inl (some 139)), .inl x4, v5, v6] [] 165 (Go 278 0 [.inr (.inl (some 1)), .inl (I 0 (x4 + 1)), .inl (I 0 (x4 + 2)), .inl (I 0 (x4 + 3)), .inl (I 0 (x4 + 4)), .inl (I 0 (x4 + 5)), .inr (.inl (some 139)), vU] [] (mI h I)) := by
  refine (Go_aload (h := mI h I) (y := 315) (ip := 137) (a := 0) (b := 1) (c := 0) (by decide +kernel) rfl).trans ?_
  refine (Go_aload (h := mI h I) (y := 315) (ip := 138) (a := 0) (b := 0) (c := 0) (by decide +kernel) rfl).trans ?_
  refine (Go_iload (h := mI h I) (y := 315) (ip := 139) (a := 0) (b := 4) (c := 0) (by decide +kernel) rfl).trans ?_
  refine (Go_const (h := mI h I) (y := 315) (ip := 140) (a := 1) (b := 0) (c := 0) (by decide +kernel)).trans ?_
  refine (Go_ar (op := 4) (x := x4 + 1) (h := mI h I) (y := 315) (ip := 141) (a := 0) (b := 0) (c := 0) (by decide +kernel) rfl (zar4 p0)).trans ?_
  refine (Go_ald (h := mI h I) (y := 315) (ip := 142) (a := 0) (b := 0) (c := 0) (by decide +kernel) rfl (p1) rfl p2).trans ?_
  refine (Go_aload (h := mI h I) (y := 315) (ip := 143) (a := 0) (b := 0) (c := 0) (by decide +kernel) rfl).trans ?_
  refine (Go_iload (h := mI h I) (y := 315) (ip := 144) (a := 0) (b := 4) (c := 0) (by decide +kernel) rfl).trans ?_
  refine (Go_const (h := mI h I) (y := 315) (ip := 145) (a := 2) (b := 0) (c := 0) (by decide +kernel)).trans ?_
  refine (Go_ar (op := 4) (x := x4 + 2) (h := mI h I) (y := 315) (ip := 146) (a := 0) (b := 0) (c := 0) (by decide +kernel) rfl (zar4 p3)).trans ?_
  refine (Go_ald (h := mI h I) (y := 315) (ip := 147) (a := 0) (b := 0) (c := 0) (by decide +kernel) rfl (p1) rfl p4).trans ?_
  refine (Go_aload (h := mI h I) (y := 315) (ip := 148) (a := 0) (b := 0) (c := 0) (by decide +kernel) rfl).trans ?_
  refine (Go_iload (h := mI h I) (y := 315) (ip := 149) (a := 0) (b := 4) (c := 0) (by decide +kernel) rfl).trans ?_
  refine (Go_const (h := mI h I) (y := 315) (ip := 150) (a := 3) (b := 0) (c := 0) (by decide +kernel)).trans ?_
  refine (Go_ar (op := 4) (x := x4 + 3) (h := mI h I) (y := 315) (ip := 151) (a := 0) (b := 0) (c := 0) (by decide +kernel) rfl (zar4 p5)).trans ?_
  refine (Go_ald (h := mI h I) (y := 315) (ip := 152) (a := 0) (b := 0) (c := 0) (by decide +kernel) rfl (p1) rfl p6).trans ?_
  refine (Go_aload (h := mI h I) (y := 315) (ip := 153) (a := 0) (b := 0) (c := 0) (by decide +kernel) rfl).trans ?_
  refine (Go_iload (h := mI h I) (y := 315) (ip := 154) (a := 0) (b := 4) (c := 0) (by decide +kernel) rfl).trans ?_
  refine (Go_const (h := mI h I) (y := 315) (ip := 155) (a := 4) (b := 0) (c := 0) (by decide +kernel)).trans ?_
  refine (Go_ar (op := 4) (x := x4 + 4) (h := mI h I) (y := 315) (ip := 156) (a := 0) (b := 0) (c := 0) (by decide +kernel) rfl (zar4 p7)).trans ?_
  refine (Go_ald (h := mI h I) (y := 315) (ip := 157) (a := 0) (b := 0) (c := 0) (by decide +kernel) rfl (p1) rfl p8).trans ?_
  refine (Go_aload (h := mI h I) (y := 315) (ip := 158) (a := 0) (b := 0) (c := 0) (by decide +kernel) rfl).trans ?_
  refine (Go_iload (h := mI h I) (y := 315) (ip := 159) (a := 0) (b := 4) (c := 0) (by decide +kernel) rfl).trans ?_
  refine (Go_const (h := mI h I) (y := 315) (ip := 160) (a := 5) (b := 0) (c := 0) (by decide +kernel)).trans ?_
  refine (Go_ar (op := 4) (x := x4 + 5) (h := mI h I) (y := 315) (ip := 161) (a := 0) (b := 0) (c := 0) (by decide +kernel) rfl (zar4 p9)).trans ?_
  refine (Go_ald (h := mI h I) (y := 315) (ip := 162) (a := 0) (b := 0) (c := 0) (by decide +kernel) rfl (p1) rfl p10).trans ?_
  refine (Go_aload (h := mI h I) (y := 315) (ip := 163) (a := 0) (b := 3) (c := 0) (by decide +kernel) rfl).trans ?_
  refine (Go_call2 (h := mI h I) (y := 315) (ip := 164) (a := 283) (z := 278) (c := 1) (as := [.inr (.inl (some 1)), .inl (I 0 (x4 + 1)), .inl (I 0 (x4 + 2)), .inl (I 0 (x4 + 3)), .inl (I 0 (x4 + 4)), .inl (I 0 (x4 + 5)), .inr (.inl (some 139))]) (rest := []) (by decide +kernel) (by decide +kernel) rfl rfl rfl rfl).trans ?_
  rfl

theorem b315_165 {h : HP} {I : Nat → Int → Int} {x4 : Int} {v5 : MV} {v6 : MV} {sx0 : Int} {L : Int} (p0 : -2147483648 ≤ x4 + 1 ∧ x4 + 1 < 2147483648) (p1 : hK h 0 = (6, L)) (p2 : 0 ≤ x4 + 1 ∧ x4 + 1 < L) (p3 : -2147483648 ≤ x4 + 2 ∧ x4 + 2 < 2147483648) (p4 : 0 ≤ x4 + 2 ∧ x4 + 2 < L) (p5 : -2147483648 ≤ x4 + 3 ∧ x4 + 3 < 2147483648) (p6 : 0 ≤ x4 + 3 ∧ x4 + 3 < L) (p7 : -2147483648 ≤ x4 + 4 ∧ x4 + 4 < 2147483648) (p8 : 0 ≤ x4 + 4 ∧ x4 + 4 < L) (p9 : -2147483648 ≤ x4 + 5 ∧ x4 + 5 < 2147483648) (p10 : 0 ≤ x4 + 5 ∧ x4 + 5 < L) (p11 : LX 11 h 94) : Go 315 165 [.inr (.inl (some 0)), .inr (.inl (some 1)), .inr (.inl (some 94)), .inr (.inl (some 139)), .inl x4, v5, v6] [.inl sx0] (mI h I) = caln 315 [.inr (.inl (some 0)), .inr (.inl (some 1)), .inr (.inl (some 94)), .inr (.inl (some 139)), .inl x4, .inl sx0, v6] [] 193 (Go 199 0 [.inr (.inl (some 94)), .inl (I 0 (x4 + 1)), .inl (I 0 (x4 + 2)), .inl (I 0 (x4 + 3)), .inl (I 0 (x4 + 4)), .inl (I 0 (x4 + 5)), vU, vU] [] (mI h I)) := by
  refine (Go_istore (h := mI h I) (y := 315) (ip := 165) (a := 0) (b := 5) (c := 0) (by decide +kernel) rfl).trans ?_
  refine (Go_aload (h := mI h I) (y := 315) (ip := 166) (a := 0) (b := 2) (c := 0) (by decide +kernel) rfl).trans ?_
  refine (Go_aload (h := mI h I) (y := 315) (ip := 167) (a := 0) (b := 0) (c := 0) (by decide +kernel) rfl).trans ?_
  refine (Go_iload (h := mI h I) (y := 315) (ip := 168) (a := 0) (b := 4) (c := 0) (by decide +kernel) rfl).trans ?_
  refine (Go_const (h := mI h I) (y := 315) (ip := 169) (a := 1) (b := 0) (c := 0) (by decide +kernel)).trans ?_
  refine (Go_ar (op := 4) (x := x4 + 1) (h := mI h I) (y := 315) (ip := 170) (a := 0) (b := 0) (c := 0) (by decide +kernel) rfl (zar4 p0)).trans ?_
  refine (Go_ald (h := mI h I) (y := 315) (ip := 171) (a := 0) (b := 0) (c := 0) (by decide +kernel) rfl (p1) rfl p2).trans ?_
  refine (Go_aload (h := mI h I) (y := 315) (ip := 172) (a := 0) (b := 0) (c := 0) (by decide +kernel) rfl).trans ?_
  refine (Go_iload (h := mI h I) (y := 315) (ip := 173) (a := 0) (b := 4) (c := 0) (by decide +kernel) rfl).trans ?_
  refine (Go_const (h := mI h I) (y := 315) (ip := 174) (a := 2) (b := 0) (c := 0) (by decide +kernel)).trans ?_
  refine (Go_ar (op := 4) (x := x4 + 2) (h := mI h I) (y := 315) (ip := 175) (a := 0) (b := 0) (c := 0) (by decide +kernel) rfl (zar4 p3)).trans ?_
  refine (Go_ald (h := mI h I) (y := 315) (ip := 176) (a := 0) (b := 0) (c := 0) (by decide +kernel) rfl (p1) rfl p4).trans ?_
  refine (Go_aload (h := mI h I) (y := 315) (ip := 177) (a := 0) (b := 0) (c := 0) (by decide +kernel) rfl).trans ?_
  refine (Go_iload (h := mI h I) (y := 315) (ip := 178) (a := 0) (b := 4) (c := 0) (by decide +kernel) rfl).trans ?_
  refine (Go_const (h := mI h I) (y := 315) (ip := 179) (a := 3) (b := 0) (c := 0) (by decide +kernel)).trans ?_
  refine (Go_ar (op := 4) (x := x4 + 3) (h := mI h I) (y := 315) (ip := 180) (a := 0) (b := 0) (c := 0) (by decide +kernel) rfl (zar4 p5)).trans ?_
  refine (Go_ald (h := mI h I) (y := 315) (ip := 181) (a := 0) (b := 0) (c := 0) (by decide +kernel) rfl (p1) rfl p6).trans ?_
  refine (Go_aload (h := mI h I) (y := 315) (ip := 182) (a := 0) (b := 0) (c := 0) (by decide +kernel) rfl).trans ?_
  refine (Go_iload (h := mI h I) (y := 315) (ip := 183) (a := 0) (b := 4) (c := 0) (by decide +kernel) rfl).trans ?_
  refine (Go_const (h := mI h I) (y := 315) (ip := 184) (a := 4) (b := 0) (c := 0) (by decide +kernel)).trans ?_
  refine (Go_ar (op := 4) (x := x4 + 4) (h := mI h I) (y := 315) (ip := 185) (a := 0) (b := 0) (c := 0) (by decide +kernel) rfl (zar4 p7)).trans ?_
  refine (Go_ald (h := mI h I) (y := 315) (ip := 186) (a := 0) (b := 0) (c := 0) (by decide +kernel) rfl (p1) rfl p8).trans ?_
  refine (Go_aload (h := mI h I) (y := 315) (ip := 187) (a := 0) (b := 0) (c := 0) (by decide +kernel) rfl).trans ?_
  refine (Go_iload (h := mI h I) (y := 315) (ip := 188) (a := 0) (b := 4) (c := 0) (by decide +kernel) rfl).trans ?_
  refine (Go_const (h := mI h I) (y := 315) (ip := 189) (a := 5) (b := 0) (c := 0) (by decide +kernel)).trans ?_
  refine (Go_ar (op := 4) (x := x4 + 5) (h := mI h I) (y := 315) (ip := 190) (a := 0) (b := 0) (c := 0) (by decide +kernel) rfl (zar4 p9)).trans ?_
  refine (Go_ald (h := mI h I) (y := 315) (ip := 191) (a := 0) (b := 0) (c := 0) (by decide +kernel) rfl (p1) rfl p10).trans ?_
  refine (Go_call2 (h := mI h I) (y := 315) (ip := 192) (a := 284) (z := 199) (c := 0) (as := [.inr (.inl (some 94)), .inl (I 0 (x4 + 1)), .inl (I 0 (x4 + 2)), .inl (I 0 (x4 + 3)), .inl (I 0 (x4 + 4)), .inl (I 0 (x4 + 5))]) (rest := []) (by decide +kernel) (by decide +kernel) rfl rfl (zrecv_v rfl (LX_t p11)) rfl).trans ?_
  rfl

theorem b315_193 {h : HP} {I : Nat → Int → Int} {x4 : Int} {x5 : Int} {v6 : MV} {sx0 : Int} (p0 : LX 11 h 94) : Go 315 193 [.inr (.inl (some 0)), .inr (.inl (some 1)), .inr (.inl (some 94)), .inr (.inl (some 139)), .inl x4, .inl x5, v6] [.inl sx0] (mI h I) = caln 315 [.inr (.inl (some 0)), .inr (.inl (some 1)), .inr (.inl (some 94)), .inr (.inl (some 139)), .inl x4, .inl x5, .inl sx0] [] 196 (Go 162 0 [.inr (.inl (some 94))] [] (mI h I)) := by
  refine (Go_istore (h := mI h I) (y := 315) (ip := 193) (a := 0) (b := 6) (c := 0) (by decide +kernel) rfl).trans ?_
  refine (Go_aload (h := mI h I) (y := 315) (ip := 194) (a := 0) (b := 2) (c := 0) (by decide +kernel) rfl).trans ?_
  refine (Go_call2 (h := mI h I) (y := 315) (ip := 195) (a := 276) (z := 162) (c := 0) (as := [.inr (.inl (some 94))]) (rest := []) (by decide +kernel) (by decide +kernel) rfl rfl (zrecv_v rfl (LX_t p0)) rfl).trans ?_
  rfl

theorem b315_196 {h : HP} {I : Nat → Int → Int} {x4 : Int} {x5 : Int} {x6 : Int} {sx0 : Int} : Go 315 196 [.inr (.inl (some 0)), .inr (.inl (some 1)), .inr (.inl (some 94)), .inr (.inl (some 139)), .inl x4, .inl x5, .inl x6] [.inl sx0] (mI h I) = if sx0 = x5 then Go 315 200 [.inr (.inl (some 0)), .inr (.inl (some 1)), .inr (.inl (some 94)), .inr (.inl (some 139)), .inl x4, .inl x5, .inl x6] [] (mI h I) else Go 315 198 [.inr (.inl (some 0)), .inr (.inl (some 1)), .inr (.inl (some 94)), .inr (.inl (some 139)), .inl x4, .inl x5, .inl x6] [] (mI h I) := by
  refine (Go_iload (h := mI h I) (y := 315) (ip := 196) (a := 0) (b := 5) (c := 0) (by decide +kernel) rfl).trans ?_
  refine (Go_cmpeq (y := 315) (ip := 197) (a := 0) (c := 200) (by decide +kernel)).trans ?_
  rfl

theorem b315_198 {h : HP} {I : Nat → Int → Int} {x4 : Int} {x5 : Int} {x6 : Int} : Go 315 198 [.inr (.inl (some 0)), .inr (.inl (some 1)), .inr (.inl (some 94)), .inr (.inl (some 139)), .inl x4, .inl x5, .inl x6] [] (mI h I) = some (mI h I, .inl (some (.inl 0))) := by
  refine (Go_const (h := mI h I) (y := 315) (ip := 198) (a := 0) (b := 0) (c := 0) (by decide +kernel)).trans ?_
  refine (Go_iret (h := mI h I) (y := 315) (ip := 199) (a := 0) (b := 0) (c := 0) (by decide +kernel) (Or.inr ⟨rfl, by decide⟩)).trans ?_
  rfl

theorem b315_200 {h : HP} {I : Nat → Int → Int} {x4 : Int} {x5 : Int} {x6 : Int} : Go 315 200 [.inr (.inl (some 0)), .inr (.inl (some 1)), .inr (.inl (some 94)), .inr (.inl (some 139)), .inl x4, .inl x5, .inl x6] [] (mI h I) = if x5 ≠ 0 then Go 315 211 [.inr (.inl (some 0)), .inr (.inl (some 1)), .inr (.inl (some 94)), .inr (.inl (some 139)), .inl x4, .inl x5, .inl x6] [] (mI h I) else Go 315 202 [.inr (.inl (some 0)), .inr (.inl (some 1)), .inr (.inl (some 94)), .inr (.inl (some 139)), .inl x4, .inl x5, .inl x6] [] (mI h I) := by
  refine (Go_iload (h := mI h I) (y := 315) (ip := 200) (a := 0) (b := 5) (c := 0) (by decide +kernel) rfl).trans ?_
  refine (Go_ifne (y := 315) (ip := 201) (a := 0) (c := 211) (by decide +kernel)).trans ?_
  rfl

theorem b315_202 {h : HP} {I : Nat → Int → Int} {x4 : Int} {x5 : Int} {x6 : Int} (p0 : hK h 139 = (2, 1)) : Go 315 202 [.inr (.inl (some 0)), .inr (.inl (some 1)), .inr (.inl (some 94)), .inr (.inl (some 139)), .inl x4, .inl x5, .inl x6] [] (mI h I) = if (if I 139 0 < x6 then -1 else if I 139 0 = x6 then 0 else 1 : Int) = 0 then Go 315 211 [.inr (.inl (some 0)), .inr (.inl (some 1)), .inr (.inl (some 94)), .inr (.inl (some 139)), .inl x4, .inl x5, .inl x6] [] (mI h I) else Go 315 209 [.inr (.inl (some 0)), .inr (.inl (some 1)), .inr (.inl (some 94)), .inr (.inl (some 139)), .inl x4, .inl x5, .inl x6] [] (mI h I) := by
  refine (Go_aload (h := mI h I) (y := 315) (ip := 202) (a := 0) (b := 3) (c := 0) (by decide +kernel) rfl).trans ?_
  refine (Go_const (h := mI h I) (y := 315) (ip := 203) (a := 0) (b := 0) (c := 0) (by decide +kernel)).trans ?_
  refine (Go_ldl (h := mI h I) (y := 315) (ip := 204) (a := 0) (c := 0) (by decide +kernel) (p0) (by decide)).trans ?_
  refine (Go_iload (h := mI h I) (y := 315) (ip := 205) (a := 0) (b := 6) (c := 0) (by decide +kernel) rfl).trans ?_
  refine (Go_i2l (h := mI h I) (y := 315) (ip := 206) (a := 0) (b := 0) (c := 0) (by decide +kernel)).trans ?_
  refine (Go_lcmp (h := mI h I) (y := 315) (ip := 207) (a := 0) (b := 0) (c := 0) (by decide +kernel)).trans ?_
  refine (Go_ifeq (y := 315) (ip := 208) (a := 0) (c := 211) (by decide +kernel)).trans ?_
  rfl

theorem b315_209 {h : HP} {I : Nat → Int → Int} {x4 : Int} {x5 : Int} {x6 : Int} : Go 315 209 [.inr (.inl (some 0)), .inr (.inl (some 1)), .inr (.inl (some 94)), .inr (.inl (some 139)), .inl x4, .inl x5, .inl x6] [] (mI h I) = some (mI h I, .inl (some (.inl 0))) := by
  refine (Go_const (h := mI h I) (y := 315) (ip := 209) (a := 0) (b := 0) (c := 0) (by decide +kernel)).trans ?_
  refine (Go_iret (h := mI h I) (y := 315) (ip := 210) (a := 0) (b := 0) (c := 0) (by decide +kernel) (Or.inr ⟨rfl, by decide⟩)).trans ?_
  rfl

theorem b315_211 {h : HP} {I : Nat → Int → Int} {x4 : Int} {x5 : Int} {x6 : Int} : Go 315 211 [.inr (.inl (some 0)), .inr (.inl (some 1)), .inr (.inl (some 94)), .inr (.inl (some 139)), .inl x4, .inl x5, .inl x6] [] (mI h I) = Go 315 1826 [.inr (.inl (some 0)), .inr (.inl (some 1)), .inr (.inl (some 94)), .inr (.inl (some 139)), .inl x4, .inl x5, .inl x6] [] (mI h I) := by
  refine (Go_goto (h := mI h I) (y := 315) (ip := 211) (a := 0) (b := 0) (c := 1826) (by decide +kernel)).trans ?_
  rfl

theorem b315_212 {h : HP} {I : Nat → Int → Int} {x4 : Int} {v5 : MV} {v6 : MV} {L : Int} (p0 : -2147483648 ≤ x4 + 1 ∧ x4 + 1 < 2147483648) (p1 : hK h 0 = (6, L)) (p2 : 0 ≤ x4 + 1 ∧ x4 + 1 < L) (p3 : -2147483648 ≤ x4 + 2 ∧ x4 + 2 < 2147483648) (p4 : 0 ≤ x4 + 2 ∧ x4 + 2 < L) : Go 315 212 [.inr (.inl (some 0)), .inr (.inl (some 1)), .inr (.inl (some 94)), .inr (.inl (some 139)), .inl x4, v5, v6] [] (mI h I) = caln 315 [.inr (.inl (some 0)), .inr (.inl (some 1)), .inr (.inl (some 94)), .inr (.inl (some 139)), .inl x4, v5, v6] [] 225 (Go 279 0 [.inr (.inl (some 1)), .inl (I 0 (x4 + 1)), .inl (I 0 (x4 + 2)), .inr (.inl (some 139)), vU] [] (mI h I)) := by
  refine (Go_aload (h := mI h I) (y := 315) (ip := 212) (a := 0) (b := 1) (c := 0) (by decide +kernel) rfl).trans ?_
  refine (Go_aload (h := mI h I) (y := 315) (ip := 213) (a := 0) (b := 0) (c := 0) (by decide +kernel) rfl).trans ?_
  refine (Go_iload (h := mI h I) (y := 315) (ip := 214) (a := 0) (b := 4) (c := 0) (by decide +kernel) rfl).trans ?_
  refine (Go_const (h := mI h I) (y := 315) (ip := 215) (a := 1) (b := 0) (c := 0) (by decide +kernel)).trans ?_
  refine (Go_ar (op := 4) (x := x4 + 1) (h := mI h I) (y := 315) (ip := 216) (a := 0) (b := 0) (c := 0) (by decide +kernel) rfl (zar4 p0)).trans ?_
  refine (Go_ald (h := mI h I) (y := 315) (ip := 217) (a := 0) (b := 0) (c := 0) (by decide +kernel) rfl (p1) rfl p2).trans ?_
  refine (Go_aload (h := mI h I) (y := 315) (ip := 218) (a := 0) (b := 0) (c := 0) (by decide +kernel) rfl).trans ?_
  refine (Go_iload (h := mI h I) (y := 315) (ip := 219) (a := 0) (b := 4) (c := 0) (by decide +kernel) rfl).trans ?_
  refine (Go_const (h := mI h I) (y := 315) (ip := 220) (a := 2) (b := 0) (c := 0) (by decide +kernel)).trans ?_
  refine (Go_ar (op := 4) (x := x4 + 2) (h := mI h I) (y := 315) (ip := 221) (a := 0) (b := 0) (c := 0) (by decide +kernel) rfl (zar4 p3)).trans ?_
  refine (Go_ald (h := mI h I) (y := 315) (ip := 222) (a := 0) (b := 0) (c := 0) (by decide +kernel) rfl (p1) rfl p4).trans ?_
  refine (Go_aload (h := mI h I) (y := 315) (ip := 223) (a := 0) (b := 3) (c := 0) (by decide +kernel) rfl).trans ?_
  refine (Go_call2 (h := mI h I) (y := 315) (ip := 224) (a := 285) (z := 279) (c := 1) (as := [.inr (.inl (some 1)), .inl (I 0 (x4 + 1)), .inl (I 0 (x4 + 2)), .inr (.inl (some 139))]) (rest := []) (by decide +kernel) (by decide +kernel) rfl rfl rfl rfl).trans ?_
  rfl

theorem b315_225 {h : HP} {I : Nat → Int → Int} {x4 : Int} {v5 : MV} {v6 : MV} {sx0 : Int} {L : Int} (p0 : -2147483648 ≤ x4 + 1 ∧ x4 + 1 < 2147483648) (p1 : hK h 0 = (6, L)) (p2 : 0 ≤ x4 + 1 ∧ x4 + 1 < L) (p3 : -2147483648 ≤ x4 + 2 ∧ x4 + 2 < 2147483648) (p4 : 0 ≤ x4 + 2 ∧ x4 + 2 < L) (p5 : LX 11 h 94) : Go 315 225 [.inr (.inl (some 0)), .inr (.inl (some 1)), .inr (.inl (some 94)), .inr (.inl (some 139)), .inl x4, v5, v6] [.inl sx0] (mI h I) = caln 315 [.inr (.inl (some 0)), .inr (.inl (some 1)), .inr (.inl (some 94)), .inr (.inl (some 139)), .inl x4, .inl sx0, v6] [] 238 (Go 200 0 [.inr (.inl (some 94)), .inl (I 0 (x4 + 1)), .inl (I 0 (x4 + 2))] [] (mI h I)) := by
  refine (Go_istore (h := mI h I) (y := 315) (ip := 225) (a := 0) (b := 5) (c := 0) (by decide +kernel) rfl).trans ?_
  refine (Go_aload (h := mI h I) (y := 315) (ip := 226) (a := 0) (b := 2) (c := 0) (by decide +kernel) rfl).trans ?_
  refine (Go_aload (h := mI h I) (y := 315) (ip := 227) (a := 0) (b := 0) (c := 0) (by decide +kernel) rfl).trans ?_
  refine (Go_iload (h := mI h I) (y := 315) (ip := 228) (a := 0) (b := 4) (c := 0) (by decide +kernel) rfl).trans ?_
  refine (Go_const (h := mI h I) (y := 315) (ip := 229) (a := 1) (b := 0) (c := 0) (by decide +kernel)).trans ?_
  refine (Go_ar (op := 4) (x := x4 + 1) (h := mI h I) (y := 315) (ip := 230) (a := 0) (b := 0) (c := 0) (by decide +kernel) rfl (zar4 p0)).trans ?_
  refine (Go_ald (h := mI h I) (y := 315) (ip := 231) (a := 0) (b := 0) (c := 0) (by decide +kernel) rfl (p1) rfl p2).trans ?_
  refine (Go_aload (h := mI h I) (y := 315) (ip := 232) (a := 0) (b := 0) (c := 0) (by decide +kernel) rfl).trans ?_
  refine (Go_iload (h := mI h I) (y := 315) (ip := 233) (a := 0) (b := 4) (c := 0) (by decide +kernel) rfl).trans ?_
  refine (Go_const (h := mI h I) (y := 315) (ip := 234) (a := 2) (b := 0) (c := 0) (by decide +kernel)).trans ?_
  refine (Go_ar (op := 4) (x := x4 + 2) (h := mI h I) (y := 315) (ip := 235) (a := 0) (b := 0) (c := 0) (by decide +kernel) rfl (zar4 p3)).trans ?_
  refine (Go_ald (h := mI h I) (y := 315) (ip := 236) (a := 0) (b := 0) (c := 0) (by decide +kernel) rfl (p1) rfl p4).trans ?_
  refine (Go_call2 (h := mI h I) (y := 315) (ip := 237) (a := 286) (z := 200) (c := 0) (as := [.inr (.inl (some 94)), .inl (I 0 (x4 + 1)), .inl (I 0 (x4 + 2))]) (rest := []) (by decide +kernel) (by decide +kernel) rfl rfl (zrecv_v rfl (LX_t p5)) rfl).trans ?_
  rfl

theorem b315_238 {h : HP} {I : Nat → Int → Int} {x4 : Int} {x5 : Int} {v6 : MV} {sx0 : Int} (p0 : LX 11 h 94) : Go 315 238 [.inr (.inl (some 0)), .inr (.inl (some 1)), .inr (.inl (some 94)), .inr (.inl (some 139)), .inl x4, .inl x5, v6] [.inl sx0] (mI h I) = caln 315 [.inr (.inl (some 0)), .inr (.inl (some 1)), .inr (.inl (some 94)), .inr (.inl (some 139)), .inl x4, .inl x5, .inl sx0] [] 241 (Go 162 0 [.inr (.inl (some 94))] [] (mI h I)) := by
  refine (Go_istore (h := mI h I) (y := 315) (ip := 238) (a := 0) (b := 6) (c := 0) (by decide +kernel) rfl).trans ?_
  refine (Go_aload (h := mI h I) (y := 315) (ip := 239) (a := 0) (b := 2) (c := 0) (by decide +kernel) rfl).trans ?_
  refine (Go_call2 (h := mI h I) (y := 315) (ip := 240) (a := 276) (z := 162) (c := 0) (as := [.inr (.inl (some 94))]) (rest := []) (by decide +kernel) (by decide +kernel) rfl rfl (zrecv_v rfl (LX_t p0)) rfl).trans ?_
  rfl

theorem b315_241 {h : HP} {I : Nat → Int → Int} {x4 : Int} {x5 : Int} {x6 : Int} {sx0 : Int} : Go 315 241 [.inr (.inl (some 0)), .inr (.inl (some 1)), .inr (.inl (some 94)), .inr (.inl (some 139)), .inl x4, .inl x5, .inl x6] [.inl sx0] (mI h I) = if sx0 = x5 then Go 315 245 [.inr (.inl (some 0)), .inr (.inl (some 1)), .inr (.inl (some 94)), .inr (.inl (some 139)), .inl x4, .inl x5, .inl x6] [] (mI h I) else Go 315 243 [.inr (.inl (some 0)), .inr (.inl (some 1)), .inr (.inl (some 94)), .inr (.inl (some 139)), .inl x4, .inl x5, .inl x6] [] (mI h I) := by
  refine (Go_iload (h := mI h I) (y := 315) (ip := 241) (a := 0) (b := 5) (c := 0) (by decide +kernel) rfl).trans ?_
  refine (Go_cmpeq (y := 315) (ip := 242) (a := 0) (c := 245) (by decide +kernel)).trans ?_
  rfl

theorem b315_243 {h : HP} {I : Nat → Int → Int} {x4 : Int} {x5 : Int} {x6 : Int} : Go 315 243 [.inr (.inl (some 0)), .inr (.inl (some 1)), .inr (.inl (some 94)), .inr (.inl (some 139)), .inl x4, .inl x5, .inl x6] [] (mI h I) = some (mI h I, .inl (some (.inl 0))) := by
  refine (Go_const (h := mI h I) (y := 315) (ip := 243) (a := 0) (b := 0) (c := 0) (by decide +kernel)).trans ?_
  refine (Go_iret (h := mI h I) (y := 315) (ip := 244) (a := 0) (b := 0) (c := 0) (by decide +kernel) (Or.inr ⟨rfl, by decide⟩)).trans ?_
  rfl

theorem b315_245 {h : HP} {I : Nat → Int → Int} {x4 : Int} {x5 : Int} {x6 : Int} : Go 315 245 [.inr (.inl (some 0)), .inr (.inl (some 1)), .inr (.inl (some 94)), .inr (.inl (some 139)), .inl x4, .inl x5, .inl x6] [] (mI h I) = if x5 ≠ 0 then Go 315 256 [.inr (.inl (some 0)), .inr (.inl (some 1)), .inr (.inl (some 94)), .inr (.inl (some 139)), .inl x4, .inl x5, .inl x6] [] (mI h I) else Go 315 247 [.inr (.inl (some 0)), .inr (.inl (some 1)), .inr (.inl (some 94)), .inr (.inl (some 139)), .inl x4, .inl x5, .inl x6] [] (mI h I) := by
  refine (Go_iload (h := mI h I) (y := 315) (ip := 245) (a := 0) (b := 5) (c := 0) (by decide +kernel) rfl).trans ?_
  refine (Go_ifne (y := 315) (ip := 246) (a := 0) (c := 256) (by decide +kernel)).trans ?_
  rfl

theorem b315_247 {h : HP} {I : Nat → Int → Int} {x4 : Int} {x5 : Int} {x6 : Int} (p0 : hK h 139 = (2, 1)) : Go 315 247 [.inr (.inl (some 0)), .inr (.inl (some 1)), .inr (.inl (some 94)), .inr (.inl (some 139)), .inl x4, .inl x5, .inl x6] [] (mI h I) = if (if I 139 0 < x6 then -1 else if I 139 0 = x6 then 0 else 1 : Int) = 0 then Go 315 256 [.inr (.inl (some 0)), .inr (.inl (some 1)), .inr (.inl (some 94)), .inr (.inl (some 139)), .inl x4, .inl x5, .inl x6] [] (mI h I) else Go 315 254 [.inr (.inl (some 0)), .inr (.inl (some 1)), .inr (.inl (some 94)), .inr (.inl (some 139)), .inl x4, .inl x5, .inl x6] [] (mI h I) := by
  refine (Go_aload (h := mI h I) (y := 315) (ip := 247) (a := 0) (b := 3) (c := 0) (by decide +kernel) rfl).trans ?_
  refine (Go_const (h := mI h I) (y := 315) (ip := 248) (a := 0) (b := 0) (c := 0) (by decide +kernel)).trans ?_
  refine (Go_ldl (h := mI h I) (y := 315) (ip := 249) (a := 0) (c := 0) (by decide +kernel) (p0) (by decide)).trans ?_
  refine (Go_iload (h := mI h I) (y := 315) (ip := 250) (a := 0) (b := 6) (c := 0) (by decide +kernel) rfl).trans ?_
  refine (Go_i2l (h := mI h I) (y := 315) (ip := 251) (a := 0) (b := 0) (c := 0) (by decide +kernel)).trans ?_
  refine (Go_lcmp (h := mI h I) (y := 315) (ip := 252) (a := 0) (b := 0) (c := 0) (by decide +kernel)).trans ?_
  refine (Go_ifeq (y := 315) (ip := 253) (a := 0) (c := 256) (by decide +kernel)).trans ?_
  rfl

theorem b315_254 {h : HP} {I : Nat → Int → Int} {x4 : Int} {x5 : Int} {x6 : Int} : Go 315 254 [.inr (.inl (some 0)), .inr (.inl (some 1)), .inr (.inl (some 94)), .inr (.inl (some 139)), .inl x4, .inl x5, .inl x6] [] (mI h I) = some (mI h I, .inl (some (.inl 0))) := by
  refine (Go_const (h := mI h I) (y := 315) (ip := 254) (a := 0) (b := 0) (c := 0) (by decide +kernel)).trans ?_
  refine (Go_iret (h := mI h I) (y := 315) (ip := 255) (a := 0) (b := 0) (c := 0) (by decide +kernel) (Or.inr ⟨rfl, by decide⟩)).trans ?_
  rfl

theorem b315_256 {h : HP} {I : Nat → Int → Int} {x4 : Int} {x5 : Int} {x6 : Int} : Go 315 256 [.inr (.inl (some 0)), .inr (.inl (some 1)), .inr (.inl (some 94)), .inr (.inl (some 139)), .inl x4, .inl x5, .inl x6] [] (mI h I) = Go 315 1826 [.inr (.inl (some 0)), .inr (.inl (some 1)), .inr (.inl (some 94)), .inr (.inl (some 139)), .inl x4, .inl x5, .inl x6] [] (mI h I) := by
  refine (Go_goto (h := mI h I) (y := 315) (ip := 256) (a := 0) (b := 0) (c := 1826) (by decide +kernel)).trans ?_
  rfl

theorem b315_257 {h : HP} {I : Nat → Int → Int} {x4 : Int} {v5 : MV} {v6 : MV} (p0 : LX 10 h 1) : Go 315 257 [.inr (.inl (some 0)), .inr (.inl (some 1)), .inr (.inl (some 94)), .inr (.inl (some 139)), .inl x4, v5, v6] [] (mI h I) = caln 315 [.inr (.inl (some 0)), .inr (.inl (some 1)), .inr (.inl (some 94)), .inr (.inl (some 139)), .inl x4, v5, v6] [] 259 (Go 105 0 [.inr (.inl (some 1))] [] (mI h I)) := by
  refine (Go_aload (h := mI h I) (y := 315) (ip := 257) (a := 0) (b := 1) (c := 0) (by decide +kernel) rfl).trans ?_
  refine (Go_call2 (h := mI h I) (y := 315) (ip := 258) (a := 287) (z := 105) (c := 0) (as := [.inr (.inl (some 1))]) (rest := []) (by decide +kernel) (by decide +kernel) rfl rfl (zrecv_v rfl (LX_t p0)) rfl).trans ?_
  rfl

theorem b315_259 {h : HP} {I : Nat → Int → Int} {x4 : Int} {v5 : MV} {v6 : MV} {sx0 : Int} (p0 : LX 11 h 94) : Go 315 259 [.inr (.inl (some 0)), .inr (.inl (some 1)), .inr (.inl (some 94)), .inr (.inl (some 139)), .inl x4, v5, v6] [.inl sx0] (mI h I) = caln 315 [.inr (.inl (some 0)), .inr (.inl (some 1)), .inr (.inl (some 94)), .inr (.inl (some 139)), .inl x4, v5, v6] [.inl sx0] 261 (Go 201 0 [.inr (.inl (some 94))] [] (mI h I)) := by
  refine (Go_aload (h := mI h I) (y := 315) (ip := 259) (a := 0) (b := 2) (c := 0) (by decide +kernel) rfl).trans ?_
  refine (Go_call2 (h := mI h I) (y := 315) (ip := 260) (a := 288) (z := 201) (c := 0) (as := [.inr (.inl (some 94))]) (rest := [.inl sx0]) (by decide +kernel) (by decide +kernel) rfl rfl (zrecv_v rfl (LX_t p0)) rfl).trans ?_
  rfl

theorem b315_261 {h : HP} {I : Nat → Int → Int} {x4 : Int} {v5 : MV} {v6 : MV} {sx0 : Int} {sx1 : Int} : Go 315 261 [.inr (.inl (some 0)), .inr (.inl (some 1)), .inr (.inl (some 94)), .inr (.inl (some 139)), .inl x4, v5, v6] [.inl sx1, .inl sx0] (mI h I) = if sx0 = sx1 then Go 315 1826 [.inr (.inl (some 0)), .inr (.inl (some 1)), .inr (.inl (some 94)), .inr (.inl (some 139)), .inl x4, v5, v6] [] (mI h I) else Go 315 262 [.inr (.inl (some 0)), .inr (.inl (some 1)), .inr (.inl (some 94)), .inr (.inl (some 139)), .inl x4, v5, v6] [] (mI h I) := by
  refine (Go_cmpeq (y := 315) (ip := 261) (a := 0) (c := 1826) (by decide +kernel)).trans ?_
  rfl

theorem b315_262 {h : HP} {I : Nat → Int → Int} {x4 : Int} {v5 : MV} {v6 : MV} : Go 315 262 [.inr (.inl (some 0)), .inr (.inl (some 1)), .inr (.inl (some 94)), .inr (.inl (some 139)), .inl x4, v5, v6] [] (mI h I) = some (mI h I, .inl (some (.inl 0))) := by
  refine (Go_const (h := mI h I) (y := 315) (ip := 262) (a := 0) (b := 0) (c := 0) (by decide +kernel)).trans ?_
  refine (Go_iret (h := mI h I) (y := 315) (ip := 263) (a := 0) (b := 0) (c := 0) (by decide +kernel) (Or.inr ⟨rfl, by decide⟩)).trans ?_
  rfl

theorem b315_264 {h : HP} {I : Nat → Int → Int} {x4 : Int} {v5 : MV} {v6 : MV} {L : Int} (p0 : -2147483648 ≤ x4 + 1 ∧ x4 + 1 < 2147483648) (p1 : hK h 0 = (6, L)) (p2 : 0 ≤ x4 + 1 ∧ x4 + 1 < L) : Go 315 264 [.inr (.inl (some 0)), .inr (.inl (some 1)), .inr (.inl (some 94)), .inr (.inl (some 139)), .inl x4, v5, v6] [] (mI h I) = caln 315 [.inr (.inl (some 0)), .inr (.inl (some 1)), .inr (.inl (some 94)), .inr (.inl (some 139)), .inl x4, v5, v6] [] 272 (Go 280 0 [.inr (.inl (some 1)), .inl (I 0 (x4 + 1)), .inr (.inl (some 139)), vU] [] (mI h I)) := by
  refine (Go_aload (h := mI h I) (y := 315) (ip := 264) (a := 0) (b := 1) (c := 0) (by decide +kernel) rfl).trans ?_
  refine (Go_aload (h := mI h I) (y := 315) (ip := 265) (a := 0) (b := 0) (c := 0) (by decide +kernel) rfl).trans ?_
  refine (Go_iload (h := mI h I) (y := 315) (ip := 266) (a := 0) (b := 4) (c := 0) (by decide +kernel) rfl).trans ?_
  refine (Go_const (h := mI h I) (y := 315) (ip := 267) (a := 1) (b := 0) (c := 0) (by decide +kernel)).trans ?_
  refine (Go_ar (op := 4) (x := x4 + 1) (h := mI h I) (y := 315) (ip := 268) (a := 0) (b := 0) (c := 0) (by decide +kernel) rfl (zar4 p0)).trans ?_
  refine (Go_ald (h := mI h I) (y := 315) (ip := 269) (a := 0) (b := 0) (c := 0) (by decide +kernel) rfl (p1) rfl p2).trans ?_
  refine (Go_aload (h := mI h I) (y := 315) (ip := 270) (a := 0) (b := 3) (c := 0) (by decide +kernel) rfl).trans ?_
  refine (Go_call2 (h := mI h I) (y := 315) (ip := 271) (a := 289) (z := 280) (c := 1) (as := [.inr (.inl (some 1)), .inl (I 0 (x4 + 1)), .inr (.inl (some 139))]) (rest := []) (by decide +kernel) (by decide +kernel) rfl rfl rfl rfl).trans ?_
  rfl

theorem b315_272 {h : HP} {I : Nat → Int → Int} {x4 : Int} {v5 : MV} {v6 : MV} {sx0 : Int} {L : Int} (p0 : -2147483648 ≤ x4 + 1 ∧ x4 + 1 < 2147483648) (p1 : hK h 0 = (6, L)) (p2 : 0 ≤ x4 + 1 ∧ x4 + 1 < L) (p3 : LX 11 h 94) : Go 315 272 [.inr (.inl (some 0)), .inr (.inl (some 1)), .inr (.inl (some 94)), .inr (.inl (some 139)), .inl x4, v5, v6] [.inl sx0] (mI h I) = caln 315 [.inr (.inl (some 0)), .inr (.inl (some 1)), .inr (.inl (some 94)), .inr (.inl (some 139)), .inl x4, .inl sx0, v6] [] 280 (Go 203 0 [.inr (.inl (some 94)), .inl (I 0 (x4 + 1))] [] (mI h I)) := by
  refine (Go_istore (h := mI h I) (y := 315) (ip := 272) (a := 0) (b := 5) (c := 0) (by decide +kernel) rfl).trans ?_
  refine (Go_aload (h := mI h I) (y := 315) (ip := 273) (a := 0) (b := 2) (c := 0) (by decide +kernel) rfl).trans ?_
  refine (Go_aload (h := mI h I) (y := 315) (ip := 274) (a := 0) (b := 0) (c := 0) (by decide +kernel) rfl).trans ?_
  refine (Go_iload (h := mI h I) (y := 315) (ip := 275) (a := 0) (b := 4) (c := 0) (by decide +kernel) rfl).trans ?_
  refine (Go_const (h := mI h I) (y := 315) (ip := 276) (a := 1) (b := 0) (c := 0) (by decide +kernel)).trans ?_
  refine (Go_ar (op := 4) (x := x4 + 1) (h := mI h I) (y := 315) (ip := 277) (a := 0) (b := 0) (c := 0) (by decide +kernel) rfl (zar4 p0)).trans ?_
  refine (Go_ald (h := mI h I) (y := 315) (ip := 278) (a := 0) (b := 0) (c := 0) (by decide +kernel) rfl (p1) rfl p2).trans ?_
  refine (Go_call2 (h := mI h I) (y := 315) (ip := 279) (a := 290) (z := 203) (c := 0) (as := [.inr (.inl (some 94)), .inl (I 0 (x4 + 1))]) (rest := []) (by decide +kernel) (by decide +kernel) rfl rfl (zrecv_v rfl (LX_t p3)) rfl).trans ?_
  rfl

theorem b315_280 {h : HP} {I : Nat → Int → Int} {x4 : Int} {x5 : Int} {v6 : MV} {sx0 : Int} (p0 : LX 11 h 94) : Go 315 280 [.inr (.inl (some 0)), .inr (.inl (some 1)), .inr (.inl (some 94)), .inr (.inl (some 139)), .inl x4, .inl x5, v6] [.inl sx0] (mI h I) = caln 315 [.inr (.inl (some 0)), .inr (.inl (some 1)), .inr (.inl (some 94)), .inr (.inl (some 139)), .inl x4, .inl x5, .inl sx0] [] 283 (Go 162 0 [.inr (.inl (some 94))] [] (mI h I)) := by
  refine (Go_istore (h := mI h I) (y := 315) (ip := 280) (a := 0) (b := 6) (c := 0) (by decide +kernel) rfl).trans ?_
  refine (Go_aload (h := mI h I) (y := 315) (ip := 281) (a := 0) (b := 2) (c := 0) (by decide +kernel) rfl).trans ?_
  refine (Go_call2 (h := mI h I) (y := 315) (ip := 282) (a := 276) (z := 162) (c := 0) (as := [.inr (.inl (some 94))]) (rest := []) (by decide +kernel) (by decide +kernel) rfl rfl (zrecv_v rfl (LX_t p0)) rfl).trans ?_
  rfl

theorem b315_283 {h : HP} {I : Nat → Int → Int} {x4 : Int} {x5 : Int} {x6 : Int} {sx0 : Int} : Go 315 283 [.inr (.inl (some 0)), .inr (.inl (some 1)), .inr (.inl (some 94)), .inr (.inl (some 139)), .inl x4, .inl x5, .inl x6] [.inl sx0] (mI h I) = if sx0 = x5 then Go 315 287 [.inr (.inl (some 0)), .inr (.inl (some 1)), .inr (.inl (some 94)), .inr (.inl (some 139)), .inl x4, .inl x5, .inl x6] [] (mI h I) else Go 315 285 [.inr (.inl (some 0)), .inr (.inl (some 1)), .inr (.inl (some 94)), .inr (.inl (some 139)), .inl x4, .inl x5, .inl x6] [] (mI h I) := by
  refine (Go_iload (h := mI h I) (y := 315) (ip := 283) (a := 0) (b := 5) (c := 0) (by decide +kernel) rfl).trans ?_
  refine (Go_cmpeq (y := 315) (ip := 284) (a := 0) (c := 287) (by decide +kernel)).trans ?_
  rfl

theorem b315_285 {h : HP} {I : Nat → Int → Int} {x4 : Int} {x5 : Int} {x6 : Int} : Go 315 285 [.inr (.inl (some 0)), .inr (.inl (some 1)), .inr (.inl (some 94)), .inr (.inl (some 139)), .inl x4, .inl x5, .inl x6] [] (mI h I) = some (mI h I, .inl (some (.inl 0))) := by
  refine (Go_const (h := mI h I) (y := 315) (ip := 285) (a := 0) (b := 0) (c := 0) (by decide +kernel)).trans ?_
  refine (Go_iret (h := mI h I) (y := 315) (ip := 286) (a := 0) (b := 0) (c := 0) (by decide +kernel) (Or.inr ⟨rfl, by decide⟩)).trans ?_
  rfl

theorem b315_287 {h : HP} {I : Nat → Int → Int} {x4 : Int} {x5 : Int} {x6 : Int} : Go 315 287 [.inr (.inl (some 0)), .inr (.inl (some 1)), .inr (.inl (some 94)), .inr (.inl (some 139)), .inl x4, .inl x5, .inl x6] [] (mI h I) = if x5 ≠ 0 then Go 315 298 [.inr (.inl (some 0)), .inr (.inl (some 1)), .inr (.inl (some 94)), .inr (.inl (some 139)), .inl x4, .inl x5, .inl x6] [] (mI h I) else Go 315 289 [.inr (.inl (some 0)), .inr (.inl (some 1)), .inr (.inl (some 94)), .inr (.inl (some 139)), .inl x4, .inl x5, .inl x6] [] (mI h I) := by
  refine (Go_iload (h := mI h I) (y := 315) (ip := 287) (a := 0) (b := 5) (c := 0) (by decide +kernel) rfl).trans ?_
  refine (Go_ifne (y := 315) (ip := 288) (a := 0) (c := 298) (by decide +kernel)).trans ?_
  rfl

theorem b315_289 {h : HP} {I : Nat → Int → Int} {x4 : Int} {x5 : Int} {x6 : Int} (p0 : hK h 139 = (2, 1)) : Go 315 289 [.inr (.inl (some 0)), .inr (.inl (some 1)), .inr (.inl (some 94)), .inr (.inl (some 139)), .inl x4, .inl x5, .inl x6] [] (mI h I) = if (if I 139 0 < x6 then -1 else if I 139 0 = x6 then 0 else 1 : Int) = 0 then Go 315 298 [.inr (.inl (some 0)), .inr (.inl (some 1)), .inr (.inl (some 94)), .inr (.inl (some 139)), .inl x4, .inl x5, .inl x6] [] (mI h I) else Go 315 296 [.inr (.inl (some 0)), .inr (.inl (some 1)), .inr (.inl (some 94)), .inr (.inl (some 139)), .inl x4, .inl x5, .inl x6] [] (mI h I) := by
  refine (Go_aload (h := mI h I) (y := 315) (ip := 289) (a := 0) (b := 3) (c := 0) (by decide +kernel) rfl).trans ?_
  refine (Go_const (h := mI h I) (y := 315) (ip := 290) (a := 0) (b := 0) (c := 0) (by decide +kernel)).trans ?_
  refine (Go_ldl (h := mI h I) (y := 315) (ip := 291) (a := 0) (c := 0) (by decide +kernel) (p0) (by decide)).trans ?_
  refine (Go_iload (h := mI h I) (y := 315) (ip := 292) (a := 0) (b := 6) (c := 0) (by decide +kernel) rfl).trans ?_
  refine (Go_i2l (h := mI h I) (y := 315) (ip := 293) (a := 0) (b := 0) (c := 0) (by decide +kernel)).trans ?_
  refine (Go_lcmp (h := mI h I) (y := 315) (ip := 294) (a := 0) (b := 0) (c := 0) (by decide +kernel)).trans ?_
  refine (Go_ifeq (y := 315) (ip := 295) (a := 0) (c := 298) (by decide +kernel)).trans ?_
  rfl

theorem b315_296 {h : HP} {I : Nat → Int → Int} {x4 : Int} {x5 : Int} {x6 : Int} : Go 315 296 [.inr (.inl (some 0)), .inr (.inl (some 1)), .inr (.inl (some 94)), .inr (.inl (some 139)), .inl x4, .inl x5, .inl x6] [] (mI h I) = some (mI h I, .inl (some (.inl 0))) := by
  refine (Go_const (h := mI h I) (y := 315) (ip := 296) (a := 0) (b := 0) (c := 0) (by decide +kernel)).trans ?_
  refine (Go_iret (h := mI h I) (y := 315) (ip := 297) (a := 0) (b := 0) (c := 0) (by decide +kernel) (Or.inr ⟨rfl, by decide⟩)).trans ?_
  rfl

theorem b315_298 {h : HP} {I : Nat → Int → Int} {x4 : Int} {x5 : Int} {x6 : Int} : Go 315 298 [.inr (.inl (some 0)), .inr (.inl (some 1)), .inr (.inl (some 94)), .inr (.inl (some 139)), .inl x4, .inl x5, .inl x6] [] (mI h I) = Go 315 1826 [.inr (.inl (some 0)), .inr (.inl (some 1)), .inr (.inl (some 94)), .inr (.inl (some 139)), .inl x4, .inl x5, .inl x6] [] (mI h I) := by
  refine (Go_goto (h := mI h I) (y := 315) (ip := 298) (a := 0) (b := 0) (c := 1826) (by decide +kernel)).trans ?_
  rfl

theorem b315_299 {h : HP} {I : Nat → Int → Int} {x4 : Int} {v5 : MV} {v6 : MV} {L : Int} (p0 : -2147483648 ≤ x4 + 1 ∧ x4 + 1 < 2147483648) (p1 : hK h 0 = (6, L)) (p2 : 0 ≤ x4 + 1 ∧ x4 + 1 < L) : Go 315 299 [.inr (.inl (some 0)), .inr (.inl (some 1)), .inr (.inl (some 94)), .inr (.inl (some 139)), .inl x4, v5, v6] [] (mI h I) = caln 315 [.inr (.inl (some 0)), .inr (.inl (some 1)), .inr (.inl (some 94)), .inr (.inl (some 139)), .inl x4, v5, v6] [] 307 (Go 281 0 [.inr (.inl (some 1)), .inl (I 0 (x4 + 1)), .inr (.inl (some 139)), vU] [] (mI h I)) := by
  refine (Go_aload (h := mI h I) (y := 315) (ip := 299) (a := 0) (b := 1) (c := 0) (by decide +kernel) rfl).trans ?_
  refine (Go_aload (h := mI h I) (y := 315) (ip := 300) (a := 0) (b := 0) (c := 0) (by decide +kernel) rfl).trans ?_
  refine (Go_iload (h := mI h I) (y := 315) (ip := 301) (a := 0) (b := 4) (c := 0) (by decide +kernel) rfl).trans ?_
  refine (Go_const (h := mI h I) (y := 315) (ip := 302) (a := 1) (b := 0) (c := 0) (by decide +kernel)).trans ?_
  refine (Go_ar (op := 4) (x := x4 + 1) (h := mI h I) (y := 315) (ip := 303) (a := 0) (b := 0) (c := 0) (by decide +kernel) rfl (zar4 p0)).trans ?_
  refine (Go_ald (h := mI h I) (y := 315) (ip := 304) (a := 0) (b := 0) (c := 0) (by decide +kernel) rfl (p1) rfl p2).trans ?_
  refine (Go_aload (h := mI h I) (y := 315) (ip := 305) (a := 0) (b := 3) (c := 0) (by decide +kernel) rfl).trans ?_
  refine (Go_call2 (h := mI h I) (y := 315) (ip := 306) (a := 291) (z := 281) (c := 1) (as := [.inr (.inl (some 1)), .inl (I 0 (x4 + 1)), .inr (.inl (some 139))]) (rest := []) (by decide +kernel) (by decide +kernel) rfl rfl rfl rfl).trans ?_
  rfl

theorem b315_307 {h : HP} {I : Nat → Int → Int} {x4 : Int} {v5 : MV} {v6 : MV} {sx0 : Int} {L : Int} (p0 : -2147483648 ≤ x4 + 1 ∧ x4 + 1 < 2147483648) (p1 : hK h 0 = (6, L)) (p2 : 0 ≤ x4 + 1 ∧ x4 + 1 < L) (p3 : LX 11 h 94) : Go 315 307 [.inr (.inl (some 0)), .inr (.inl (some 1)), .inr (.inl (some 94)), .inr (.inl (some 139)), .inl x4, v5, v6] [.inl sx0] (mI h I) = caln 315 [.inr (.inl (some 0)), .inr (.inl (some 1)), .inr (.inl (some 94)), .inr (.inl (some 139)), .inl x4, .inl sx0, v6] [] 315 (Go 204 0 [.inr (.inl (some 94)), .inl (I 0 (x4 + 1))] [] (mI h I)) := by
  refine (Go_istore (h := mI h I) (y := 315) (ip := 307) (a := 0) (b := 5) (c := 0) (by decide +kernel) rfl).trans ?_
  refine (Go_aload (h := mI h I) (y := 315) (ip := 308) (a := 0) (b := 2) (c := 0) (by decide +kernel) rfl).trans ?_
  refine (Go_aload (h := mI h I) (y := 315) (ip := 309) (a := 0) (b := 0) (c := 0) (by decide +kernel) rfl).trans ?_
  refine (Go_iload (h := mI h I) (y := 315) (ip := 310) (a := 0) (b := 4) (c := 0) (by decide +kernel) rfl).trans ?_
  refine (Go_const (h := mI h I) (y := 315) (ip := 311) (a := 1) (b := 0) (c := 0) (by decide +kernel)).trans ?_
  refine (Go_ar (op := 4) (x := x4 + 1) (h := mI h I) (y := 315) (ip := 312) (a := 0) (b := 0) (c := 0) (by decide +kernel) rfl (zar4 p0)).trans ?_
  refine (Go_ald (h := mI h I) (y := 315) (ip := 313) (a := 0) (b := 0) (c := 0) (by decide +kernel) rfl (p1) rfl p2).trans ?_
  refine (Go_call2 (h := mI h I) (y := 315) (ip := 314) (a := 292) (z := 204) (c := 0) (as := [.inr (.inl (some 94)), .inl (I 0 (x4 + 1))]) (rest := []) (by decide +kernel) (by decide +kernel) rfl rfl (zrecv_v rfl (LX_t p3)) rfl).trans ?_
  rfl

theorem b315_315 {h : HP} {I : Nat → Int → Int} {x4 : Int} {x5 : Int} {v6 : MV} {sx0 : Int} (p0 : LX 11 h 94) : Go 315 315 [.inr (.inl (some 0)), .inr (.inl (some 1)), .inr (.inl (some 94)), .inr (.inl (some 139)), .inl x4, .inl x5, v6] [.inl sx0] (mI h I) = caln 315 [.inr (.inl (some 0)), .inr (.inl (some 1)), .inr (.inl (some 94)), .inr (.inl (some 139)), .inl x4, .inl x5, .inl sx0] [] 318 (Go 162 0 [.inr (.inl (some 94))] [] (mI h I)) := by
  refine (Go_istore (h := mI h I) (y := 315) (ip := 315) (a := 0) (b := 6) (c := 0) (by decide +kernel) rfl).trans ?_
  refine (Go_aload (h := mI h I) (y := 315) (ip := 316) (a := 0) (b := 2) (c := 0) (by decide +kernel) rfl).trans ?_
  refine (Go_call2 (h := mI h I) (y := 315) (ip := 317) (a := 276) (z := 162) (c := 0) (as := [.inr (.inl (some 94))]) (rest := []) (by decide +kernel) (by decide +kernel) rfl rfl (zrecv_v rfl (LX_t p0)) rfl).trans ?_
  rfl

theorem b315_318 {h : HP} {I : Nat → Int → Int} {x4 : Int} {x5 : Int} {x6 : Int} {sx0 : Int} : Go 315 318 [.inr (.inl (some 0)), .inr (.inl (some 1)), .inr (.inl (some 94)), .inr (.inl (some 139)), .inl x4, .inl x5, .inl x6] [.inl sx0] (mI h I) = if sx0 = x5 then Go 315 322 [.inr (.inl (some 0)), .inr (.inl (some 1)), .inr (.inl (some 94)), .inr (.inl (some 139)), .inl x4, .inl x5, .inl x6] [] (mI h I) else Go 315 320 [.inr (.inl (some 0)), .inr (.inl (some 1)), .inr (.inl (some 94)), .inr (.inl (some 139)), .inl x4, .inl x5, .inl x6] [] (mI h I) := by
  refine (Go_iload (h := mI h I) (y := 315) (ip := 318) (a := 0) (b := 5) (c := 0) (by decide +kernel) rfl).trans ?_
  refine (Go_cmpeq (y := 315) (ip := 319) (a := 0) (c := 322) (by decide +kernel)).trans ?_
  rfl

theorem b315_320 {h : HP} {I : Nat → Int → Int} {x4 : Int} {x5 : Int} {x6 : Int} : Go 315 320 [.inr (.inl (some 0)), .inr (.inl (some 1)), .inr (.inl (some 94)), .inr (.inl (some 139)), .inl x4, .inl x5, .inl x6] [] (mI h I) = some (mI h I, .inl (some (.inl 0))) := by
  refine (Go_const (h := mI h I) (y := 315) (ip := 320) (a := 0) (b := 0) (c := 0) (by decide +kernel)).trans ?_
  refine (Go_iret (h := mI h I) (y := 315) (ip := 321) (a := 0) (b := 0) (c := 0) (by decide +kernel) (Or.inr ⟨rfl, by decide⟩)).trans ?_
  rfl

theorem b315_322 {h : HP} {I : Nat → Int → Int} {x4 : Int} {x5 : Int} {x6 : Int} : Go 315 322 [.inr (.inl (some 0)), .inr (.inl (some 1)), .inr (.inl (some 94)), .inr (.inl (some 139)), .inl x4, .inl x5, .inl x6] [] (mI h I) = if x5 ≠ 0 then Go 315 333 [.inr (.inl (some 0)), .inr (.inl (some 1)), .inr (.inl (some 94)), .inr (.inl (some 139)), .inl x4, .inl x5, .inl x6] [] (mI h I) else Go 315 324 [.inr (.inl (some 0)), .inr (.inl (some 1)), .inr (.inl (some 94)), .inr (.inl (some 139)), .inl x4, .inl x5, .inl x6] [] (mI h I) := by
  refine (Go_iload (h := mI h I) (y := 315) (ip := 322) (a := 0) (b := 5) (c := 0) (by decide +kernel) rfl).trans ?_
  refine (Go_ifne (y := 315) (ip := 323) (a := 0) (c := 333) (by decide +kernel)).trans ?_
  rfl

theorem b315_324 {h : HP} {I : Nat → Int → Int} {x4 : Int} {x5 : Int} {x6 : Int} (p0 : hK h 139 = (2, 1)) : Go 315 324 [.inr (.inl (some 0)), .inr (.inl (some 1)), .inr (.inl (some 94)), .inr (.inl (some 139)), .inl x4, .inl x5, .inl x6] [] (mI h I) = if (if I 139 0 < x6 then -1 else if I 139 0 = x6 then 0 else 1 : Int) = 0 then Go 315 333 [.inr (.inl (some 0)), .inr (.inl (some 1)), .inr (.inl (some 94)), .inr (.inl (some 139)), .inl x4, .inl x5, .inl x6] [] (mI h I) else Go 315 331 [.inr (.inl (some 0)), .inr (.inl (some 1)), .inr (.inl (some 94)), .inr (.inl (some 139)), .inl x4, .inl x5, .inl x6] [] (mI h I) := by
  refine (Go_aload (h := mI h I) (y := 315) (ip := 324) (a := 0) (b := 3) (c := 0) (by decide +kernel) rfl).trans ?_
  refine (Go_const (h := mI h I) (y := 315) (ip := 325) (a := 0) (b := 0) (c := 0) (by decide +kernel)).trans ?_
  refine (Go_ldl (h := mI h I) (y := 315) (ip := 326) (a := 0) (c := 0) (by decide +kernel) (p0) (by decide)).trans ?_
  refine (Go_iload (h := mI h I) (y := 315) (ip := 327) (a := 0) (b := 6) (c := 0) (by decide +kernel) rfl).trans ?_
  refine (Go_i2l (h := mI h I) (y := 315) (ip := 328) (a := 0) (b := 0) (c := 0) (by decide +kernel)).trans ?_
  refine (Go_lcmp (h := mI h I) (y := 315) (ip := 329) (a := 0) (b := 0) (c := 0) (by decide +kernel)).trans ?_
  refine (Go_ifeq (y := 315) (ip := 330) (a := 0) (c := 333) (by decide +kernel)).trans ?_
  rfl

theorem b315_331 {h : HP} {I : Nat → Int → Int} {x4 : Int} {x5 : Int} {x6 : Int} : Go 315 331 [.inr (.inl (some 0)), .inr (.inl (some 1)), .inr (.inl (some 94)), .inr (.inl (some 139)), .inl x4, .inl x5, .inl x6] [] (mI h I) = some (mI h I, .inl (some (.inl 0))) := by
  refine (Go_const (h := mI h I) (y := 315) (ip := 331) (a := 0) (b := 0) (c := 0) (by decide +kernel)).trans ?_
  refine (Go_iret (h := mI h I) (y := 315) (ip := 332) (a := 0) (b := 0) (c := 0) (by decide +kernel) (Or.inr ⟨rfl, by decide⟩)).trans ?_
  rfl

theorem b315_333 {h : HP} {I : Nat → Int → Int} {x4 : Int} {x5 : Int} {x6 : Int} : Go 315 333 [.inr (.inl (some 0)), .inr (.inl (some 1)), .inr (.inl (some 94)), .inr (.inl (some 139)), .inl x4, .inl x5, .inl x6] [] (mI h I) = Go 315 1826 [.inr (.inl (some 0)), .inr (.inl (some 1)), .inr (.inl (some 94)), .inr (.inl (some 139)), .inl x4, .inl x5, .inl x6] [] (mI h I) := by
  refine (Go_goto (h := mI h I) (y := 315) (ip := 333) (a := 0) (b := 0) (c := 1826) (by decide +kernel)).trans ?_
  rfl

theorem b315_334 {h : HP} {I : Nat → Int → Int} {x4 : Int} {v5 : MV} {v6 : MV} {L : Int} (p0 : -2147483648 ≤ x4 + 1 ∧ x4 + 1 < 2147483648) (p1 : hK h 0 = (6, L)) (p2 : 0 ≤ x4 + 1 ∧ x4 + 1 < L) (p3 : -2147483648 ≤ x4 + 2 ∧ x4 + 2 < 2147483648) (p4 : 0 ≤ x4 + 2 ∧ x4 + 2 < L) : Go 315 334 [.inr (.inl (some 0)), .inr (.inl (some 1)), .inr (.inl (some 94)), .inr (.inl (some 139)), .inl x4, v5, v6] [] (mI h I) = caln 315 [.inr (.inl (some 0)), .inr (.inl (some 1)), .inr (.inl (some 94)), .inr (.inl (some 139)), .inl x4, v5, v6] [] 347 (Go 282 0 [.inr (.inl (some 1)), .inl (I 0 (x4 + 1)), .inl (I 0 (x4 + 2)), .inr (.inl (some 139)), vU] [] (mI h I)) := by
  refine (Go_aload (h := mI h I) (y := 315) (ip := 334) (a := 0) (b := 1) (c := 0) (by decide +kernel) rfl).trans ?_
  refine (Go_aload (h := mI h I) (y := 315) (ip := 335) (a := 0) (b := 0) (c := 0) (by decide +kernel) rfl).trans ?_
  refine (Go_iload (h := mI h I) (y := 315) (ip := 336) (a := 0) (b := 4) (c := 0) (by decide +kernel) rfl).trans ?_
  refine (Go_const (h := mI h I) (y := 315) (ip := 337) (a := 1) (b := 0) (c := 0) (by decide +kernel)).trans ?_
  refine (Go_ar (op := 4) (x := x4 + 1) (h := mI h I) (y := 315) (ip := 338) (a := 0) (b := 0) (c := 0) (by decide +kernel) rfl (zar4 p0)).trans ?_
  refine (Go_ald (h := mI h I) (y := 315) (ip := 339) (a := 0) (b := 0) (c := 0) (by decide +kernel) rfl (p1) rfl p2).trans ?_
  refine (Go_aload (h := mI h I) (y := 315) (ip := 340) (a := 0) (b := 0) (c := 0) (by decide +kernel) rfl).trans ?_
  refine (Go_iload (h := mI h I) (y := 315) (ip := 341) (a := 0) (b := 4) (c := 0) (by decide +kernel) rfl).trans ?_
  refine (Go_const (h := mI h I) (y := 315) (ip := 342) (a := 2) (b := 0) (c := 0) (by decide +kernel)).trans ?_
  refine (Go_ar (op := 4) (x := x4 + 2) (h := mI h I) (y := 315) (ip := 343) (a := 0) (b := 0) (c := 0) (by decide +kernel) rfl (zar4 p3)).trans ?_
  refine (Go_ald (h := mI h I) (y := 315) (ip := 344) (a := 0) (b := 0) (c := 0) (by decide +kernel) rfl (p1) rfl p4).trans ?_
  refine (Go_aload (h := mI h I) (y := 315) (ip := 345) (a := 0) (b := 3) (c := 0) (by decide +kernel) rfl).trans ?_
  refine (Go_call2 (h := mI h I) (y := 315) (ip := 346) (a := 293) (z := 282) (c := 1) (as := [.inr (.inl (some 1)), .inl (I 0 (x4 + 1)), .inl (I 0 (x4 + 2)), .inr (.inl (some 139))]) (rest := []) (by decide +kernel) (by decide +kernel) rfl rfl rfl rfl).trans ?_
  rfl

theorem b315_347 {h : HP} {I : Nat → Int → Int} {x4 : Int} {v5 : MV} {v6 : MV} {sx0 : Int} {L : Int} (p0 : -2147483648 ≤ x4 + 1 ∧ x4 + 1 < 2147483648) (p1 : hK h 0 = (6, L)) (p2 : 0 ≤ x4 + 1 ∧ x4 + 1 < L) (p3 : -2147483648 ≤ x4 + 2 ∧ x4 + 2 < 2147483648) (p4 : 0 ≤ x4 + 2 ∧ x4 + 2 < L) (p5 : LX 11 h 94) : Go 315 347 [.inr (.inl (some 0)), .inr (.inl (some 1)), .inr (.inl (some 94)), .inr (.inl (some 139)), .inl x4, v5, v6] [.inl sx0] (mI h I) = caln 315 [.inr (.inl (some 0)), .inr (.inl (some 1)), .inr (.inl (some 94)), .inr (.inl (some 139)), .inl x4, .inl sx0, v6] [] 360 (Go 206 0 [.inr (.inl (some 94)), .inl (I 0 (x4 + 1)), .inl (I 0 (x4 + 2))] [] (mI h I)) := by
  refine (Go_istore (h := mI h I) (y := 315) (ip := 347) (a := 0) (b := 5) (c := 0) (by decide +kernel) rfl).trans ?_
  refine (Go_aload (h := mI h I) (y := 315) (ip := 348) (a := 0) (b := 2) (c := 0) (by decide +kernel) rfl).trans ?_
  refine (Go_aload (h := mI h I) (y := 315) (ip := 349) (a := 0) (b := 0) (c := 0) (by decide +kernel) rfl).trans ?_
  refine (Go_iload (h := mI h I) (y := 315) (ip := 350) (a := 0) (b := 4) (c := 0) (by decide +kernel) rfl).trans ?_
  refine (Go_const (h := mI h I) (y := 315) (ip := 351) (a := 1) (b := 0) (c := 0) (by decide +kernel)).trans ?_
  refine (Go_ar (op := 4) (x := x4 + 1) (h := mI h I) (y := 315) (ip := 352) (a := 0) (b := 0) (c := 0) (by decide +kernel) rfl (zar4 p0)).trans ?_
  refine (Go_ald (h := mI h I) (y := 315) (ip := 353) (a := 0) (b := 0) (c := 0) (by decide +kernel) rfl (p1) rfl p2).trans ?_
  refine (Go_aload (h := mI h I) (y := 315) (ip := 354) (a := 0) (b := 0) (c := 0) (by decide +kernel) rfl).trans ?_
  refine (Go_iload (h := mI h I) (y := 315) (ip := 355) (a := 0) (b := 4) (c := 0) (by decide +kernel) rfl).trans ?_
  refine (Go_const (h := mI h I) (y := 315) (ip := 356) (a := 2) (b := 0) (c := 0) (by decide +kernel)).trans ?_
  refine (Go_ar (op := 4) (x := x4 + 2) (h := mI h I) (y := 315) (ip := 357) (a := 0) (b := 0) (c := 0) (by decide +kernel) rfl (zar4 p3)).trans ?_
  refine (Go_ald (h := mI h I) (y := 315) (ip := 358) (a := 0) (b := 0) (c := 0) (by decide +kernel) rfl (p1) rfl p4).trans ?_
  refine (Go_call2 (h := mI h I) (y := 315) (ip := 359) (a := 294) (z := 206) (c := 0) (as := [.inr (.inl (some 94)), .inl (I 0 (x4 + 1)), .inl (I 0 (x4 + 2))]) (rest := []) (by decide +kernel) (by decide +kernel) rfl rfl (zrecv_v rfl (LX_t p5)) rfl).trans ?_
  rfl

theorem b315_360 {h : HP} {I : Nat → Int → Int} {x4 : Int} {x5 : Int} {v6 : MV} {sx0 : Int} (p0 : LX 11 h 94) : Go 315 360 [.inr (.inl (some 0)), .inr (.inl (some 1)), .inr (.inl (some 94)), .inr (.inl (some 139)), .inl x4, .inl x5, v6] [.inl sx0] (mI h I) = caln 315 [.inr (.inl (some 0)), .inr (.inl (some 1)), .inr (.inl (some 94)), .inr (.inl (some 139)), .inl x4, .inl x5, .inl sx0] [] 363 (Go 162 0 [.inr (.inl (some 94))] [] (mI h I)) := by
  refine (Go_istore (h := mI h I) (y := 315) (ip := 360) (a := 0) (b := 6) (c := 0) (by decide +kernel) rfl).trans ?_
  refine (Go_aload (h := mI h I) (y := 315) (ip := 361) (a := 0) (b := 2) (c := 0) (by decide +kernel) rfl).trans ?_
  refine (Go_call2 (h := mI h I) (y := 315) (ip := 362) (a := 276) (z := 162) (c := 0) (as := [.inr (.inl (some 94))]) (rest := []) (by decide +kernel) (by decide +kernel) rfl rfl (zrecv_v rfl (LX_t p0)) rfl).trans ?_
  rfl

theorem b315_363 {h : HP} {I : Nat → Int → Int} {x4 : Int} {x5 : Int} {x6 : Int} {sx0 : Int} : Go 315 363 [.inr (.inl (some 0)), .inr (.inl (some 1)), .inr (.inl (some 94)), .inr (.inl (some 139)), .inl x4, .inl x5, .inl x6] [.inl sx0] (mI h I) = if sx0 = x5 then Go 315 367 [.inr (.inl (some 0)), .inr (.inl (some 1)), .inr (.inl (some 94)), .inr (.inl (some 139)), .inl x4, .inl x5, .inl x6] [] (mI h I) else Go 315 365 [.inr (.inl (some 0)), .inr (.inl (some 1)), .inr (.inl (some 94)), .inr (.inl (some 139)), .inl x4, .inl x5, .inl x6] [] (mI h I) := by
  refine (Go_iload (h := mI h I) (y := 315) (ip := 363) (a := 0) (b := 5) (c := 0) (by decide +kernel) rfl).trans ?_
  refine (Go_cmpeq (y := 315) (ip := 364) (a := 0) (c := 367) (by decide +kernel)).trans ?_
  rfl

theorem b315_365 {h : HP} {I : Nat → Int → Int} {x4 : Int} {x5 : Int} {x6 : Int} : Go 315 365 [.inr (.inl (some 0)), .inr (.inl (some 1)), .inr (.inl (some 94)), .inr (.inl (some 139)), .inl x4, .inl x5, .inl x6] [] (mI h I) = some (mI h I, .inl (some (.inl 0))) := by
  refine (Go_const (h := mI h I) (y := 315) (ip := 365) (a := 0) (b := 0) (c := 0) (by decide +kernel)).trans ?_
  refine (Go_iret (h := mI h I) (y := 315) (ip := 366) (a := 0) (b := 0) (c := 0) (by decide +kernel) (Or.inr ⟨rfl, by decide⟩)).trans ?_
  rfl

theorem b315_367 {h : HP} {I : Nat → Int → Int} {x4 : Int} {x5 : Int} {x6 : Int} : Go 315 367 [.inr (.inl (some 0)), .inr (.inl (some 1)), .inr (.inl (some 94)), .inr (.inl (some 139)), .inl x4, .inl x5, .inl x6] [] (mI h I) = if x5 ≠ 0 then Go 315 378 [.inr (.inl (some 0)), .inr (.inl (some 1)), .inr (.inl (some 94)), .inr (.inl (some 139)), .inl x4, .inl x5, .inl x6] [] (mI h I) else Go 315 369 [.inr (.inl (some 0)), .inr (.inl (some 1)), .inr (.inl (some 94)), .inr (.inl (some 139)), .inl x4, .inl x5, .inl x6] [] (mI h I) := by
  refine (Go_iload (h := mI h I) (y := 315) (ip := 367) (a := 0) (b := 5) (c := 0) (by decide +kernel) rfl).trans ?_
  refine (Go_ifne (y := 315) (ip := 368) (a := 0) (c := 378) (by decide +kernel)).trans ?_
  rfl

theorem b315_369 {h : HP} {I : Nat → Int → Int} {x4 : Int} {x5 : Int} {x6 : Int} (p0 : hK h 139 = (2, 1)) : Go 315 369 [.inr (.inl (some 0)), .inr (.inl (some 1)), .inr (.inl (some 94)), .inr (.inl (some 139)), .inl x4, .inl x5, .inl x6] [] (mI h I) = if (if I 139 0 < x6 then -1 else if I 139 0 = x6 then 0 else 1 : Int) = 0 then Go 315 378 [.inr (.inl (some 0)), .inr (.inl (some 1)), .inr (.inl (some 94)), .inr (.inl (some 139)), .inl x4, .inl x5, .inl x6] [] (mI h I) else Go 315 376 [.inr (.inl (some 0)), .inr (.inl (some 1)), .inr (.inl (some 94)), .inr (.inl (some 139)), .inl x4, .inl x5, .inl x6] [] (mI h I) := by
  refine (Go_aload (h := mI h I) (y := 315) (ip := 369) (a := 0) (b := 3) (c := 0) (by decide +kernel) rfl).trans ?_
  refine (Go_const (h := mI h I) (y := 315) (ip := 370) (a := 0) (b := 0) (c := 0) (by decide +kernel)).trans ?_
  refine (Go_ldl (h := mI h I) (y := 315) (ip := 371) (a := 0) (c := 0) (by decide +kernel) (p0) (by decide)).trans ?_
  refine (Go_iload (h := mI h I) (y := 315) (ip := 372) (a := 0) (b := 6) (c := 0) (by decide +kernel) rfl).trans ?_
  refine (Go_i2l (h := mI h I) (y := 315) (ip := 373) (a := 0) (b := 0) (c := 0) (by decide +kernel)).trans ?_
  refine (Go_lcmp (h := mI h I) (y := 315) (ip := 374) (a := 0) (b := 0) (c := 0) (by decide +kernel)).trans ?_
  refine (Go_ifeq (y := 315) (ip := 375) (a := 0) (c := 378) (by decide +kernel)).trans ?_
  rfl

theorem b315_376 {h : HP} {I : Nat → Int → Int} {x4 : Int} {x5 : Int} {x6 : Int} : Go 315 376 [.inr (.inl (some 0)), .inr (.inl (some 1)), .inr (.inl (some 94)), .inr (.inl (some 139)), .inl x4, .inl x5, .inl x6] [] (mI h I) = some (mI h I, .inl (some (.inl 0))) := by
  refine (Go_const (h := mI h I) (y := 315) (ip := 376) (a := 0) (b := 0) (c := 0) (by decide +kernel)).trans ?_
  refine (Go_iret (h := mI h I) (y := 315) (ip := 377) (a := 0) (b := 0) (c := 0) (by decide +kernel) (Or.inr ⟨rfl, by decide⟩)).trans ?_
  rfl

theorem b315_378 {h : HP} {I : Nat → Int → Int} {x4 : Int} {x5 : Int} {x6 : Int} : Go 315 378 [.inr (.inl (some 0)), .inr (.inl (some 1)), .inr (.inl (some 94)), .inr (.inl (some 139)), .inl x4, .inl x5, .inl x6] [] (mI h I) = Go 315 1826 [.inr (.inl (some 0)), .inr (.inl (some 1)), .inr (.inl (some 94)), .inr (.inl (some 139)), .inl x4, .inl x5, .inl x6] [] (mI h I) := by
  refine (Go_goto (h := mI h I) (y := 315) (ip := 378) (a := 0) (b := 0) (c := 1826) (by decide +kernel)).trans ?_
  rfl

theorem b315_379 {h : HP} {I : Nat → Int → Int} {x4 : Int} {v5 : MV} {v6 : MV} {L : Int} (p0 : -2147483648 ≤ x4 + 1 ∧ x4 + 1 < 2147483648) (p1 : hK h 0 = (6, L)) (p2 : 0 ≤ x4 + 1 ∧ x4 + 1 < L) (p3 : -2147483648 ≤ x4 + 2 ∧ x4 + 2 < 2147483648) (p4 : 0 ≤ x4 + 2 ∧ x4 + 2 < L) (p5 : -2147483648 ≤ x4 + 3 ∧ x4 + 3 < 2147483648) (p6 : 0 ≤ x4 + 3 ∧ x4 + 3 < L) : Go 315 379 [.inr (.inl (some 0)), .inr (.inl (some 1)), .inr (.inl (some 94)), .inr (.inl (some 139)), .inl x4, v5, v6] [] (mI h I) = caln 315 [.inr (.inl (some 0)), .inr (.inl (some 1)), .inr (.inl (some 94)), .inr (.inl (some 139)), .inl x4, v5, v6] [] 397 (Go 283 0 [.inr (.inl (some 1)), .inl (I 0 (x4 + 1)), .inl (I 0 (x4 + 2)), .inl (I 0 (x4 + 3)), .inr (.inl (some 139)), vU] [] (mI h I)) := by
  refine (Go_aload (h := mI h I) (y := 315) (ip := 379) (a := 0) (b := 1) (c := 0) (by decide +kernel) rfl).trans ?_
  refine (Go_aload (h := mI h I) (y := 315) (ip := 380) (a := 0) (b := 0) (c := 0) (by decide +kernel) rfl).trans ?_
  refine (Go_iload (h := mI h I) (y := 315) (ip := 381) (a := 0) (b := 4) (c := 0) (by decide +kernel) rfl).trans ?_
  refine (Go_const (h := mI h I) (y := 315) (ip := 382) (a := 1) (b := 0) (c := 0) (by decide +kernel)).trans ?_
  refine (Go_ar (op := 4) (x := x4 + 1) (h := mI h I) (y := 315) (ip := 383) (a := 0) (b := 0) (c := 0) (by decide +kernel) rfl (zar4 p0)).trans ?_
  refine (Go_ald (h := mI h I) (y := 315) (ip := 384) (a := 0) (b := 0) (c := 0) (by decide +kernel) rfl (p1) rfl p2).trans ?_
  refine (Go_aload (h := mI h I) (y := 315) (ip := 385) (a := 0) (b := 0) (c := 0) (by decide +kernel) rfl).trans ?_
  refine (Go_iload (h := mI h I) (y := 315) (ip := 386) (a := 0) (b := 4) (c := 0) (by decide +kernel) rfl).trans ?_
  refine (Go_const (h := mI h I) (y := 315) (ip := 387) (a := 2) (b := 0) (c := 0) (by decide +kernel)).trans ?_
  refine (Go_ar (op := 4) (x := x4 + 2) (h := mI h I) (y := 315) (ip := 388) (a := 0) (b := 0) (c := 0) (by decide +kernel) rfl (zar4 p3)).trans ?_
  refine (Go_ald (h := mI h I) (y := 315) (ip := 389) (a := 0) (b := 0) (c := 0) (by decide +kernel) rfl (p1) rfl p4).trans ?_
  refine (Go_aload (h := mI h I) (y := 315) (ip := 390) (a := 0) (b := 0) (c := 0) (by decide +kernel) rfl).trans ?_
  refine (Go_iload (h := mI h I) (y := 315) (ip := 391) (a := 0) (b := 4) (c := 0) (by decide +kernel) rfl).trans ?_
  refine (Go_const (h := mI h I) (y := 315) (ip := 392) (a := 3) (b := 0) (c := 0) (by decide +kernel)).trans ?_
  refine (Go_ar (op := 4) (x := x4 + 3) (h := mI h I) (y := 315) (ip := 393) (a := 0) (b := 0) (c := 0) (by decide +kernel) rfl (zar4 p5)).trans ?_
  refine (Go_ald (h := mI h I) (y := 315) (ip := 394) (a := 0) (b := 0) (c := 0) (by decide +kernel) rfl (p1) rfl p6).trans ?_
  refine (Go_aload (h := mI h I) (y := 315) (ip := 395) (a := 0) (b := 3) (c := 0) (by decide +kernel) rfl).trans ?_
  refine (Go_call2 (h := mI h I) (y := 315) (ip := 396) (a := 295) (z := 283) (c := 1) (as := [.inr (.inl (some 1)), .inl (I 0 (x4 + 1)), .inl (I 0 (x4 + 2)), .inl (I 0 (x4 + 3)), .inr (.inl (some 139))]) (rest := []) (by decide +kernel) (by decide +kernel) rfl rfl rfl rfl).trans ?_
  rfl

theorem b315_397 {h : HP} {I : Nat → Int → Int} {x4 : Int} {v5 : MV} {v6 : MV} {sx0 : Int} {L : Int} (p0 : -2147483648 ≤ x4 + 1 ∧ x4 + 1 < 2147483648) (p1 : hK h 0 = (6, L)) (p2 : 0 ≤ x4 + 1 ∧ x4 + 1 < L) (p3 : -2147483648 ≤ x4 + 2 ∧ x4 + 2 < 2147483648) (p4 : 0 ≤ x4 + 2 ∧ x4 + 2 < L) (p5 : -2147483648 ≤ x4 + 3 ∧ x4 + 3 < 2147483648) (p6 : 0 ≤ x4 + 3 ∧ x4 + 3 < L) (p7 : LX 11 h 94) : Go 315 397 [.inr (.inl (some 0)), .inr (.inl (some 1)), .inr (.inl (some 94)), .inr (.inl (some 139)), .inl x4, v5, v6] [.inl sx0] (mI h I) = caln 315 [.inr (.inl (some 0)), .inr (.inl (some 1)), .inr (.inl (some 94)), .inr (.inl (some 139)), .inl x4, .inl sx0, v6] [] 415 (Go 207 0 [.inr (.inl (some 94)), .inl (I 0 (x4 + 1)), .inl (I 0 (x4 + 2)), .inl (I 0 (x4 + 3)), vU, vU] [] (mI h I)) := by
  refine (Go_istore (h := mI h I) (y := 315) (ip := 397) (a := 0) (b := 5) (c := 0) (by decide +kernel) rfl).trans ?_
  refine (Go_aload (h := mI h I) (y := 315) (ip := 398) (a := 0) (b := 2) (c := 0) (by decide +kernel) rfl).trans ?_
  refine (Go_aload (h := mI h I) (y := 315) (ip := 399) (a := 0) (b := 0) (c := 0) (by decide +kernel) rfl).trans ?_
  refine (Go_iload (h := mI h I) (y := 315) (ip := 400) (a := 0) (b := 4) (c := 0) (by decide +kernel) rfl).trans ?_
  refine (Go_const (h := mI h I) (y := 315) (ip := 401) (a := 1) (b := 0) (c := 0) (by decide +kernel)).trans ?_
  refine (Go_ar (op := 4) (x := x4 + 1) (h := mI h I) (y := 315) (ip := 402) (a := 0) (b := 0) (c := 0) (by decide +kernel) rfl (zar4 p0)).trans ?_
  refine (Go_ald (h := mI h I) (y := 315) (ip := 403) (a := 0) (b := 0) (c := 0) (by decide +kernel) rfl (p1) rfl p2).trans ?_
  refine (Go_aload (h := mI h I) (y := 315) (ip := 404) (a := 0) (b := 0) (c := 0) (by decide +kernel) rfl).trans ?_
  refine (Go_iload (h := mI h I) (y := 315) (ip := 405) (a := 0) (b := 4) (c := 0) (by decide +kernel) rfl).trans ?_
  refine (Go_const (h := mI h I) (y := 315) (ip := 406) (a := 2) (b := 0) (c := 0) (by decide +kernel)).trans ?_
  refine (Go_ar (op := 4) (x := x4 + 2) (h := mI h I) (y := 315) (ip := 407) (a := 0) (b := 0) (c := 0) (by decide +kernel) rfl (zar4 p3)).trans ?_
  refine (Go_ald (h := mI h I) (y := 315) (ip := 408) (a := 0) (b := 0) (c := 0) (by decide +kernel) rfl (p1) rfl p4).trans ?_
  refine (Go_aload (h := mI h I) (y := 315) (ip := 409) (a := 0) (b := 0) (c := 0) (by decide +kernel) rfl).trans ?_
  refine (Go_iload (h := mI h I) (y := 315) (ip := 410) (a := 0) (b := 4) (c := 0) (by decide +kernel) rfl).trans ?_
  refine (Go_const (h := mI h I) (y := 315) (ip := 411) (a := 3) (b := 0) (c := 0) (by decide +kernel)).trans ?_
  refine (Go_ar (op := 4) (x := x4 + 3) (h := mI h I) (y := 315) (ip := 412) (a := 0) (b := 0) (c := 0) (by decide +kernel) rfl (zar4 p5)).trans ?_
  refine (Go_ald (h := mI h I) (y := 315) (ip := 413) (a := 0) (b := 0) (c := 0) (by decide +kernel) rfl (p1) rfl p6).trans ?_
  refine (Go_call2 (h := mI h I) (y := 315) (ip := 414) (a := 296) (z := 207) (c := 0) (as := [.inr (.inl (some 94)), .inl (I 0 (x4 + 1)), .inl (I 0 (x4 + 2)), .inl (I 0 (x4 + 3))]) (rest := []) (by decide +kernel) (by decide +kernel) rfl rfl (zrecv_v rfl (LX_t p7)) rfl).trans ?_
  rfl

theorem b315_415 {h : HP} {I : Nat → Int → Int} {x4 : Int} {x5 : Int} {v6 : MV} {sx0 : Int} (p0 : LX 11 h 94) : Go 315 415 [.inr (.inl (some 0)), .inr (.inl (some 1)), .inr (.inl (some 94)), .inr (.inl (some 139)), .inl x4, .inl x5, v6] [.inl sx0] (mI h I) = caln 315 [.inr (.inl (some 0)), .inr (.inl (some 1)), .inr (.inl (some 94)), .inr (.inl (some 139)), .inl x4, .inl x5, .inl sx0] [] 418 (Go 162 0 [.inr (.inl (some 94))] [] (mI h I)) := by
  refine (Go_istore (h := mI h I) (y := 315) (ip := 415) (a := 0) (b := 6) (c := 0) (by decide +kernel) rfl).trans ?_
  refine (Go_aload (h := mI h I) (y := 315) (ip := 416) (a := 0) (b := 2) (c := 0) (by decide +kernel) rfl).trans ?_
  refine (Go_call2 (h := mI h I) (y := 315) (ip := 417) (a := 276) (z := 162) (c := 0) (as := [.inr (.inl (some 94))]) (rest := []) (by decide +kernel) (by decide +kernel) rfl rfl (zrecv_v rfl (LX_t p0)) rfl).trans ?_
  rfl

theorem b315_418 {h : HP} {I : Nat → Int → Int} {x4 : Int} {x5 : Int} {x6 : Int} {sx0 : Int} : Go 315 418 [.inr (.inl (some 0)), .inr (.inl (some 1)), .inr (.inl (some 94)), .inr (.inl (some 139)), .inl x4, .inl x5, .inl x6] [.inl sx0] (mI h I) = if sx0 = x5 then Go 315 422 [.inr (.inl (some 0)), .inr (.inl (some 1)), .inr (.inl (some 94)), .inr (.inl (some 139)), .inl x4, .inl x5, .inl x6] [] (mI h I) else Go 315 420 [.inr (.inl (some 0)), .inr (.inl (some 1)), .inr (.inl (some 94)), .inr (.inl (some 139)), .inl x4, .inl x5, .inl x6] [] (mI h I) := by
  refine (Go_iload (h := mI h I) (y := 315) (ip := 418) (a := 0) (b := 5) (c := 0) (by decide +kernel) rfl).trans ?_
  refine (Go_cmpeq (y := 315) (ip := 419) (a := 0) (c := 422) (by decide +kernel)).trans ?_
  rfl

theorem b315_420 {h : HP} {I : Nat → Int → Int} {x4 : Int} {x5 : Int} {x6 : Int} : Go 315 420 [.inr (.inl (some 0)), .inr (.inl (some 1)), .inr (.inl (some 94)), .inr (.inl (some 139)), .inl x4, .inl x5, .inl x6] [] (mI h I) = some (mI h I, .inl (some (.inl 0))) := by
  refine (Go_const (h := mI h I) (y := 315) (ip := 420) (a := 0) (b := 0) (c := 0) (by decide +kernel)).trans ?_
  refine (Go_iret (h := mI h I) (y := 315) (ip := 421) (a := 0) (b := 0) (c := 0) (by decide +kernel) (Or.inr ⟨rfl, by decide⟩)).trans ?_
  rfl

theorem b315_422 {h : HP} {I : Nat → Int → Int} {x4 : Int} {x5 : Int} {x6 : Int} : Go 315 422 [.inr (.inl (some 0)), .inr (.inl (some 1)), .inr (.inl (some 94)), .inr (.inl (some 139)), .inl x4, .inl x5, .inl x6] [] (mI h I) = if x5 ≠ 0 then Go 315 433 [.inr (.inl (some 0)), .inr (.inl (some 1)), .inr (.inl (some 94)), .inr (.inl (some 139)), .inl x4, .inl x5, .inl x6] [] (mI h I) else Go 315 424 [.inr (.inl (some 0)), .inr (.inl (some 1)), .inr (.inl (some 94)), .inr (.inl (some 139)), .inl x4, .inl x5, .inl x6] [] (mI h I) := by
  refine (Go_iload (h := mI h I) (y := 315) (ip := 422) (a := 0) (b := 5) (c := 0) (by decide +kernel) rfl).trans ?_
  refine (Go_ifne (y := 315) (ip := 423) (a := 0) (c := 433) (by decide +kernel)).trans ?_
  rfl

theorem b315_424 {h : HP} {I : Nat → Int → Int} {x4 : Int} {x5 : Int} {x6 : Int} (p0 : hK h 139 = (2, 1)) : Go 315 424 [.inr (.inl (some 0)), .inr (.inl (some 1)), .inr (.inl (some 94)), .inr (.inl (some 139)), .inl x4, .inl x5, .inl x6] [] (mI h I) = if (if I 139 0 < x6 then -1 else if I 139 0 = x6 then 0 else 1 : Int) = 0 then Go 315 433 [.inr (.inl (some 0)), .inr (.inl (some 1)), .inr (.inl (some 94)), .inr (.inl (some 139)), .inl x4, .inl x5, .inl x6] [] (mI h I) else Go 315 431 [.inr (.inl (some 0)), .inr (.inl (some 1)), .inr (.inl (some 94)), .inr (.inl (some 139)), .inl x4, .inl x5, .inl x6] [] (mI h I) := by
  refine (Go_aload (h := mI h I) (y := 315) (ip := 424) (a := 0) (b := 3) (c := 0) (by decide +kernel) rfl).trans ?_
  refine (Go_const (h := mI h I) (y := 315) (ip := 425) (a := 0) (b := 0) (c := 0) (by decide +kernel)).trans ?_
  refine (Go_ldl (h := mI h I) (y := 315) (ip := 426) (a := 0) (c := 0) (by decide +kernel) (p0) (by decide)).trans ?_
  refine (Go_iload (h := mI h I) (y := 315) (ip := 427) (a := 0) (b := 6) (c := 0) (by decide +kernel) rfl).trans ?_
  refine (Go_i2l (h := mI h I) (y := 315) (ip := 428) (a := 0) (b := 0) (c := 0) (by decide +kernel)).trans ?_
  refine (Go_lcmp (h := mI h I) (y := 315) (ip := 429) (a := 0) (b := 0) (c := 0) (by decide +kernel)).trans ?_
  refine (Go_ifeq (y := 315) (ip := 430) (a := 0) (c := 433) (by decide +kernel)).trans ?_
  rfl

theorem b315_431 {h : HP} {I : Nat → Int → Int} {x4 : Int} {x5 : Int} {x6 : Int} : Go 315 431 [.inr (.inl (some 0)), .inr (.inl (some 1)), .inr (.inl (some 94)), .inr (.inl (some 139)), .inl x4, .inl x5, .inl x6] [] (mI h I) = some (mI h I, .inl (some (.inl 0))) := by
  refine (Go_const (h := mI h I) (y := 315) (ip := 431) (a := 0) (b := 0) (c := 0) (by decide +kernel)).trans ?_
  refine (Go_iret (h := mI h I) (y := 315) (ip := 432) (a := 0) (b := 0) (c := 0) (by decide +kernel) (Or.inr ⟨rfl, by decide⟩)).trans ?_
  rfl

theorem b315_433 {h : HP} {I : Nat → Int → Int} {x4 : Int} {x5 : Int} {x6 : Int} : Go 315 433 [.inr (.inl (some 0)), .inr (.inl (some 1)), .inr (.inl (some 94)), .inr (.inl (some 139)), .inl x4, .inl x5, .inl x6] [] (mI h I) = Go 315 1826 [.inr (.inl (some 0)), .inr (.inl (some 1)), .inr (.inl (some 94)), .inr (.inl (some 139)), .inl x4, .inl x5, .inl x6] [] (mI h I) := by
  refine (Go_goto (h := mI h I) (y := 315) (ip := 433) (a := 0) (b := 0) (c := 1826) (by decide +kernel)).trans ?_
  rfl

theorem b315_434 {h : HP} {I : Nat → Int → Int} {x4 : Int} {v5 : MV} {v6 : MV} {L : Int} (p0 : -2147483648 ≤ x4 + 1 ∧ x4 + 1 < 2147483648) (p1 : hK h 0 = (6, L)) (p2 : 0 ≤ x4 + 1 ∧ x4 + 1 < L) (p3 : -2147483648 ≤ x4 + 2 ∧ x4 + 2 < 2147483648) (p4 : 0 ≤ x4 + 2 ∧ x4 + 2 < L) : Go 315 434 [.inr (.inl (some 0)), .inr (.inl (some 1)), .inr (.inl (some 94)), .inr (.inl (some 139)), .inl x4, v5, v6] [] (mI h I) = caln 315 [.inr (.inl (some 0)), .inr (.inl (some 1)), .inr (.inl (some 94)), .inr (.inl (some 139)), .inl x4, v5, v6] [] 447 (Go 284 0 [.inr (.inl (some 1)), .inl (I 0 (x4 + 1)), .inl (I 0 (x4 + 2)), .inr (.inl (some 139)), vU] [] (mI h I)) := by
  refine (Go_aload (h := mI h I) (y := 315) (ip := 434) (a := 0) (b := 1) (c := 0) (by decide +kernel) rfl).trans ?_
  refine (Go_aload (h := mI h I) (y := 315) (ip := 435) (a := 0) (b := 0) (c := 0) (by decide +kernel) rfl).trans ?_
  refine (Go_iload (h := mI h I) (y := 315) (ip := 436) (a := 0) (b := 4) (c := 0) (by decide +kernel) rfl).trans ?_
  refine (Go_const (h := mI h I) (y := 315) (ip := 437) (a := 1) (b := 0) (c := 0) (by decide +kernel)).trans ?_
  refine (Go_ar (op := 4) (x := x4 + 1) (h := mI h I) (y := 315) (ip := 438) (a := 0) (b := 0) (c := 0) (by decide +kernel) rfl (zar4 p0)).trans ?_
  refine (Go_ald (h := mI h I) (y := 315) (ip := 439) (a := 0) (b := 0) (c := 0) (by decide +kernel) rfl (p1) rfl p2).trans ?_
  refine (Go_aload (h := mI h I) (y := 315) (ip := 440) (a := 0) (b := 0) (c := 0) (by decide +kernel) rfl).trans ?_
  refine (Go_iload (h := mI h I) (y := 315) (ip := 441) (a := 0) (b := 4) (c := 0) (by decide +kernel) rfl).trans ?_
  refine (Go_const (h := mI h I) (y := 315) (ip := 442) (a := 2) (b := 0) (c := 0) (by decide +kernel)).trans ?_
  refine (Go_ar (op := 4) (x := x4 + 2) (h := mI h I) (y := 315) (ip := 443) (a := 0) (b := 0) (c := 0) (by decide +kernel) rfl (zar4 p3)).trans ?_
  refine (Go_ald (h := mI h I) (y := 315) (ip := 444) (a := 0) (b := 0) (c := 0) (by decide +kernel) rfl (p1) rfl p4).trans ?_
  refine (Go_aload (h := mI h I) (y := 315) (ip := 445) (a := 0) (b := 3) (c := 0) (by decide +kernel) rfl).trans ?_
  refine (Go_call2 (h := mI h I) (y := 315) (ip := 446) (a := 297) (z := 284) (c := 1) (as := [.inr (.inl (some 1)), .inl (I 0 (x4 + 1)), .inl (I 0 (x4 + 2)), .inr (.inl (some 139))]) (rest := []) (by decide +kernel) (by decide +kernel) rfl rfl rfl rfl).trans ?_
  rfl

theorem b315_447 {h : HP} {I : Nat → Int → Int} {x4 : Int} {v5 : MV} {v6 : MV} {sx0 : Int} {L : Int} (p0 : -2147483648 ≤ x4 + 1 ∧ x4 + 1 < 2147483648) (p1 : hK h 0 = (6, L)) (p2 : 0 ≤ x4 + 1 ∧ x4 + 1 < L) (p3 : -2147483648 ≤ x4 + 2 ∧ x4 + 2 < 2147483648) (p4 : 0 ≤ x4 + 2 ∧ x4 + 2 < L) (p5 : LX 11 h 94) : Go 315 447 [.inr (.inl (some 0)), .inr (.inl (some 1)), .inr (.inl (some 94)), .inr (.inl (some 139)), .inl x4, v5, v6] [.inl sx0] (mI h I) = caln 315 [.inr (.inl (some 0)), .inr (.inl (some 1)), .inr (.inl (some 94)), .inr (.inl (some 139)), .inl x4, .inl sx0, v6] [] 460 (Go 209 0 [.inr (.inl (some 94)), .inl (I 0 (x4 + 1)), .inl (I 0 (x4 + 2)), vU, vU] [] (mI h I)) := by
  refine (Go_istore (h := mI h I) (y := 315) (ip := 447) (a := 0) (b := 5) (c := 0) (by decide +kernel) rfl).trans ?_
  refine (Go_aload (h := mI h I) (y := 315) (ip := 448) (a := 0) (b := 2) (c := 0) (by decide +kernel) rfl).trans ?_
  refine (Go_aload (h := mI h I) (y := 315) (ip := 449) (a := 0) (b := 0) (c := 0) (by decide +kernel) rfl).trans ?_
  refine (Go_iload (h := mI h I) (y := 315) (ip := 450) (a := 0) (b := 4) (c := 0) (by decide +kernel) rfl).trans ?_
  refine (Go_const (h := mI h I) (y := 315) (ip := 451) (a := 1) (b := 0) (c := 0) (by decide +kernel)).trans ?_
  refine (Go_ar (op := 4) (x := x4 + 1) (h := mI h I) (y := 315) (ip := 452) (a := 0) (b := 0) (c := 0) (by decide +kernel) rfl (zar4 p0)).trans ?_
  refine (Go_ald (h := mI h I) (y := 315) (ip := 453) (a := 0) (b := 0) (c := 0) (by decide +kernel) rfl (p1) rfl p2).trans ?_
  refine (Go_aload (h := mI h I) (y := 315) (ip := 454) (a := 0) (b := 0) (c := 0) (by decide +kernel) rfl).trans ?_
  refine (Go_iload (h := mI h I) (y := 315) (ip := 455) (a := 0) (b := 4) (c := 0) (by decide +kernel) rfl).trans ?_
  refine (Go_const (h := mI h I) (y := 315) (ip := 456) (a := 2) (b := 0) (c := 0) (by decide +kernel)).trans ?_
  refine (Go_ar (op := 4) (x := x4 + 2) (h := mI h I) (y := 315) (ip := 457) (a := 0) (b := 0) (c := 0) (by decide +kernel) rfl (zar4 p3)).trans ?_
  refine (Go_ald (h := mI h I) (y := 315) (ip := 458) (a := 0) (b := 0) (c := 0) (by decide +kernel) rfl (p1) rfl p4).trans ?_
  refine (Go_call2 (h := mI h I) (y := 315) (ip := 459) (a := 298) (z := 209) (c := 0) (as := [.inr (.inl (some 94)), .inl (I 0 (x4 + 1)), .inl (I 0 (x4 + 2))]) (rest := []) (by decide +kernel) (by decide +kernel) rfl rfl (zrecv_v rfl (LX_t p5)) rfl).trans ?_
  rfl

theorem b315_460 {h : HP} {I : Nat → Int → Int} {x4 : Int} {x5 : Int} {v6 : MV} {sx0 : Int} (p0 : LX 11 h 94) : Go 315 460 [.inr (.inl (some 0)), .inr (.inl (some 1)), .inr (.inl (some 94)), .inr (.inl (some 139)), .inl x4, .inl x5, v6] [.inl sx0] (mI h I) = caln 315 [.inr (.inl (some 0)), .inr (.inl (some 1)), .inr (.inl (some 94)), .inr (.inl (some 139)), .inl x4, .inl x5, .inl sx0] [] 463 (Go 162 0 [.inr (.inl (some 94))] [] (mI h I)) := by
  refine (Go_istore (h := mI h I) (y := 315) (ip := 460) (a := 0) (b := 6) (c := 0) (by decide +kernel) rfl).trans ?_
  refine (Go_aload (h := mI h I) (y := 315) (ip := 461) (a := 0) (b := 2) (c := 0) (by decide +kernel) rfl).trans ?_
  refine (Go_call2 (h := mI h I) (y := 315) (ip := 462) (a := 276) (z := 162) (c := 0) (as := [.inr (.inl (some 94))]) (rest := []) (by decide +kernel) (by decide +kernel) rfl rfl (zrecv_v rfl (LX_t p0)) rfl).trans ?_
  rfl

theorem b315_463 {h : HP} {I : Nat → Int → Int} {x4 : Int} {x5 : Int} {x6 : Int} {sx0 : Int} : Go 315 463 [.inr (.inl (some 0)), .inr (.inl (some 1)), .inr (.inl (some 94)), .inr (.inl (some 139)), .inl x4, .inl x5, .inl x6] [.inl sx0] (mI h I) = if sx0 = x5 then Go 315 467 [.inr (.inl (some 0)), .inr (.inl (some 1)), .inr (.inl (some 94)), .inr (.inl (some 139)), .inl x4, .inl x5, .inl x6] [] (mI h I) else Go 315 465 [.inr (.inl (some 0)), .inr (.inl (some 1)), .inr (.inl (some 94)), .inr (.inl (some 139)), .inl x4, .inl x5, .inl x6] [] (mI h I) := by
  refine (Go_iload (h := mI h I) (y := 315) (ip := 463) (a := 0) (b := 5) (c := 0) (by decide +kernel) rfl).trans ?_
  refine (Go_cmpeq (y := 315) (ip := 464) (a := 0) (c := 467) (by decide +kernel)).trans ?_
  rfl

theorem b315_465 {h : HP} {I : Nat → Int → Int} {x4 : Int} {x5 : Int} {x6 : Int} : Go 315 465 [.inr (.inl (some 0)), .inr (.inl (some 1)), .inr (.inl (some 94)), .inr (.inl (some 139)), .inl x4, .inl x5, .inl x6] [] (mI h I) = some (mI h I, .inl (some (.inl 0))) := by
  refine (Go_const (h := mI h I) (y := 315) (ip := 465) (a := 0) (b := 0) (c := 0) (by decide +kernel)).trans ?_
  refine (Go_iret (h := mI h I) (y := 315) (ip := 466) (a := 0) (b := 0) (c := 0) (by decide +kernel) (Or.inr ⟨rfl, by decide⟩)).trans ?_
  rfl

theorem b315_467 {h : HP} {I : Nat → Int → Int} {x4 : Int} {x5 : Int} {x6 : Int} : Go 315 467 [.inr (.inl (some 0)), .inr (.inl (some 1)), .inr (.inl (some 94)), .inr (.inl (some 139)), .inl x4, .inl x5, .inl x6] [] (mI h I) = if x5 ≠ 0 then Go 315 478 [.inr (.inl (some 0)), .inr (.inl (some 1)), .inr (.inl (some 94)), .inr (.inl (some 139)), .inl x4, .inl x5, .inl x6] [] (mI h I) else Go 315 469 [.inr (.inl (some 0)), .inr (.inl (some 1)), .inr (.inl (some 94)), .inr (.inl (some 139)), .inl x4, .inl x5, .inl x6] [] (mI h I) := by
  refine (Go_iload (h := mI h I) (y := 315) (ip := 467) (a := 0) (b := 5) (c := 0) (by decide +kernel) rfl).trans ?_
  refine (Go_ifne (y := 315) (ip := 468) (a := 0) (c := 478) (by decide +kernel)).trans ?_
  rfl

theorem b315_469 {h : HP} {I : Nat → Int → Int} {x4 : Int} {x5 : Int} {x6 : Int} (p0 : hK h 139 = (2, 1)) : Go 315 469 [.inr (.inl (some 0)), .inr (.inl (some 1)), .inr (.inl (some 94)), .inr (.inl (some 139)), .inl x4, .inl x5, .inl x6] [] (mI h I) = if (if I 139 0 < x6 then -1 else if I 139 0 = x6 then 0 else 1 : Int) = 0 then Go 315 478 [.inr (.inl (some 0)), .inr (.inl (some 1)), .inr (.inl (some 94)), .inr (.inl (some 139)), .inl x4, .inl x5, .inl x6] [] (mI h I) else Go 315 476 [.inr (.inl (some 0)), .inr (.inl (some 1)), .inr (.inl (some 94)), .inr (.inl (some 139)), .inl x4, .inl x5, .inl x6] [] (mI h I) := by
  refine (Go_aload (h := mI h I) (y := 315) (ip := 469) (a := 0) (b := 3) (c := 0) (by decide +kernel) rfl).trans ?_
  refine (Go_const (h := mI h I) (y := 315) (ip := 470) (a := 0) (b := 0) (c := 0) (by decide +kernel)).trans ?_
  refine (Go_ldl (h := mI h I) (y := 315) (ip := 471) (a := 0) (c := 0) (by decide +kernel) (p0) (by decide)).trans ?_
  refine (Go_iload (h := mI h I) (y := 315) (ip := 472) (a := 0) (b := 6) (c := 0) (by decide +kernel) rfl).trans ?_
  refine (Go_i2l (h := mI h I) (y := 315) (ip := 473) (a := 0) (b := 0) (c := 0) (by decide +kernel)).trans ?_
  refine (Go_lcmp (h := mI h I) (y := 315) (ip := 474) (a := 0) (b := 0) (c := 0) (by decide +kernel)).trans ?_
  refine (Go_ifeq (y := 315) (ip := 475) (a := 0) (c := 478) (by decide +kernel)).trans ?_
  rfl

theorem b315_476 {h : HP} {I : Nat → Int → Int} {x4 : Int} {x5 : Int} {x6 : Int} : Go 315 476 [.inr (.inl (some 0)), .inr (.inl (some 1)), .inr (.inl (some 94)), .inr (.inl (some 139)), .inl x4, .inl x5, .inl x6] [] (mI h I) = some (mI h I, .inl (some (.inl 0))) := by
  refine (Go_const (h := mI h I) (y := 315) (ip := 476) (a := 0) (b := 0) (c := 0) (by decide +kernel)).trans ?_
  refine (Go_iret (h := mI h I) (y := 315) (ip := 477) (a := 0) (b := 0) (c := 0) (by decide +kernel) (Or.inr ⟨rfl, by decide⟩)).trans ?_
  rfl

theorem b315_478 {h : HP} {I : Nat → Int → Int} {x4 : Int} {x5 : Int} {x6 : Int} : Go 315 478 [.inr (.inl (some 0)), .inr (.inl (some 1)), .inr (.inl (some 94)), .inr (.inl (some 139)), .inl x4, .inl x5, .inl x6] [] (mI h I) = Go 315 1826 [.inr (.inl (some 0)), .inr (.inl (some 1)), .inr (.inl (some 94)), .inr (.inl (some 139)), .inl x4, .inl x5, .inl x6] [] (mI h I) := by
  refine (Go_goto (h := mI h I) (y := 315) (ip := 478) (a := 0) (b := 0) (c := 1826) (by decide +kernel)).trans ?_
  rfl

theorem b315_479 {h : HP} {I : Nat → Int → Int} {x4 : Int} {v5 : MV} {v6 : MV} {L : Int} (p0 : -2147483648 ≤ x4 + 1 ∧ x4 + 1 < 2147483648) (p1 : hK h 0 = (6, L)) (p2 : 0 ≤ x4 + 1 ∧ x4 + 1 < L) : Go 315 479 [.inr (.inl (some 0)), .inr (.inl (some 1)), .inr (.inl (some 94)), .inr (.inl (some 139)), .inl x4, v5, v6] [] (mI h I) = caln 315 [.inr (.inl (some 0)), .inr (.inl (some 1)), .inr (.inl (some 94)), .inr (.inl (some 139)), .inl x4, v5, v6] [] 487 (Go 285 0 [.inr (.inl (some 1)), .inl (I 0 (x4 + 1)), .inr (.inl (some 139)), vU] [] (mI h I)) := by
  refine (Go_aload (h := mI h I) (y := 315) (ip := 479) (a := 0) (b := 1) (c := 0) (by decide +kernel) rfl).trans ?_
  refine (Go_aload (h := mI h I) (y := 315) (ip := 480) (a := 0) (b := 0) (c := 0) (by decide +kernel) rfl).trans ?_
  refine (Go_iload (h := mI h I) (y := 315) (ip := 481) (a := 0) (b := 4) (c := 0) (by decide +kernel) rfl).trans ?_
  refine (Go_const (h := mI h I) (y := 315) (ip := 482) (a := 1) (b := 0) (c := 0) (by decide +kernel)).trans ?_
  refine (Go_ar (op := 4) (x := x4 + 1) (h := mI h I) (y := 315) (ip := 483) (a := 0) (b := 0) (c := 0) (by decide +kernel) rfl (zar4 p0)).trans ?_
  refine (Go_ald (h := mI h I) (y := 315) (ip := 484) (a := 0) (b := 0) (c := 0) (by decide +kernel) rfl (p1) rfl p2).trans ?_
  refine (Go_aload (h := mI h I) (y := 315) (ip := 485) (a := 0) (b := 3) (c := 0) (by decide +kernel) rfl).trans ?_
  refine (Go_call2 (h := mI h I) (y := 315) (ip := 486) (a := 299) (z := 285) (c := 1) (as := [.inr (.inl (some 1)), .inl (I 0 (x4 + 1)), .inr (.inl (some 139))]) (rest := []) (by decide +kernel) (by decide +kernel) rfl rfl rfl rfl).trans ?_
  rfl

theorem b315_487 {h : HP} {I : Nat → Int → Int} {x4 : Int} {v5 : MV} {v6 : MV} {sx0 : Int} {L : Int} (p0 : -2147483648 ≤ x4 + 1 ∧ x4 + 1 < 2147483648) (p1 : hK h 0 = (6, L)) (p2 : 0 ≤ x4 + 1 ∧ x4 + 1 < L) (p3 : LX 11 h 94) : Go 315 487 [.inr (.inl (some 0)), .inr (.inl (some 1)), .inr (.inl (some 94)), .inr (.inl (some 139)), .inl x4, v5, v6] [.inl sx0] (mI h I) = caln 315 [.inr (.inl (some 0)), .inr (.inl (some 1)), .inr (.inl (some 94)), .inr (.inl (some 139)), .inl x4, .inl sx0, v6] [] 495 (Go 211 0 [.inr (.inl (some 94)), .inl (I 0 (x4 + 1))] [] (mI h I)) := by
  refine (Go_istore (h := mI h I) (y := 315) (ip := 487) (a := 0) (b := 5) (c := 0) (by decide +kernel) rfl).trans ?_
  refine (Go_aload (h := mI h I) (y := 315) (ip := 488) (a := 0) (b := 2) (c := 0) (by decide +kernel) rfl).trans ?_
  refine (Go_aload (h := mI h I) (y := 315) (ip := 489) (a := 0) (b := 0) (c := 0) (by decide +kernel) rfl).trans ?_
  refine (Go_iload (h := mI h I) (y := 315) (ip := 490) (a := 0) (b := 4) (c := 0) (by decide +kernel) rfl).trans ?_
  refine (Go_const (h := mI h I) (y := 315) (ip := 491) (a := 1) (b := 0) (c := 0) (by decide +kernel)).trans ?_
  refine (Go_ar (op := 4) (x := x4 + 1) (h := mI h I) (y := 315) (ip := 492) (a := 0) (b := 0) (c := 0) (by decide +kernel) rfl (zar4 p0)).trans ?_
  refine (Go_ald (h := mI h I) (y := 315) (ip := 493) (a := 0) (b := 0) (c := 0) (by decide +kernel) rfl (p1) rfl p2).trans ?_
  refine (Go_call2 (h := mI h I) (y := 315) (ip := 494) (a := 300) (z := 211) (c := 0) (as := [.inr (.inl (some 94)), .inl (I 0 (x4 + 1))]) (rest := []) (by decide +kernel) (by decide +kernel) rfl rfl (zrecv_v rfl (LX_t p3)) rfl).trans ?_
  rfl

theorem b315_495 {h : HP} {I : Nat → Int → Int} {x4 : Int} {x5 : Int} {v6 : MV} {sx0 : Int} (p0 : LX 11 h 94) : Go 315 495 [.inr (.inl (some 0)), .inr (.inl (some 1)), .inr (.inl (some 94)), .inr (.inl (some 139)), .inl x4, .inl x5, v6] [.inl sx0] (mI h I) = caln 315 [.inr (.inl (some 0)), .inr (.inl (some 1)), .inr (.inl (some 94)), .inr (.inl (some 139)), .inl x4, .inl x5, .inl sx0] [] 498 (Go 162 0 [.inr (.inl (some 94))] [] (mI h I)) := by
  refine (Go_istore (h := mI h I) (y := 315) (ip := 495) (a := 0) (b := 6) (c := 0) (by decide +kernel) rfl).trans ?_
  refine (Go_aload (h := mI h I) (y := 315) (ip := 496) (a := 0) (b := 2) (c := 0) (by decide +kernel) rfl).trans ?_
  refine (Go_call2 (h := mI h I) (y := 315) (ip := 497) (a := 276) (z := 162) (c := 0) (as := [.inr (.inl (some 94))]) (rest := []) (by decide +kernel) (by decide +kernel) rfl rfl (zrecv_v rfl (LX_t p0)) rfl).trans ?_
  rfl

theorem b315_498 {h : HP} {I : Nat → Int → Int} {x4 : Int} {x5 : Int} {x6 : Int} {sx0 : Int} : Go 315 498 [.inr (.inl (some 0)), .inr (.inl (some 1)), .inr (.inl (some 94)), .inr (.inl (some 139)), .inl x4, .inl x5, .inl x6] [.inl sx0] (mI h I) = if sx0 = x5 then Go 315 502 [.inr (.inl (some 0)), .inr (.inl (some 1)), .inr (.inl (some 94)), .inr (.inl (some 139)), .inl x4, .inl x5, .inl x6] [] (mI h I) else Go 315 500 [.inr (.inl (some 0)), .inr (.inl (some 1)), .inr (.inl (some 94)), .inr (.inl (some 139)), .inl x4, .inl x5, .inl x6] [] (mI h I) := by
  refine (Go_iload (h := mI h I) (y := 315) (ip := 498) (a := 0) (b := 5) (c := 0) (by decide +kernel) rfl).trans ?_
  refine (Go_cmpeq (y := 315) (ip := 499) (a := 0) (c := 502) (by decide +kernel)).trans ?_
  rfl

theorem b315_500 {h : HP} {I : Nat → Int → Int} {x4 : Int} {x5 : Int} {x6 : Int} : Go 315 500 [.inr (.inl (some 0)), .inr (.inl (some 1)), .inr (.inl (some 94)), .inr (.inl (some 139)), .inl x4, .inl x5, .inl x6] [] (mI h I) = some (mI h I, .inl (some (.inl 0))) := by
  refine (Go_const (h := mI h I) (y := 315) (ip := 500) (a := 0) (b := 0) (c := 0) (by decide +kernel)).trans ?_
  refine (Go_iret (h := mI h I) (y := 315) (ip := 501) (a := 0) (b := 0) (c := 0) (by decide +kernel) (Or.inr ⟨rfl, by decide⟩)).trans ?_
  rfl

theorem b315_502 {h : HP} {I : Nat → Int → Int} {x4 : Int} {x5 : Int} {x6 : Int} : Go 315 502 [.inr (.inl (some 0)), .inr (.inl (some 1)), .inr (.inl (some 94)), .inr (.inl (some 139)), .inl x4, .inl x5, .inl x6] [] (mI h I) = if x5 ≠ 0 then Go 315 513 [.inr (.inl (some 0)), .inr (.inl (some 1)), .inr (.inl (some 94)), .inr (.inl (some 139)), .inl x4, .inl x5, .inl x6] [] (mI h I) else Go 315 504 [.inr (.inl (some 0)), .inr (.inl (some 1)), .inr (.inl (some 94)), .inr (.inl (some 139)), .inl x4, .inl x5, .inl x6] [] (mI h I) := by
  refine (Go_iload (h := mI h I) (y := 315) (ip := 502) (a := 0) (b := 5) (c := 0) (by decide +kernel) rfl).trans ?_
  refine (Go_ifne (y := 315) (ip := 503) (a := 0) (c := 513) (by decide +kernel)).trans ?_
  rfl

theorem b315_504 {h : HP} {I : Nat → Int → Int} {x4 : Int} {x5 : Int} {x6 : Int} (p0 : hK h 139 = (2, 1)) : Go 315 504 [.inr (.inl (some 0)), .inr (.inl (some 1)), .inr (.inl (some 94)), .inr (.inl (some 139)), .inl x4, .inl x5, .inl x6] [] (mI h I) = if (if I 139 0 < x6 then -1 else if I 139 0 = x6 then 0 else 1 : Int) = 0 then Go 315 513 [.inr (.inl (some 0)), .inr (.inl (some 1)), .inr (.inl (some 94)), .inr (.inl (some 139)), .inl x4, .inl x5, .inl x6] [] (mI h I) else Go 315 511 [.inr (.inl (some 0)), .inr (.inl (some 1)), .inr (.inl (some 94)), .inr (.inl (some 139)), .inl x4, .inl x5, .inl x6] [] (mI h I) := by
  refine (Go_aload (h := mI h I) (y := 315) (ip := 504) (a := 0) (b := 3) (c := 0) (by decide +kernel) rfl).trans ?_
  refine (Go_const (h := mI h I) (y := 315) (ip := 505) (a := 0) (b := 0) (c := 0) (by decide +kernel)).trans ?_
  refine (Go_ldl (h := mI h I) (y := 315) (ip := 506) (a := 0) (c := 0) (by decide +kernel) (p0) (by decide)).trans ?_
  refine (Go_iload (h := mI h I) (y := 315) (ip := 507) (a := 0) (b := 6) (c := 0) (by decide +kernel) rfl).trans ?_
  refine (Go_i2l (h := mI h I) (y := 315) (ip := 508) (a := 0) (b := 0) (c := 0) (by decide +kernel)).trans ?_
  refine (Go_lcmp (h := mI h I) (y := 315) (ip := 509) (a := 0) (b := 0) (c := 0) (by decide +kernel)).trans ?_
  refine (Go_ifeq (y := 315) (ip := 510) (a := 0) (c := 513) (by decide +kernel)).trans ?_
  rfl

theorem b315_511 {h : HP} {I : Nat → Int → Int} {x4 : Int} {x5 : Int} {x6 : Int} : Go 315 511 [.inr (.inl (some 0)), .inr (.inl (some 1)), .inr (.inl (some 94)), .inr (.inl (some 139)), .inl x4, .inl x5, .inl x6] [] (mI h I) = some (mI h I, .inl (some (.inl 0))) := by
  refine (Go_const (h := mI h I) (y := 315) (ip := 511) (a := 0) (b := 0) (c := 0) (by decide +kernel)).trans ?_
  refine (Go_iret (h := mI h I) (y := 315) (ip := 512) (a := 0) (b := 0) (c := 0) (by decide +kernel) (Or.inr ⟨rfl, by decide⟩)).trans ?_
  rfl

theorem b315_513 {h : HP} {I : Nat → Int → Int} {x4 : Int} {x5 : Int} {x6 : Int} : Go 315 513 [.inr (.inl (some 0)), .inr (.inl (some 1)), .inr (.inl (some 94)), .inr (.inl (some 139)), .inl x4, .inl x5, .inl x6] [] (mI h I) = Go 315 1826 [.inr (.inl (some 0)), .inr (.inl (some 1)), .inr (.inl (some 94)), .inr (.inl (some 139)), .inl x4, .inl x5, .inl x6] [] (mI h I) := by
  refine (Go_goto (h := mI h I) (y := 315) (ip := 513) (a := 0) (b := 0) (c := 1826) (by decide +kernel)).trans ?_
  rfl

theorem b315_514 {h : HP} {I : Nat → Int → Int} {x4 : Int} {v5 : MV} {v6 : MV} {L : Int} (p0 : -2147483648 ≤ x4 + 1 ∧ x4 + 1 < 2147483648) (p1 : hK h 0 = (6, L)) (p2 : 0 ≤ x4 + 1 ∧ x4 + 1 < L) : Go 315 514 [.inr (.inl (some 0)), .inr (.inl (some 1)), .inr (.inl (some 94)), .inr (.inl (some 139)), .inl x4, v5, v6] [] (mI h I) = caln 315 [.inr (.inl (some 0)), .inr (.inl (some 1)), .inr (.inl (some 94)), .inr (.inl (some 139)), .inl x4, v5, v6] [] 522 (Go 286 0 [.inr (.inl (some 1)), .inl (I 0 (x4 + 1)), .inr (.inl (some 139)), vU] [] (mI h I)) := by
  refine (Go_aload (h := mI h I) (y := 315) (ip := 514) (a := 0) (b := 1) (c := 0) (by decide +kernel) rfl).trans ?_
  refine (Go_aload (h := mI h I) (y := 315) (ip := 515) (a := 0) (b := 0) (c := 0) (by decide +kernel) rfl).trans ?_
  refine (Go_iload (h := mI h I) (y := 315) (ip := 516) (a := 0) (b := 4) (c := 0) (by decide +kernel) rfl).trans ?_
  refine (Go_const (h := mI h I) (y := 315) (ip := 517) (a := 1) (b := 0) (c := 0) (by decide +kernel)).trans ?_
  refine (Go_ar (op := 4) (x := x4 + 1) (h := mI h I) (y := 315) (ip := 518) (a := 0) (b := 0) (c := 0) (by decide +kernel) rfl (zar4 p0)).trans ?_
  refine (Go_ald (h := mI h I) (y := 315) (ip := 519) (a := 0) (b := 0) (c := 0) (by decide +kernel) rfl (p1) rfl p2).trans ?_
  refine (Go_aload (h := mI h I) (y := 315) (ip := 520) (a := 0) (b := 3) (c := 0) (by decide +kernel) rfl).trans ?_
  refine (Go_call2 (h := mI h I) (y := 315) (ip := 521) (a := 301) (z := 286) (c := 1) (as := [.inr (.inl (some 1)), .inl (I 0 (x4 + 1)), .inr (.inl (some 139))]) (rest := []) (by decide +kernel) (by decide +kernel) rfl rfl rfl rfl).trans ?_
  rfl

theorem b315_522 {h : HP} {I : Nat → Int → Int} {x4 : Int} {v5 : MV} {v6 : MV} {sx0 : Int} {L : Int} (p0 : -2147483648 ≤ x4 + 1 ∧ x4 + 1 < 2147483648) (p1 : hK h 0 = (6, L)) (p2 : 0 ≤ x4 + 1 ∧ x4 + 1 < L) (p3 : LX 11 h 94) : Go 315 522 [.inr (.inl (some 0)), .inr (.inl (some 1)), .inr (.inl (some 94)), .inr (.inl (some 139)), .inl x4, v5, v6] [.inl sx0] (mI h I) = caln 315 [.inr (.inl (some 0)), .inr (.inl (some 1)), .inr (.inl (some 94)), .inr (.inl (some 139)), .inl x4, .inl sx0, v6] [] 530 (Go 212 0 [.inr (.inl (some 94)), .inl (I 0 (x4 + 1))] [] (mI h I)) := by
  refine (Go_istore (h := mI h I) (y := 315) (ip := 522) (a := 0) (b := 5) (c := 0) (by decide +kernel) rfl).trans ?_
  refine (Go_aload (h := mI h I) (y := 315) (ip := 523) (a := 0) (b := 2) (c := 0) (by decide +kernel) rfl).trans ?_
  refine (Go_aload (h := mI h I) (y := 315) (ip := 524) (a := 0) (b := 0) (c := 0) (by decide +kernel) rfl).trans ?_
  refine (Go_iload (h := mI h I) (y := 315) (ip := 525) (a := 0) (b := 4) (c := 0) (by decide +kernel) rfl).trans ?_
  refine (Go_const (h := mI h I) (y := 315) (ip := 526) (a := 1) (b := 0) (c := 0) (by decide +kernel)).trans ?_
  refine (Go_ar (op := 4) (x := x4 + 1) (h := mI h I) (y := 315) (ip := 527) (a := 0) (b := 0) (c := 0) (by decide +kernel) rfl (zar4 p0)).trans ?_
  refine (Go_ald (h := mI h I) (y := 315) (ip := 528) (a := 0) (b := 0) (c := 0) (by decide +kernel) rfl (p1) rfl p2).trans ?_
  refine (Go_call2 (h := mI h I) (y := 315) (ip := 529) (a := 302) (z := 212) (c := 0) (as := [.inr (.inl (some 94)), .inl (I 0 (x4 + 1))]) (rest := []) (by decide +kernel) (by decide +kernel) rfl rfl (zrecv_v rfl (LX_t p3)) rfl).trans ?_
  rfl

theorem b315_530 {h : HP} {I : Nat → Int → Int} {x4 : Int} {x5 : Int} {v6 : MV} {sx0 : Int} (p0 : LX 11 h 94) : Go 315 530 [.inr (.inl (some 0)), .inr (.inl (some 1)), .inr (.inl (some 94)), .inr (.inl (some 139)), .inl x4, .inl x5, v6] [.inl sx0] (mI h I) = caln 315 [.inr (.inl (some 0)), .inr (.inl (some 1)), .inr (.inl (some 94)), .inr (.inl (some 139)), .inl x4, .inl x5, .inl sx0] [] 533 (Go 162 0 [.inr (.inl (some 94))] [] (mI h I)) := by
  refine (Go_istore (h := mI h I) (y := 315) (ip := 530) (a := 0) (b := 6) (c := 0) (by decide +kernel) rfl).trans ?_
  refine (Go_aload (h := mI h I) (y := 315) (ip := 531) (a := 0) (b := 2) (c := 0) (by decide +kernel) rfl).trans ?_
  refine (Go_call2 (h := mI h I) (y := 315) (ip := 532) (a := 276) (z := 162) (c := 0) (as := [.inr (.inl (some 94))]) (rest := []) (by decide +kernel) (by decide +kernel) rfl rfl (zrecv_v rfl (LX_t p0)) rfl).trans ?_
  rfl

theorem b315_533 {h : HP} {I : Nat → Int → Int} {x4 : Int} {x5 : Int} {x6 : Int} {sx0 : Int} : Go 315 533 [.inr (.inl (some 0)), .inr (.inl (some 1)), .inr (.inl (some 94)), .inr (.inl (some 139)), .inl x4, .inl x5, .inl x6] [.inl sx0] (mI h I) = if sx0 = x5 then Go 315 537 [.inr (.inl (some 0)), .inr (.inl (some 1)), .inr (.inl (some 94)), .inr (.inl (some 139)), .inl x4, .inl x5, .inl x6] [] (mI h I) else Go 315 535 [.inr (.inl (some 0)), .inr (.inl (some 1)), .inr (.inl (some 94)), .inr (.inl (some 139)), .inl x4, .inl x5, .inl x6] [] (mI h I) := by
  refine (Go_iload (h := mI h I) (y := 315) (ip := 533) (a := 0) (b := 5) (c := 0) (by decide +kernel) rfl).trans ?_
  refine (Go_cmpeq (y := 315) (ip := 534) (a := 0) (c := 537) (by decide +kernel)).trans ?_
  rfl

theorem b315_535 {h : HP} {I : Nat → Int → Int} {x4 : Int} {x5 : Int} {x6 : Int} : Go 315 535 [.inr (.inl (some 0)), .inr (.inl (some 1)), .inr (.inl (some 94)), .inr (.inl (some 139)), .inl x4, .inl x5, .inl x6] [] (mI h I) = some (mI h I, .inl (some (.inl 0))) := by
  refine (Go_const (h := mI h I) (y := 315) (ip := 535) (a := 0) (b := 0) (c := 0) (by decide +kernel)).trans ?_
  refine (Go_iret (h := mI h I) (y := 315) (ip := 536) (a := 0) (b := 0) (c := 0) (by decide +kernel) (Or.inr ⟨rfl, by decide⟩)).trans ?_
  rfl

theorem b315_537 {h : HP} {I : Nat → Int → Int} {x4 : Int} {x5 : Int} {x6 : Int} : Go 315 537 [.inr (.inl (some 0)), .inr (.inl (some 1)), .inr (.inl (some 94)), .inr (.inl (some 139)), .inl x4, .inl x5, .inl x6] [] (mI h I) = if x5 ≠ 0 then Go 315 548 [.inr (.inl (some 0)), .inr (.inl (some 1)), .inr (.inl (some 94)), .inr (.inl (some 139)), .inl x4, .inl x5, .inl x6] [] (mI h I) else Go 315 539 [.inr (.inl (some 0)), .inr (.inl (some 1)), .inr (.inl (some 94)), .inr (.inl (some 139)), .inl x4, .inl x5, .inl x6] [] (mI h I) := by
  refine (Go_iload (h := mI h I) (y := 315) (ip := 537) (a := 0) (b := 5) (c := 0) (by decide +kernel) rfl).trans ?_
  refine (Go_ifne (y := 315) (ip := 538) (a := 0) (c := 548) (by decide +kernel)).trans ?_
  rfl

theorem b315_539 {h : HP} {I : Nat → Int → Int} {x4 : Int} {x5 : Int} {x6 : Int} (p0 : hK h 139 = (2, 1)) : Go 315 539 [.inr (.inl (some 0)), .inr (.inl (some 1)), .inr (.inl (some 94)), .inr (.inl (some 139)), .inl x4, .inl x5, .inl x6] [] (mI h I) = if (if I 139 0 < x6 then -1 else if I 139 0 = x6 then 0 else 1 : Int) = 0 then Go 315 548 [.inr (.inl (some 0)), .inr (.inl (some 1)), .inr (.inl (some 94)), .inr (.inl (some 139)), .inl x4, .inl x5, .inl x6] [] (mI h I) else Go 315 546 [.inr (.inl (some 0)), .inr (.inl (some 1)), .inr (.inl (some 94)), .inr (.inl (some 139)), .inl x4, .inl x5, .inl x6] [] (mI h I) := by
  refine (Go_aload (h := mI h I) (y := 315) (ip := 539) (a := 0) (b := 3) (c := 0) (by decide +kernel) rfl).trans ?_
  refine (Go_const (h := mI h I) (y := 315) (ip := 540) (a := 0) (b := 0) (c := 0) (by decide +kernel)).trans ?_
  refine (Go_ldl (h := mI h I) (y := 315) (ip := 541) (a := 0) (c := 0) (by decide +kernel) (p0) (by decide)).trans ?_
  refine (Go_iload (h := mI h I) (y := 315) (ip := 542) (a := 0) (b := 6) (c := 0) (by decide +kernel) rfl).trans ?_
  refine (Go_i2l (h := mI h I) (y := 315) (ip := 543) (a := 0) (b := 0) (c := 0) (by decide +kernel)).trans ?_
  refine (Go_lcmp (h := mI h I) (y := 315) (ip := 544) (a := 0) (b := 0) (c := 0) (by decide +kernel)).trans ?_
  refine (Go_ifeq (y := 315) (ip := 545) (a := 0) (c := 548) (by decide +kernel)).trans ?_
  rfl

theorem b315_546 {h : HP} {I : Nat → Int → Int} {x4 : Int} {x5 : Int} {x6 : Int} : Go 315 546 [.inr (.inl (some 0)), .inr (.inl (some 1)), .inr (.inl (some 94)), .inr (.inl (some 139)), .inl x4, .inl x5, .inl x6] [] (mI h I) = some (mI h I, .inl (some (.inl 0))) := by
  refine (Go_const (h := mI h I) (y := 315) (ip := 546) (a := 0) (b := 0) (c := 0) (by decide +kernel)).trans ?_
  refine (Go_iret (h := mI h I) (y := 315) (ip := 547) (a := 0) (b := 0) (c := 0) (by decide +kernel) (Or.inr ⟨rfl, by decide⟩)).trans ?_
  rfl

theorem b315_548 {h : HP} {I : Nat → Int → Int} {x4 : Int} {x5 : Int} {x6 : Int} : Go 315 548 [.inr (.inl (some 0)), .inr (.inl (some 1)), .inr (.inl (some 94)), .inr (.inl (some 139)), .inl x4, .inl x5, .inl x6] [] (mI h I) = Go 315 1826 [.inr (.inl (some 0)), .inr (.inl (some 1)), .inr (.inl (some 94)), .inr (.inl (some 139)), .inl x4, .inl x5, .inl x6] [] (mI h I) := by
  refine (Go_goto (h := mI h I) (y := 315) (ip := 548) (a := 0) (b := 0) (c := 1826) (by decide +kernel)).trans ?_
  rfl

theorem b315_549 {h : HP} {I : Nat → Int → Int} {x4 : Int} {v5 : MV} {v6 : MV} {L : Int} (p0 : -2147483648 ≤ x4 + 1 ∧ x4 + 1 < 2147483648) (p1 : hK h 0 = (6, L)) (p2 : 0 ≤ x4 + 1 ∧ x4 + 1 < L) (p3 : -2147483648 ≤ x4 + 2 ∧ x4 + 2 < 2147483648) (p4 : 0 ≤ x4 + 2 ∧ x4 + 2 < L) : Go 315 549 [.inr (.inl (some 0)), .inr (.inl (some 1)), .inr (.inl (some 94)), .inr (.inl (some 139)), .inl x4, v5, v6] [] (mI h I) = caln 315 [.inr (.inl (some 0)), .inr (.inl (some 1)), .inr (.inl (some 94)), .inr (.inl (some 139)), .inl x4, v5, v6] [] 562 (Go 287 0 [.inr (.inl (some 1)), .inl (I 0 (x4 + 1)), .inl (I 0 (x4 + 2)), .inr (.inl (some 139)), vU] [] (mI h I)) := by
  refine (Go_aload (h := mI h I) (y := 315) (ip := 549) (a := 0) (b := 1) (c := 0) (by decide +kernel) rfl).trans ?_
  refine (Go_aload (h := mI h I) (y := 315) (ip := 550) (a := 0) (b := 0) (c := 0) (by decide +kernel) rfl).trans ?_
  refine (Go_iload (h := mI h I) (y := 315) (ip := 551) (a := 0) (b := 4) (c := 0) (by decide +kernel) rfl).trans ?_
  refine (Go_const (h := mI h I) (y := 315) (ip := 552) (a := 1) (b := 0) (c := 0) (by decide +kernel)).trans ?_
  refine (Go_ar (op := 4) (x := x4 + 1) (h := mI h I) (y := 315) (ip := 553) (a := 0) (b := 0) (c := 0) (by decide +kernel) rfl (zar4 p0)).trans ?_
  refine (Go_ald (h := mI h I) (y := 315) (ip := 554) (a := 0) (b := 0) (c := 0) (by decide +kernel) rfl (p1) rfl p2).trans ?_
  refine (Go_aload (h := mI h I) (y := 315) (ip := 555) (a := 0) (b := 0) (c := 0) (by decide +kernel) rfl).trans ?_
  refine (Go_iload (h := mI h I) (y := 315) (ip := 556) (a := 0) (b := 4) (c := 0) (by decide +kernel) rfl).trans ?_
  refine (Go_const (h := mI h I) (y := 315) (ip := 557) (a := 2) (b := 0) (c := 0) (by decide +kernel)).trans ?_
  refine (Go_ar (op := 4) (x := x4 + 2) (h := mI h I) (y := 315) (ip := 558) (a := 0) (b := 0) (c := 0) (by decide +kernel) rfl (zar4 p3)).trans ?_
  refine (Go_ald (h := mI h I) (y := 315) (ip := 559) (a := 0) (b := 0) (c := 0) (by decide +kernel) rfl (p1) rfl p4).trans ?_
  refine (Go_aload (h := mI h I) (y := 315) (ip := 560) (a := 0) (b := 3) (c := 0) (by decide +kernel) rfl).trans ?_
  refine (Go_call2 (h := mI h I) (y := 315) (ip := 561) (a := 303) (z := 287) (c := 1) (as := [.inr (.inl (some 1)), .inl (I 0 (x4 + 1)), .inl (I 0 (x4 + 2)), .inr (.inl (some 139))]) (rest := []) (by decide +kernel) (by decide +kernel) rfl rfl rfl rfl).trans ?_
  rfl

theorem b315_562 {h : HP} {I : Nat → Int → Int} {x4 : Int} {v5 : MV} {v6 : MV} {sx0 : Int} {L : Int} (p0 : -2147483648 ≤ x4 + 1 ∧ x4 + 1 < 2147483648) (p1 : hK h 0 = (6, L)) (p2 : 0 ≤ x4 + 1 ∧ x4 + 1 < L) (p3 : -2147483648 ≤ x4 + 2 ∧ x4 + 2 < 2147483648) (p4 : 0 ≤ x4 + 2 ∧ x4 + 2 < L) (p5 : LX 11 h 94) : Go 315 562 [.inr (.inl (some 0)), .inr (.inl (some 1)), .inr (.inl (some 94)), .inr (.inl (some 139)), .inl x4, v5, v6] [.inl sx0] (mI h I) = caln 315 [.inr (.inl (some 0)), .inr (.inl (some 1)), .inr (.inl (some 94)), .inr (.inl (some 139)), .inl x4, .inl sx0, v6] [] 575 (Go 214 0 [.inr (.inl (some 94)), .inl (I 0 (x4 + 1)), .inl (I 0 (x4 + 2)), vU, vU, vU, vU] [] (mI h I)) := by
  refine (Go_istore (h := mI h I) (y := 315) (ip := 562) (a := 0) (b := 5) (c := 0) (by decide +kernel) rfl).trans ?_
  refine (Go_aload (h := mI h I) (y := 315) (ip := 563) (a := 0) (b := 2) (c := 0) (by decide +kernel) rfl).trans ?_
  refine (Go_aload (h := mI h I) (y := 315) (ip := 564) (a := 0) (b := 0) (c := 0) (by decide +kernel) rfl).trans ?_
  refine (Go_iload (h := mI h I) (y := 315) (ip := 565) (a := 0) (b := 4) (c := 0) (by decide +kernel) rfl).trans ?_
  refine (Go_const (h := mI h I) (y := 315) (ip := 566) (a := 1) (b := 0) (c := 0) (by decide +kernel)).trans ?_
  refine (Go_ar (op := 4) (x := x4 + 1) (h := mI h I) (y := 315) (ip := 567) (a := 0) (b := 0) (c := 0) (by decide +kernel) rfl (zar4 p0)).trans ?_
  refine (Go_ald (h := mI h I) (y := 315) (ip := 568) (a := 0) (b := 0) (c := 0) (by decide +kernel) rfl (p1) rfl p2).trans ?_
  refine (Go_aload (h := mI h I) (y := 315) (ip := 569) (a := 0) (b := 0) (c := 0) (by decide +kernel) rfl).trans ?_
  refine (Go_iload (h := mI h I) (y := 315) (ip := 570) (a := 0) (b := 4) (c := 0) (by decide +kernel) rfl).trans ?_
  refine (Go_const (h := mI h I) (y := 315) (ip := 571) (a := 2) (b := 0) (c := 0) (by decide +kernel)).trans ?_
  refine (Go_ar (op := 4) (x := x4 + 2) (h := mI h I) (y := 315) (ip := 572) (a := 0) (b := 0) (c := 0) (by decide +kernel) rfl (zar4 p3)).trans ?_
  refine (Go_ald (h := mI h I) (y := 315) (ip := 573) (a := 0) (b := 0) (c := 0) (by decide +kernel) rfl (p1) rfl p4).trans ?_
  refine (Go_call2 (h := mI h I) (y := 315) (ip := 574) (a := 304) (z := 214) (c := 0) (as := [.inr (.inl (some 94)), .inl (I 0 (x4 + 1)), .inl (I 0 (x4 + 2))]) (rest := []) (by decide +kernel) (by decide +kernel) rfl rfl (zrecv_v rfl (LX_t p5)) rfl).trans ?_
  rfl

theorem b315_575 {h : HP} {I : Nat → Int → Int} {x4 : Int} {x5 : Int} {v6 : MV} {sx0 : Int} (p0 : LX 11 h 94) : Go 315 575 [.inr (.inl (some 0)), .inr (.inl (some 1)), .inr (.inl (some 94)), .inr (.inl (some 139)), .inl x4, .inl x5, v6] [.inl sx0] (mI h I) = caln 315 [.inr (.inl (some 0)), .inr (.inl (some 1)), .inr (.inl (some 94)), .inr (.inl (some 139)), .inl x4, .inl x5, .inl sx0] [] 578 (Go 162 0 [.inr (.inl (some 94))] [] (mI h I)) := by
  refine (Go_istore (h := mI h I) (y := 315) (ip := 575) (a := 0) (b := 6) (c := 0) (by decide +kernel) rfl).trans ?_
  refine (Go_aload (h := mI h I) (y := 315) (ip := 576) (a := 0) (b := 2) (c := 0) (by decide +kernel) rfl).trans ?_
  refine (Go_call2 (h := mI h I) (y := 315) (ip := 577) (a := 276) (z := 162) (c := 0) (as := [.inr (.inl (some 94))]) (rest := []) (by decide +kernel) (by decide +kernel) rfl rfl (zrecv_v rfl (LX_t p0)) rfl).trans ?_
  rfl

theorem b315_578 {h : HP} {I : Nat → Int → Int} {x4 : Int} {x5 : Int} {x6 : Int} {sx0 : Int} : Go 315 578 [.inr (.inl (some 0)), .inr (.inl (some 1)), .inr (.inl (some 94)), .inr (.inl (some 139)), .inl x4, .inl x5, .inl x6] [.inl sx0] (mI h I) = if sx0 = x5 then Go 315 582 [.inr (.inl (some 0)), .inr (.inl (some 1)), .inr (.inl (some 94)), .inr (.inl (some 139)), .inl x4, .inl x5, .inl x6] [] (mI h I) else Go 315 580 [.inr (.inl (some 0)), .inr (.inl (some 1)), .inr (.inl (some 94)), .inr (.inl (some 139)), .inl x4, .inl x5, .inl x6] [] (mI h I) := by
  refine (Go_iload (h := mI h I) (y := 315) (ip := 578) (a := 0) (b := 5) (c := 0) (by decide +kernel) rfl).trans ?_
  refine (Go_cmpeq (y := 315) (ip := 579) (a := 0) (c := 582) (by decide +kernel)).trans ?_
  rfl

theorem b315_580 {h : HP} {I : Nat → Int → Int} {x4 : Int} {x5 : Int} {x6 : Int} : Go 315 580 [.inr (.inl (some 0)), .inr (.inl (some 1)), .inr (.inl (some 94)), .inr (.inl (some 139)), .inl x4, .inl x5, .inl x6] [] (mI h I) = some (mI h I, .inl (some (.inl 0))) := by
  refine (Go_const (h := mI h I) (y := 315) (ip := 580) (a := 0) (b := 0) (c := 0) (by decide +kernel)).trans ?_
  refine (Go_iret (h := mI h I) (y := 315) (ip := 581) (a := 0) (b := 0) (c := 0) (by decide +kernel) (Or.inr ⟨rfl, by decide⟩)).trans ?_
  rfl

theorem b315_582 {h : HP} {I : Nat → Int → Int} {x4 : Int} {x5 : Int} {x6 : Int} : Go 315 582 [.inr (.inl (some 0)), .inr (.inl (some 1)), .inr (.inl (some 94)), .inr (.inl (some 139)), .inl x4, .inl x5, .inl x6] [] (mI h I) = if x5 ≠ 0 then Go 315 593 [.inr (.inl (some 0)), .inr (.inl (some 1)), .inr (.inl (some 94)), .inr (.inl (some 139)), .inl x4, .inl x5, .inl x6] [] (mI h I) else Go 315 584 [.inr (.inl (some 0)), .inr (.inl (some 1)), .inr (.inl (some 94)), .inr (.inl (some 139)), .inl x4, .inl x5, .inl x6] [] (mI h I) := by
  refine (Go_iload (h := mI h I) (y := 315) (ip := 582) (a := 0) (b := 5) (c := 0) (by decide +kernel) rfl).trans ?_
  refine (Go_ifne (y := 315) (ip := 583) (a := 0) (c := 593) (by decide +kernel)).trans ?_
  rfl

theorem b315_584 {h : HP} {I : Nat → Int → Int} {x4 : Int} {x5 : Int} {x6 : Int} (p0 : hK h 139 = (2, 1)) : Go 315 584 [.inr (.inl (some 0)), .inr (.inl (some 1)), .inr (.inl (some 94)), .inr (.inl (some 139)), .inl x4, .inl x5, .inl x6] [] (mI h I) = if (if I 139 0 < x6 then -1 else if I 139 0 = x6 then 0 else 1 : Int) = 0 then Go 315 593 [.inr (.inl (some 0)), .inr (.inl (some 1)), .inr (.inl (some 94)), .inr (.inl (some 139)), .inl x4, .inl x5, .inl x6] [] (mI h I) else Go 315 591 [.inr (.inl (some 0)), .inr (.inl (some 1)), .inr (.inl (some 94)), .inr (.inl (some 139)), .inl x4, .inl x5, .inl x6] [] (mI h I) := by
  refine (Go_aload (h := mI h I) (y := 315) (ip := 584) (a := 0) (b := 3) (c := 0) (by decide +kernel) rfl).trans ?_
  refine (Go_const (h := mI h I) (y := 315) (ip := 585) (a := 0) (b := 0) (c := 0) (by decide +kernel)).trans ?_
  refine (Go_ldl (h := mI h I) (y := 315) (ip := 586) (a := 0) (c := 0) (by decide +kernel) (p0) (by decide)).trans ?_
  refine (Go_iload (h := mI h I) (y := 315) (ip := 587) (a := 0) (b := 6) (c := 0) (by decide +kernel) rfl).trans ?_
  refine (Go_i2l (h := mI h I) (y := 315) (ip := 588) (a := 0) (b := 0) (c := 0) (by decide +kernel)).trans ?_
  refine (Go_lcmp (h := mI h I) (y := 315) (ip := 589) (a := 0) (b := 0) (c := 0) (by decide +kernel)).trans ?_
  refine (Go_ifeq (y := 315) (ip := 590) (a := 0) (c := 593) (by decide +kernel)).trans ?_
  rfl

theorem b315_591 {h : HP} {I : Nat → Int → Int} {x4 : Int} {x5 : Int} {x6 : Int} : Go 315 591 [.inr (.inl (some 0)), .inr (.inl (some 1)), .inr (.inl (some 94)), .inr (.inl (some 139)), .inl x4, .inl x5, .inl x6] [] (mI h I) = some (mI h I, .inl (some (.inl 0))) := by
  refine (Go_const (h := mI h I) (y := 315) (ip := 591) (a := 0) (b := 0) (c := 0) (by decide +kernel)).trans ?_
  refine (Go_iret (h := mI h I) (y := 315) (ip := 592) (a := 0) (b := 0) (c := 0) (by decide +kernel) (Or.inr ⟨rfl, by decide⟩)).trans ?_
  rfl

theorem b315_593 {h : HP} {I : Nat → Int → Int} {x4 : Int} {x5 : Int} {x6 : Int} : Go 315 593 [.inr (.inl (some 0)), .inr (.inl (some 1)), .inr (.inl (some 94)), .inr (.inl (some 139)), .inl x4, .inl x5, .inl x6] [] (mI h I) = Go 315 1826 [.inr (.inl (some 0)), .inr (.inl (some 1)), .inr (.inl (some 94)), .inr (.inl (some 139)), .inl x4, .inl x5, .inl x6] [] (mI h I) := by
  refine (Go_goto (h := mI h I) (y := 315) (ip := 593) (a := 0) (b := 0) (c := 1826) (by decide +kernel)).trans ?_
  rfl

theorem b315_594 {h : HP} {I : Nat → Int → Int} {x4 : Int} {v5 : MV} {v6 : MV} {L : Int} (p0 : -2147483648 ≤ x4 + 1 ∧ x4 + 1 < 2147483648) (p1 : hK h 0 = (6, L)) (p2 : 0 ≤ x4 + 1 ∧ x4 + 1 < L) : Go 315 594 [.inr (.inl (some 0)), .inr (.inl (some 1)), .inr (.inl (some 94)), .inr (.inl (some 139)), .inl x4, v5, v6] [] (mI h I) = caln 315 [.inr (.inl (some 0)), .inr (.inl (some 1)), .inr (.inl (some 94)), .inr (.inl (some 139)), .inl x4, v5, v6] [] 602 (Go 288 0 [.inr (.inl (some 1)), .inl (I 0 (x4 + 1)), .inr (.inl (some 139)), vU] [] (mI h I)) := by
  refine (Go_aload (h := mI h I) (y := 315) (ip := 594) (a := 0) (b := 1) (c := 0) (by decide +kernel) rfl).trans ?_
  refine (Go_aload (h := mI h I) (y := 315) (ip := 595) (a := 0) (b := 0) (c := 0) (by decide +kernel) rfl).trans ?_
  refine (Go_iload (h := mI h I) (y := 315) (ip := 596) (a := 0) (b := 4) (c := 0) (by decide +kernel) rfl).trans ?_
  refine (Go_const (h := mI h I) (y := 315) (ip := 597) (a := 1) (b := 0) (c := 0) (by decide +kernel)).trans ?_
  refine (Go_ar (op := 4) (x := x4 + 1) (h := mI h I) (y := 315) (ip := 598) (a := 0) (b := 0) (c := 0) (by decide +kernel) rfl (zar4 p0)).trans ?_
  refine (Go_ald (h := mI h I) (y := 315) (ip := 599) (a := 0) (b := 0) (c := 0) (by decide +kernel) rfl (p1) rfl p2).trans ?_
  refine (Go_aload (h := mI h I) (y := 315) (ip := 600) (a := 0) (b := 3) (c := 0) (by decide +kernel) rfl).trans ?_
  refine (Go_call2 (h := mI h I) (y := 315) (ip := 601) (a := 305) (z := 288) (c := 1) (as := [.inr (.inl (some 1)), .inl (I 0 (x4 + 1)), .inr (.inl (some 139))]) (rest := []) (by decide +kernel) (by decide +kernel) rfl rfl rfl rfl).trans ?_
  rfl

theorem b315_602 {h : HP} {I : Nat → Int → Int} {x4 : Int} {v5 : MV} {v6 : MV} {sx0 : Int} {L : Int} (p0 : -2147483648 ≤ x4 + 1 ∧ x4 + 1 < 2147483648) (p1 : hK h 0 = (6, L)) (p2 : 0 ≤ x4 + 1 ∧ x4 + 1 < L) (p3 : LX 11 h 94) : Go 315 602 [.inr (.inl (some 0)), .inr (.inl (some 1)), .inr (.inl (some 94)), .inr (.inl (some 139)), .inl x4, v5, v6] [.inl sx0] (mI h I) = caln 315 [.inr (.inl (some 0)), .inr (.inl (some 1)), .inr (.inl (some 94)), .inr (.inl (some 139)), .inl x4, .inl sx0, v6] [] 610 (Go 215 0 [.inr (.inl (some 94)), .inl (I 0 (x4 + 1))] [] (mI h I)) := by
  refine (Go_istore (h := mI h I) (y := 315) (ip := 602) (a := 0) (b := 5) (c := 0) (by decide +kernel) rfl).trans ?_
  refine (Go_aload (h := mI h I) (y := 315) (ip := 603) (a := 0) (b := 2) (c := 0) (by decide +kernel) rfl).trans ?_
  refine (Go_aload (h := mI h I) (y := 315) (ip := 604) (a := 0) (b := 0) (c := 0) (by decide +kernel) rfl).trans ?_
  refine (Go_iload (h := mI h I) (y := 315) (ip := 605) (a := 0) (b := 4) (c := 0) (by decide +kernel) rfl).trans ?_
  refine (Go_const (h := mI h I) (y := 315) (ip := 606) (a := 1) (b := 0) (c := 0) (by decide +kernel)).trans ?_
  refine (Go_ar (op := 4) (x := x4 + 1) (h := mI h I) (y := 315) (ip := 607) (a := 0) (b := 0) (c := 0) (by decide +kernel) rfl (zar4 p0)).trans ?_
  refine (Go_ald (h := mI h I) (y := 315) (ip := 608) (a := 0) (b := 0) (c := 0) (by decide +kernel) rfl (p1) rfl p2).trans ?_
  refine (Go_call2 (h := mI h I) (y := 315) (ip := 609) (a := 306) (z := 215) (c := 0) (as := [.inr (.inl (some 94)), .inl (I 0 (x4 + 1))]) (rest := []) (by decide +kernel) (by decide +kernel) rfl rfl (zrecv_v rfl (LX_t p3)) rfl).trans ?_
  rfl

theorem b315_610 {h : HP} {I : Nat → Int → Int} {x4 : Int} {x5 : Int} {v6 : MV} {sx0 : Int} (p0 : LX 11 h 94) : Go 315 610 [.inr (.inl (some 0)), .inr (.inl (some 1)), .inr (.inl (some 94)), .inr (.inl (some 139)), .inl x4, .inl x5, v6] [.inl sx0] (mI h I) = caln 315 [.inr (.inl (some 0)), .inr (.inl (some 1)), .inr (.inl (some 94)), .inr (.inl (some 139)), .inl x4, .inl x5, .inl sx0] [] 613 (Go 162 0 [.inr (.inl (some 94))] [] (mI h I)) := by
  refine (Go_istore (h := mI h I) (y := 315) (ip := 610) (a := 0) (b := 6) (c := 0) (by decide +kernel) rfl).trans ?_
  refine (Go_aload (h := mI h I) (y := 315) (ip := 611) (a := 0) (b := 2) (c := 0) (by decide +kernel) rfl).trans ?_
  refine (Go_call2 (h := mI h I) (y := 315) (ip := 612) (a := 276) (z := 162) (c := 0) (as := [.inr (.inl (some 94))]) (rest := []) (by decide +kernel) (by decide +kernel) rfl rfl (zrecv_v rfl (LX_t p0)) rfl).trans ?_
  rfl

theorem b315_613 {h : HP} {I : Nat → Int → Int} {x4 : Int} {x5 : Int} {x6 : Int} {sx0 : Int} : Go 315 613 [.inr (.inl (some 0)), .inr (.inl (some 1)), .inr (.inl (some 94)), .inr (.inl (some 139)), .inl x4, .inl x5, .inl x6] [.inl sx0] (mI h I) = if sx0 = x5 then Go 315 617 [.inr (.inl (some 0)), .inr (.inl (some 1)), .inr (.inl (some 94)), .inr (.inl (some 139)), .inl x4, .inl x5, .inl x6] [] (mI h I) else Go 315 615 [.inr (.inl (some 0)), .inr (.inl (some 1)), .inr (.inl (some 94)), .inr (.inl (some 139)), .inl x4, .inl x5, .inl x6] [] (mI h I) := by
  refine (Go_iload (h := mI h I) (y := 315) (ip := 613) (a := 0) (b := 5) (c := 0) (by decide +kernel) rfl).trans ?_
  refine (Go_cmpeq (y := 315) (ip := 614) (a := 0) (c := 617) (by decide +kernel)).trans ?_
  rfl

theorem b315_615 {h : HP} {I : Nat → Int → Int} {x4 : Int} {x5 : Int} {x6 : Int} : Go 315 615 [.inr (.inl (some 0)), .inr (.inl (some 1)), .inr (.inl (some 94)), .inr (.inl (some 139)), .inl x4, .inl x5, .inl x6] [] (mI h I) = some (mI h I, .inl (some (.inl 0))) := by
  refine (Go_const (h := mI h I) (y := 315) (ip := 615) (a := 0) (b := 0) (c := 0) (by decide +kernel)).trans ?_
  refine (Go_iret (h := mI h I) (y := 315) (ip := 616) (a := 0) (b := 0) (c := 0) (by decide +kernel) (Or.inr ⟨rfl, by decide⟩)).trans ?_
  rfl

theorem b315_617 {h : HP} {I : Nat → Int → Int} {x4 : Int} {x5 : Int} {x6 : Int} : Go 315 617 [.inr (.inl (some 0)), .inr (.inl (some 1)), .inr (.inl (some 94)), .inr (.inl (some 139)), .inl x4, .inl x5, .inl x6] [] (mI h I) = if x5 ≠ 0 then Go 315 628 [.inr (.inl (some 0)), .inr (.inl (some 1)), .inr (.inl (some 94)), .inr (.inl (some 139)), .inl x4, .inl x5, .inl x6] [] (mI h I) else Go 315 619 [.inr (.inl (some 0)), .inr (.inl (some 1)), .inr (.inl (some 94)), .inr (.inl (some 139)), .inl x4, .inl x5, .inl x6] [] (mI h I) := by
  refine (Go_iload (h := mI h I) (y := 315) (ip := 617) (a := 0) (b := 5) (c := 0) (by decide +kernel) rfl).trans ?_
  refine (Go_ifne (y := 315) (ip := 618) (a := 0) (c := 628) (by decide +kernel)).trans ?_
  rfl

theorem b315_619 {h : HP} {I : Nat → Int → Int} {x4 : Int} {x5 : Int} {x6 : Int} (p0 : hK h 139 = (2, 1)) : Go 315 619 [.inr (.inl (some 0)), .inr (.inl (some 1)), .inr (.inl (some 94)), .inr (.inl (some 139)), .inl x4, .inl x5, .inl x6] [] (mI h I) = if (if I 139 0 < x6 then -1 else if I 139 0 = x6 then 0 else 1 : Int) = 0 then Go 315 628 [.inr (.inl (some 0)), .inr (.inl (some 1)), .inr (.inl (some 94)), .inr (.inl (some 139)), .inl x4, .inl x5, .inl x6] [] (mI h I) else Go 315 626 [.inr (.inl (some 0)), .inr (.inl (some 1)), .inr (.inl (some 94)), .inr (.inl (some 139)), .inl x4, .inl x5, .inl x6] [] (mI h I) := by
  refine (Go_aload (h := mI h I) (y := 315) (ip := 619) (a := 0) (b := 3) (c := 0) (by decide +kernel) rfl).trans ?_
  refine (Go_const (h := mI h I) (y := 315) (ip := 620) (a := 0) (b := 0) (c := 0) (by decide +kernel)).trans ?_
  refine (Go_ldl (h := mI h I) (y := 315) (ip := 621) (a := 0) (c := 0) (by decide +kernel) (p0) (by decide)).trans ?_
  refine (Go_iload (h := mI h I) (y := 315) (ip := 622) (a := 0) (b := 6) (c := 0) (by decide +kernel) rfl).trans ?_
  refine (Go_i2l (h := mI h I) (y := 315) (ip := 623) (a := 0) (b := 0) (c := 0) (by decide +kernel)).trans ?_
  refine (Go_lcmp (h := mI h I) (y := 315) (ip := 624) (a := 0) (b := 0) (c := 0) (by decide +kernel)).trans ?_
  refine (Go_ifeq (y := 315) (ip := 625) (a := 0) (c := 628) (by decide +kernel)).trans ?_
  rfl

theorem b315_626 {h : HP} {I : Nat → Int → Int} {x4 : Int} {x5 : Int} {x6 : Int} : Go 315 626 [.inr (.inl (some 0)), .inr (.inl (some 1)), .inr (.inl (some 94)), .inr (.inl (some 139)), .inl x4, .inl x5, .inl x6] [] (mI h I) = some (mI h I, .inl (some (.inl 0))) := by
  refine (Go_const (h := mI h I) (y := 315) (ip := 626) (a := 0) (b := 0) (c := 0) (by decide +kernel)).trans ?_
  refine (Go_iret (h := mI h I) (y := 315) (ip := 627) (a := 0) (b := 0) (c := 0) (by decide +kernel) (Or.inr ⟨rfl, by decide⟩)).trans ?_
  rfl

theorem b315_628 {h : HP} {I : Nat → Int → Int} {x4 : Int} {x5 : Int} {x6 : Int} : Go 315 628 [.inr (.inl (some 0)), .inr (.inl (some 1)), .inr (.inl (some 94)), .inr (.inl (some 139)), .inl x4, .inl x5, .inl x6] [] (mI h I) = Go 315 1826 [.inr (.inl (some 0)), .inr (.inl (some 1)), .inr (.inl (some 94)), .inr (.inl (some 139)), .inl x4, .inl x5, .inl x6] [] (mI h I) := by
  refine (Go_goto (h := mI h I) (y := 315) (ip := 628) (a := 0) (b := 0) (c := 1826) (by decide +kernel)).trans ?_
  rfl

theorem b315_629 {h : HP} {I : Nat → Int → Int} {x4 : Int} {v5 : MV} {v6 : MV} {L : Int} (p0 : -2147483648 ≤ x4 + 1 ∧ x4 + 1 < 2147483648) (p1 : hK h 0 = (6, L)) (p2 : 0 ≤ x4 + 1 ∧ x4 + 1 < L) (p3 : -2147483648 ≤ x4 + 2 ∧ x4 + 2 < 2147483648) (p4 : 0 ≤ x4 + 2 ∧ x4 + 2 < L) (p5 : -2147483648 ≤ x4 + 3 ∧ x4 + 3 < 2147483648) (p6 : 0 ≤ x4 + 3 ∧ x4 + 3 < L) (p7 : -2147483648 ≤ x4 + 4 ∧ x4 + 4 < 2147483648) (p8 : 0 ≤ x4 + 4 ∧ x4 + 4 < L) : Go 315 629 [.inr (.inl (some 0)), .inr (.inl (some 1)), .inr (.inl (some 94)), .inr (.inl (some 139)), .inl x4, v5, v6] [] (mI h I) = caln 315 [.inr (.inl (some 0)), .inr (.inl (some 1)), .inr (.inl (some 94)), .inr (.inl (some 139)), .inl x4, v5, v6] [] 652 (Go 289 0 [.inr (.inl (some 1)), .inl (I 0 (x4 + 1)), .inl (I 0 (x4 + 2)), .inl (I 0 (x4 + 3)), .inl (I 0 (x4 + 4)), .inr (.inl (some 139)), vU] [] (mI h I)) := by
  refine (Go_aload (h := mI h I) (y := 315) (ip := 629) (a := 0) (b := 1) (c := 0) (by decide +kernel) rfl).trans ?_
  refine (Go_aload (h := mI h I) (y := 315) (ip := 630) (a := 0) (b := 0) (c := 0) (by decide +kernel) rfl).trans ?_
  refine (Go_iload (h := mI h I) (y := 315) (ip := 631) (a := 0) (b := 4) (c := 0) (by decide +kernel) rfl).trans ?_
  refine (Go_const (h := mI h I) (y := 315) (ip := 632) (a := 1) (b := 0) (c := 0) (by decide +kernel)).trans ?_
  refine (Go_ar (op := 4) (x := x4 + 1) (h := mI h I) (y := 315) (ip := 633) (a := 0) (b := 0) (c := 0) (by decide +kernel) rfl (zar4 p0)).trans ?_
  refine (Go_ald (h := mI h I) (y := 315) (ip := 634) (a := 0) (b := 0) (c := 0) (by decide +kernel) rfl (p1) rfl p2).trans ?_
  refine (Go_aload (h := mI h I) (y := 315) (ip := 635) (a := 0) (b := 0) (c := 0) (by decide +kernel) rfl).trans ?_
  refine (Go_iload (h := mI h I) (y := 315) (ip := 636) (a := 0) (b := 4) (c := 0) (by decide +kernel) rfl).trans ?_
  refine (Go_const (h := mI h I) (y := 315) (ip := 637) (a := 2) (b := 0) (c := 0) (by decide +kernel)).trans ?_
  refine (Go_ar (op := 4) (x := x4 + 2) (h := mI h I) (y := 315) (ip := 638) (a := 0) (b := 0) (c := 0) (by decide +kernel) rfl (zar4 p3)).trans ?_
  refine (Go_ald (h := mI h I) (y := 315) (ip := 639) (a := 0) (b := 0) (c := 0) (by decide +kernel) rfl (p1) rfl p4).trans ?_
  refine (Go_aload (h := mI h I) (y := 315) (ip := 640) (a := 0) (b := 0) (c := 0) (by decide +kernel) rfl).trans ?_
  refine (Go_iload (h := mI h I) (y := 315) (ip := 641) (a := 0) (b := 4) (c := 0) (by decide +kernel) rfl).trans ?_
  refine (Go_const (h := mI h I) (y := 315) (ip := 642) (a := 3) (b := 0) (c := 0) (by decide +kernel)).trans ?_
  refine (Go_ar (op := 4) (x := x4 + 3) (h := mI h I) (y := 315) (ip := 643) (a := 0) (b := 0) (c := 0) (by decide +kernel) rfl (zar4 p5)).trans ?_
  refine (Go_ald (h := mI h I) (y := 315) (ip := 644) (a := 0) (b := 0) (c := 0) (by decide +kernel) rfl (p1) rfl p6).trans ?_
  refine (Go_aload (h := mI h I) (y := 315) (ip := 645) (a := 0) (b := 0) (c := 0) (by decide +kernel) rfl).trans ?_
  refine (Go_iload (h := mI h I) (y := 315) (ip := 646) (a := 0) (b := 4) (c := 0) (by decide +kernel) rfl).trans ?_
  refine (Go_const (h := mI h I) (y := 315) (ip := 647) (a := 4) (b := 0) (c := 0) (by decide +kernel)).trans ?_
  refine (Go_ar (op := 4) (x := x4 + 4) (h := mI h I) (y := 315) (ip := 648) (a := 0) (b := 0) (c := 0) (by decide +kernel) rfl (zar4 p7)).trans ?_
  refine (Go_ald (h := mI h I) (y := 315) (ip := 649) (a := 0) (b := 0) (c := 0) (by decide +kernel) rfl (p1) rfl p8).trans ?_
  refine (Go_aload (h := mI h I) (y := 315) (ip := 650) (a := 0) (b := 3) (c := 0) (by decide +kernel) rfl).trans ?_
  refine (Go_call2 (h := mI h I) (y := 315) (ip := 651) (a := 307) (z := 289) (c := 1) (as := [.inr (.inl (some 1)), .inl (I 0 (x4 + 1)), .inl (I 0 (x4 + 2)), .inl (I 0 (x4 + 3)), .inl (I 0 (x4 + 4)), .inr (.inl (some 139))]) (rest := []) (by decide +kernel) (by decide +kernel) rfl rfl rfl rfl).trans ?_
  rfl

theorem b315_652 {h : HP} {I : Nat → Int → Int} {x4 : Int} {v5 : MV} {v6 : MV} {sx0 : Int} {L : Int} (p0 : -2147483648 ≤ x4 + 1 ∧ x4 + 1 < 2147483648) (p1 : hK h 0 = (6, L)) (p2 : 0 ≤ x4 + 1 ∧ x4 + 1 < L) (p3 : -2147483648 ≤ x4 + 2 ∧ x4 + 2 < 2147483648) (p4 : 0 ≤ x4 + 2 ∧ x4 + 2 < L) (p5 : -2147483648 ≤ x4 + 3 ∧ x4 + 3 < 2147483648) (p6 : 0 ≤ x4 + 3 ∧ x4 + 3 < L) (p7 : -2147483648 ≤ x4 + 4 ∧ x4 + 4 < 2147483648) (p8 : 0 ≤ x4 + 4 ∧ x4 + 4 < L) (p9 : LX 11 h 94) : Go 315 652 [.inr (.inl (some 0)), .inr (.inl (some 1)), .inr (.inl (some 94)), .inr (.inl (some 139)), .inl x4, v5, v6] [.inl sx0] (mI h I) = caln 315 [.inr (.inl (some 0)), .inr (.inl (some 1)), .inr (.inl (some 94)), .inr (.inl (some 139)), .inl x4, .inl sx0, v6] [] 675 (Go 217 0 [.inr (.inl (some 94)), .inl (I 0 (x4 + 1)), .inl (I 0 (x4 + 2)), .inl (I 0 (x4 + 3)), .inl (I 0 (x4 + 4)), vU, vU, vU] [] (mI h I)) := by
  refine (Go_istore (h := mI h I) (y := 315) (ip := 652) (a := 0) (b := 5) (c := 0) (by decide +kernel) rfl).trans ?_
  refine (Go_aload (h := mI h I) (y := 315) (ip := 653) (a := 0) (b := 2) (c := 0) (by decide +kernel) rfl).trans ?_
  refine (Go_aload (h := mI h I) (y := 315) (ip := 654) (a := 0) (b := 0) (c := 0) (by decide +kernel) rfl).trans ?_
  refine (Go_iload (h := mI h I) (y := 315) (ip := 655) (a := 0) (b := 4) (c := 0) (by decide +kernel) rfl).trans ?_
  refine (Go_const (h := mI h I) (y := 315) (ip := 656) (a := 1) (b := 0) (c := 0) (by decide +kernel)).trans ?_
  refine (Go_ar (op := 4) (x := x4 + 1) (h := mI h I) (y := 315) (ip := 657) (a := 0) (b := 0) (c := 0) (by decide +kernel) rfl (zar4 p0)).trans ?_
  refine (Go_ald (h := mI h I) (y := 315) (ip := 658) (a := 0) (b := 0) (c := 0) (by decide +kernel) rfl (p1) rfl p2).trans ?_
  refine (Go_aload (h := mI h I) (y := 315) (ip := 659) (a := 0) (b := 0) (c := 0) (by decide +kernel) rfl).trans ?_
  refine (Go_iload (h := mI h I) (y := 315) (ip := 660) (a := 0) (b := 4) (c := 0) (by decide +kernel) rfl).trans ?_
  refine (Go_const (h := mI h I) (y := 315) (ip := 661) (a := 2) (b := 0) (c := 0) (by decide +kernel)).trans ?_
  refine (Go_ar (op := 4) (x := x4 + 2) (h := mI h I) (y := 315) (ip := 662) (a := 0) (b := 0) (c := 0) (by decide +kernel) rfl (zar4 p3)).trans ?_
  refine (Go_ald (h := mI h I) (y := 315) (ip := 663) (a := 0) (b := 0) (c := 0) (by decide +kernel) rfl (p1) rfl p4).trans ?_
  refine (Go_aload (h := mI h I) (y := 315) (ip := 664) (a := 0) (b := 0) (c := 0) (by decide +kernel) rfl).trans ?_
  refine (Go_iload (h := mI h I) (y := 315) (ip := 665) (a := 0) (b := 4) (c := 0) (by decide +kernel) rfl).trans ?_
  refine (Go_const (h := mI h I) (y := 315) (ip := 666) (a := 3) (b := 0) (c := 0) (by decide +kernel)).trans ?_
  refine (Go_ar (op := 4) (x := x4 + 3) (h := mI h I) (y := 315) (ip := 667) (a := 0) (b := 0) (c := 0) (by decide +kernel) rfl (zar4 p5)).trans ?_
  refine (Go_ald (h := mI h I) (y := 315) (ip := 668) (a := 0) (b := 0) (c := 0) (by decide +kernel) rfl (p1) rfl p6).trans ?_
  refine (Go_aload (h := mI h I) (y := 315) (ip := 669) (a := 0) (b := 0) (c := 0) (by decide +kernel) rfl).trans ?_
  refine (Go_iload (h := mI h I) (y := 315) (ip := 670) (a := 0) (b := 4) (c := 0) (by decide +kernel) rfl).trans ?_
  refine (Go_const (h := mI h I) (y := 315) (ip := 671) (a := 4) (b := 0) (c := 0) (by decide +kernel)).trans ?_
  refine (Go_ar (op := 4) (x := x4 + 4) (h := mI h I) (y := 315) (ip := 672) (a := 0) (b := 0) (c := 0) (by decide +kernel) rfl (zar4 p7)).trans ?_
  refine (Go_ald (h := mI h I) (y := 315) (ip := 673) (a := 0) (b := 0) (c := 0) (by decide +kernel) rfl (p1) rfl p8).trans ?_
  refine (Go_call2 (h := mI h I) (y := 315) (ip := 674) (a := 308) (z := 217) (c := 0) (as := [.inr (.inl (some 94)), .inl (I 0 (x4 + 1)), .inl (I 0 (x4 + 2)), .inl (I 0 (x4 + 3)), .inl (I 0 (x4 + 4))]) (rest := []) (by decide +kernel) (by decide +kernel) rfl rfl (zrecv_v rfl (LX_t p9)) rfl).trans ?_
  rfl

theorem b315_675 {h : HP} {I : Nat → Int → Int} {x4 : Int} {x5 : Int} {v6 : MV} {sx0 : Int} (p0 : LX 11 h 94) : Go 315 675 [.inr (.inl (some 0)), .inr (.inl (some 1)), .inr (.inl (some 94)), .inr (.inl (some 139)), .inl x4, .inl x5, v6] [.inl sx0] (mI h I) = caln 315 [.inr (.inl (some 0)), .inr (.inl (some 1)), .inr (.inl (some 94)), .inr (.inl (some 139)), .inl x4, .inl x5, .inl sx0] [] 678 (Go 162 0 [.inr (.inl (some 94))] [] (mI h I)) := by
  refine (Go_istore (h := mI h I) (y := 315) (ip := 675) (a := 0) (b := 6) (c := 0) (by decide +kernel) rfl).trans ?_
  refine (Go_aload (h := mI h I) (y := 315) (ip := 676) (a := 0) (b := 2) (c := 0) (by decide +kernel) rfl).trans ?_
  refine (Go_call2 (h := mI h I) (y := 315) (ip := 677) (a := 276) (z := 162) (c := 0) (as := [.inr (.inl (some 94))]) (rest := []) (by decide +kernel) (by decide +kernel) rfl rfl (zrecv_v rfl (LX_t p0)) rfl).trans ?_
  rfl

theorem b315_678 {h : HP} {I : Nat → Int → Int} {x4 : Int} {x5 : Int} {x6 : Int} {sx0 : Int} : Go 315 678 [.inr (.inl (some 0)), .inr (.inl (some 1)), .inr (.inl (some 94)), .inr (.inl (some 139)), .inl x4, .inl x5, .inl x6] [.inl sx0] (mI h I) = if sx0 = x5 then Go 315 682 [.inr (.inl (some 0)), .inr (.inl (some 1)), .inr (.inl (some 94)), .inr (.inl (some 139)), .inl x4, .inl x5, .inl x6] [] (mI h I) else Go 315 680 [.inr (.inl (some 0)), .inr (.inl (some 1)), .inr (.inl (some 94)), .inr (.inl (some 139)), .inl x4, .inl x5, .inl x6] [] (mI h I) := by
  refine (Go_iload (h := mI h I) (y := 315) (ip := 678) (a := 0) (b := 5) (c := 0) (by decide +kernel) rfl).trans ?_
  refine (Go_cmpeq (y := 315) (ip := 679) (a := 0) (c := 682) (by decide +kernel)).trans ?_
  rfl

theorem b315_680 {h : HP} {I : Nat → Int → Int} {x4 : Int} {x5 : Int} {x6 : Int} : Go 315 680 [.inr (.inl (some 0)), .inr (.inl (some 1)), .inr (.inl (some 94)), .inr (.inl (some 139)), .inl x4, .inl x5, .inl x6] [] (mI h I) = some (mI h I, .inl (some (.inl 0))) := by
  refine (Go_const (h := mI h I) (y := 315) (ip := 680) (a := 0) (b := 0) (c := 0) (by decide +kernel)).trans ?_
  refine (Go_iret (h := mI h I) (y := 315) (ip := 681) (a := 0) (b := 0) (c := 0) (by decide +kernel) (Or.inr ⟨rfl, by decide⟩)).trans ?_
  rfl

theorem b315_682 {h : HP} {I : Nat → Int → Int} {x4 : Int} {x5 : Int} {x6 : Int} : Go 315 682 [.inr (.inl (some 0)), .inr (.inl (some 1)), .inr (.inl (some 94)), .inr (.inl (some 139)), .inl x4, .inl x5, .inl x6] [] (mI h I) = if x5 ≠ 0 then Go 315 693 [.inr (.inl (some 0)), .inr (.inl (some 1)), .inr (.inl (some 94)), .inr (.inl (some 139)), .inl x4, .inl x5, .inl x6] [] (mI h I) else Go 315 684 [.inr (.inl (some 0)), .inr (.inl (some 1)), .inr (.inl (some 94)), .inr (.inl (some 139)), .inl x4, .inl x5, .inl x6] [] (mI h I) := by
  refine (Go_iload (h := mI h I) (y := 315) (ip := 682) (a := 0) (b := 5) (c := 0) (by decide +kernel) rfl).trans ?_
  refine (Go_ifne (y := 315) (ip := 683) (a := 0) (c := 693) (by decide +kernel)).trans ?_
  rfl

theorem b315_684 {h : HP} {I : Nat → Int → Int} {x4 : Int} {x5 : Int} {x6 : Int} (p0 : hK h 139 = (2, 1)) : Go 315 684 [.inr (.inl (some 0)), .inr (.inl (some 1)), .inr (.inl (some 94)), .inr (.inl (some 139)), .inl x4, .inl x5, .inl x6] [] (mI h I) = if (if I 139 0 < x6 then -1 else if I 139 0 = x6 then 0 else 1 : Int) = 0 then Go 315 693 [.inr (.inl (some 0)), .inr (.inl (some 1)), .inr (.inl (some 94)), .inr (.inl (some 139)), .inl x4, .inl x5, .inl x6] [] (mI h I) else Go 315 691 [.inr (.inl (some 0)), .inr (.inl (some 1)), .inr (.inl (some 94)), .inr (.inl (some 139)), .inl x4, .inl x5, .inl x6] [] (mI h I) := by
  refine (Go_aload (h := mI h I) (y := 315) (ip := 684) (a := 0) (b := 3) (c := 0) (by decide +kernel) rfl).trans ?_
  refine (Go_const (h := mI h I) (y := 315) (ip := 685) (a := 0) (b := 0) (c := 0) (by decide +kernel)).trans ?_
  refine (Go_ldl (h := mI h I) (y := 315) (ip := 686) (a := 0) (c := 0) (by decide +kernel) (p0) (by decide)).trans ?_
  refine (Go_iload (h := mI h I) (y := 315) (ip := 687) (a := 0) (b := 6) (c := 0) (by decide +kernel) rfl).trans ?_
  refine (Go_i2l (h := mI h I) (y := 315) (ip := 688) (a := 0) (b := 0) (c := 0) (by decide +kernel)).trans ?_
  refine (Go_lcmp (h := mI h I) (y := 315) (ip := 689) (a := 0) (b := 0) (c := 0) (by decide +kernel)).trans ?_
  refine (Go_ifeq (y := 315) (ip := 690) (a := 0) (c := 693) (by decide +kernel)).trans ?_
  rfl

theorem b315_691 {h : HP} {I : Nat → Int → Int} {x4 : Int} {x5 : Int} {x6 : Int} : Go 315 691 [.inr (.inl (some 0)), .inr (.inl (some 1)), .inr (.inl (some 94)), .inr (.inl (some 139)), .inl x4, .inl x5, .inl x6] [] (mI h I) = some (mI h I, .inl (some (.inl 0))) := by
  refine (Go_const (h := mI h I) (y := 315) (ip := 691) (a := 0) (b := 0) (c := 0) (by decide +kernel)).trans ?_
  refine (Go_iret (h := mI h I) (y := 315) (ip := 692) (a := 0) (b := 0) (c := 0) (by decide +kernel) (Or.inr ⟨rfl, by decide⟩)).trans ?_
  rfl

theorem b315_693 {h : HP} {I : Nat → Int → Int} {x4 : Int} {x5 : Int} {x6 : Int} : Go 315 693 [.inr (.inl (some 0)), .inr (.inl (some 1)), .inr (.inl (some 94)), .inr (.inl (some 139)), .inl x4, .inl x5, .inl x6] [] (mI h I) = Go 315 1826 [.inr (.inl (some 0)), .inr (.inl (some 1)), .inr (.inl (some 94)), .inr (.inl (some 139)), .inl x4, .inl x5, .inl x6] [] (mI h I) := by
  refine (Go_goto (h := mI h I) (y := 315) (ip := 693) (a := 0) (b := 0) (c := 1826) (by decide +kernel)).trans ?_
  rfl

theorem b315_694 {h : HP} {I : Nat → Int → Int} {x4 : Int} {v5 : MV} {v6 : MV} {L : Int} (p0 : -2147483648 ≤ x4 + 1 ∧ x4 + 1 < 2147483648) (p1 : hK h 0 = (6, L)) (p2 : 0 ≤ x4 + 1 ∧ x4 + 1 < L) : Go 315 694 [.inr (.inl (some 0)), .inr (.inl (some 1)), .inr (.inl (some 94)), .inr (.inl (some 139)), .inl x4, v5, v6] [] (mI h I) = caln 315 [.inr (.inl (some 0)), .inr (.inl (some 1)), .inr (.inl (some 94)), .inr (.inl (some 139)), .inl x4, v5, v6] [] 702 (Go 290 0 [.inr (.inl (some 1)), .inl (I 0 (x4 + 1)), .inr (.inl (some 139)), vU] [] (mI h I)) := by
  refine (Go_aload (h := mI h I) (y := 315) (ip := 694) (a := 0) (b := 1) (c := 0) (by decide +kernel) rfl).trans ?_
  refine (Go_aload (h := mI h I) (y := 315) (ip := 695) (a := 0) (b := 0) (c := 0) (by decide +kernel) rfl).trans ?_
  refine (Go_iload (h := mI h I) (y := 315) (ip := 696) (a := 0) (b := 4) (c := 0) (by decide +kernel) rfl).trans ?_
  refine (Go_const (h := mI h I) (y := 315) (ip := 697) (a := 1) (b := 0) (c := 0) (by decide +kernel)).trans ?_
  refine (Go_ar (op := 4) (x := x4 + 1) (h := mI h I) (y := 315) (ip := 698) (a := 0) (b := 0) (c := 0) (by decide +kernel) rfl (zar4 p0)).trans ?_
  refine (Go_ald (h := mI h I) (y := 315) (ip := 699) (a := 0) (b := 0) (c := 0) (by decide +kernel) rfl (p1) rfl p2).trans ?_
  refine (Go_aload (h := mI h I) (y := 315) (ip := 700) (a := 0) (b := 3) (c := 0) (by decide +kernel) rfl).trans ?_
  refine (Go_call2 (h := mI h I) (y := 315) (ip := 701) (a := 309) (z := 290) (c := 1) (as := [.inr (.inl (some 1)), .inl (I 0 (x4 + 1)), .inr (.inl (some 139))]) (rest := []) (by decide +kernel) (by decide +kernel) rfl rfl rfl rfl).trans ?_
  rfl

theorem b315_702 {h : HP} {I : Nat → Int → Int} {x4 : Int} {v5 : MV} {v6 : MV} {sx0 : Int} {L : Int} (p0 : -2147483648 ≤ x4 + 1 ∧ x4 + 1 < 2147483648) (p1 : hK h 0 = (6, L)) (p2 : 0 ≤ x4 + 1 ∧ x4 + 1 < L) (p3 : LX 11 h 94) : Go 315 702 [.inr (.inl (some 0)), .inr (.inl (some 1)), .inr (.inl (some 94)), .inr (.inl (some 139)), .inl x4, v5, v6] [.inl sx0] (mI h I) = caln 315 [.inr (.inl (some 0)), .inr (.inl (some 1)), .inr (.inl (some 94)), .inr (.inl (some 139)), .inl x4, .inl sx0, v6] [] 710 (Go 219 0 [.inr (.inl (some 94)), .inl (I 0 (x4 + 1)), vU, vU, vU, vU] [] (mI h I)) := by
  refine (Go_istore (h := mI h I) (y := 315) (ip := 702) (a := 0) (b := 5) (c := 0) (by decide +kernel) rfl).trans ?_
  refine (Go_aload (h := mI h I) (y := 315) (ip := 703) (a := 0) (b := 2) (c := 0) (by decide +kernel) rfl).trans ?_
  refine (Go_aload (h := mI h I) (y := 315) (ip := 704) (a := 0) (b := 0) (c := 0) (by decide +kernel) rfl).trans ?_
  refine (Go_iload (h := mI h I) (y := 315) (ip := 705) (a := 0) (b := 4) (c := 0) (by decide +kernel) rfl).trans ?_
  refine (Go_const (h := mI h I) (y := 315) (ip := 706) (a := 1) (b := 0) (c := 0) (by decide +kernel)).trans ?_
  refine (Go_ar (op := 4) (x := x4 + 1) (h := mI h I) (y := 315) (ip := 707) (a := 0) (b := 0) (c := 0) (by decide +kernel) rfl (zar4 p0)).trans ?_
  refine (Go_ald (h := mI h I) (y := 315) (ip := 708) (a := 0) (b := 0) (c := 0) (by decide +kernel) rfl (p1) rfl p2).trans ?_
  refine (Go_call2 (h := mI h I) (y := 315) (ip := 709) (a := 310) (z := 219) (c := 0) (as := [.inr (.inl (some 94)), .inl (I 0 (x4 + 1))]) (rest := []) (by decide +kernel) (by decide +kernel) rfl rfl (zrecv_v rfl (LX_t p3)) rfl).trans ?_
  rfl

theorem b315_710 {h : HP} {I : Nat → Int → Int} {x4 : Int} {x5 : Int} {v6 : MV} {sx0 : Int} (p0 : LX 11 h 94) : Go 315 710 [.inr (.inl (some 0)), .inr (.inl (some 1)), .inr (.inl (some 94)), .inr (.inl (some 139)), .inl x4, .inl x5, v6] [.inl sx0] (mI h I) = caln 315 [.inr (.inl (some 0)), .inr (.inl (some 1)), .inr (.inl (some 94)), .inr (.inl (some 139)), .inl x4, .inl x5, .inl sx0] [] 713 (Go 162 0 [.inr (.inl (some 94))] [] (mI h I)) := by
  refine (Go_istore (h := mI h I) (y := 315) (ip := 710) (a := 0) (b := 6) (c := 0) (by decide +kernel) rfl).trans ?_
  refine (Go_aload (h := mI h I) (y := 315) (ip := 711) (a := 0) (b := 2) (c := 0) (by decide +kernel) rfl).trans ?_
  refine (Go_call2 (h := mI h I) (y := 315) (ip := 712) (a := 276) (z := 162) (c := 0) (as := [.inr (.inl (some 94))]) (rest := []) (by decide +kernel) (by decide +kernel) rfl rfl (zrecv_v rfl (LX_t p0)) rfl).trans ?_
  rfl

theorem b315_713 {h : HP} {I : Nat → Int → Int} {x4 : Int} {x5 : Int} {x6 : Int} {sx0 : Int} : Go 315 713 [.inr (.inl (some 0)), .inr (.inl (some 1)), .inr (.inl (some 94)), .inr (.inl (some 139)), .inl x4, .inl x5, .inl x6] [.inl sx0] (mI h I) = if sx0 = x5 then Go 315 717 [.inr (.inl (some 0)), .inr (.inl (some 1)), .inr (.inl (some 94)), .inr (.inl (some 139)), .inl x4, .inl x5, .inl x6] [] (mI h I) else Go 315 715 [.inr (.inl (some 0)), .inr (.inl (some 1)), .inr (.inl (some 94)), .inr (.inl (some 139)), .inl x4, .inl x5, .inl x6] [] (mI h I) := by
  refine (Go_iload (h := mI h I) (y := 315) (ip := 713) (a := 0) (b := 5) (c := 0) (by decide +kernel) rfl).trans ?_
  refine (Go_cmpeq (y := 315) (ip := 714) (a := 0) (c := 717) (by decide +kernel)).trans ?_
  rfl

theorem b315_715 {h : HP} {I : Nat → Int → Int} {x4 : Int} {x5 : Int} {x6 : Int} : Go 315 715 [.inr (.inl (some 0)), .inr (.inl (some 1)), .inr (.inl (some 94)), .inr (.inl (some 139)), .inl x4, .inl x5, .inl x6] [] (mI h I) = some (mI h I, .inl (some (.inl 0))) := by
  refine (Go_const (h := mI h I) (y := 315) (ip := 715) (a := 0) (b := 0) (c := 0) (by decide +kernel)).trans ?_
  refine (Go_iret (h := mI h I) (y := 315) (ip := 716) (a := 0) (b := 0) (c := 0) (by decide +kernel) (Or.inr ⟨rfl, by decide⟩)).trans ?_
  rfl

theorem b315_717 {h : HP} {I : Nat → Int → Int} {x4 : Int} {x5 : Int} {x6 : Int} : Go 315 717 [.inr (.inl (some 0)), .inr (.inl (some 1)), .inr (.inl (some 94)), .inr (.inl (some 139)), .inl x4, .inl x5, .inl x6] [] (mI h I) = if x5 ≠ 0 then Go 315 731 [.inr (.inl (some 0)), .inr (.inl (some 1)), .inr (.inl (some 94)), .inr (.inl (some 139)), .inl x4, .inl x5, .inl x6] [] (mI h I) else Go 315 719 [.inr (.inl (some 0)), .inr (.inl (some 1)), .inr (.inl (some 94)), .inr (.inl (some 139)), .inl x4, .inl x5, .inl x6] [] (mI h I) := by
  refine (Go_iload (h := mI h I) (y := 315) (ip := 717) (a := 0) (b := 5) (c := 0) (by decide +kernel) rfl).trans ?_
  refine (Go_ifne (y := 315) (ip := 718) (a := 0) (c := 731) (by decide +kernel)).trans ?_
  rfl

theorem b315_719 {h : HP} {I : Nat → Int → Int} {x4 : Int} {x5 : Int} {x6 : Int} (p0 : hK h 139 = (2, 1)) : Go 315 719 [.inr (.inl (some 0)), .inr (.inl (some 1)), .inr (.inl (some 94)), .inr (.inl (some 139)), .inl x4, .inl x5, .inl x6] [] (mI h I) = if x6 = 0 then Go 315 726 [.inr (.inl (some 0)), .inr (.inl (some 1)), .inr (.inl (some 94)), .inr (.inl (some 139)), .inl x4, .inl x5, .inl x6] [.inr (.inr (I 139 0))] (mI h I) else Go 315 724 [.inr (.inl (some 0)), .inr (.inl (some 1)), .inr (.inl (some 94)), .inr (.inl (some 139)), .inl x4, .inl x5, .inl x6] [.inr (.inr (I 139 0))] (mI h I) := by
  refine (Go_aload (h := mI h I) (y := 315) (ip := 719) (a := 0) (b := 3) (c := 0) (by decide +kernel) rfl).trans ?_
  refine (Go_const (h := mI h I) (y := 315) (ip := 720) (a := 0) (b := 0) (c := 0) (by decide +kernel)).trans ?_
  refine (Go_ldl (h := mI h I) (y := 315) (ip := 721) (a := 0) (c := 0) (by decide +kernel) (p0) (by decide)).trans ?_
  refine (Go_iload (h := mI h I) (y := 315) (ip := 722) (a := 0) (b := 6) (c := 0) (by decide +kernel) rfl).trans ?_
  refine (Go_ifeq (y := 315) (ip := 723) (a := 0) (c := 726) (by decide +kernel)).trans ?_
  rfl

theorem b315_724 {h : HP} {I : Nat → Int → Int} {x4 : Int} {x5 : Int} {x6 : Int} {sw0 : Int} : Go 315 724 [.inr (.inl (some 0)), .inr (.inl (some 1)), .inr (.inl (some 94)), .inr (.inl (some 139)), .inl x4, .inl x5, .inl x6] [.inr (.inr sw0)] (mI h I) = Go 315 727 [.inr (.inl (some 0)), .inr (.inl (some 1)), .inr (.inl (some 94)), .inr (.inl (some 139)), .inl x4, .inl x5, .inl x6] [.inr (.inr 1), .inr (.inr sw0)] (mI h I) := by
  refine (Go_lconst (h := mI h I) (y := 315) (ip := 724) (a := 1) (b := 0) (c := 0) (by decide +kernel)).trans ?_
  refine (Go_goto (h := mI h I) (y := 315) (ip := 725) (a := 0) (b := 0) (c := 727) (by decide +kernel)).trans ?_
  rfl

theorem b315_726 {h : HP} {I : Nat → Int → Int} {x4 : Int} {x5 : Int} {x6 : Int} {sw0 : Int} : Go 315 726 [.inr (.inl (some 0)), .inr (.inl (some 1)), .inr (.inl (some 94)), .inr (.inl (some 139)), .inl x4, .inl x5, .inl x6] [.inr (.inr sw0)] (mI h I) = Go 315 727 [.inr (.inl (some 0)), .inr (.inl (some 1)), .inr (.inl (some 94)), .inr (.inl (some 139)), .inl x4, .inl x5, .inl x6] [.inr (.inr 0), .inr (.inr sw0)] (mI h I) := by
  refine (Go_lconst (h := mI h I) (y := 315) (ip := 726) (a := 0) (b := 0) (c := 0) (by decide +kernel)).trans ?_
  rfl

theorem b315_727 {h : HP} {I : Nat → Int → Int} {x4 : Int} {x5 : Int} {x6 : Int} {sw0 : Int} {sw1 : Int} : Go 315 727 [.inr (.inl (some 0)), .inr (.inl (some 1)), .inr (.inl (some 94)), .inr (.inl (some 139)), .inl x4, .inl x5, .inl x6] [.inr (.inr sw1), .inr (.inr sw0)] (mI h I) = if (if sw0 < sw1 then -1 else if sw0 = sw1 then 0 else 1 : Int) = 0 then Go 315 731 [.inr (.inl (some 0)), .inr (.inl (some 1)), .inr (.inl (some 94)), .inr (.inl (some 139)), .inl x4, .inl x5, .inl x6] [] (mI h I) else Go 315 729 [.inr (.inl (some 0)), .inr (.inl (some 1)), .inr (.inl (some 94)), .inr (.inl (some 139)), .inl x4, .inl x5, .inl x6] [] (mI h I) := by
  refine (Go_lcmp (h := mI h I) (y := 315) (ip := 727) (a := 0) (b := 0) (c := 0) (by decide +kernel)).trans ?_
  refine (Go_ifeq (y := 315) (ip := 728) (a := 0) (c := 731) (by decide +kernel)).trans ?_
  rfl

theorem b315_729 {h : HP} {I : Nat → Int → Int} {x4 : Int} {x5 : Int} {x6 : Int} : Go 315 729 [.inr (.inl (some 0)), .inr (.inl (some 1)), .inr (.inl (some 94)), .inr (.inl (some 139)), .inl x4, .inl x5, .inl x6] [] (mI h I) = some (mI h I, .inl (some (.inl 0))) := by
  refine (Go_const (h := mI h I) (y := 315) (ip := 729) (a := 0) (b := 0) (c := 0) (by decide +kernel)).trans ?_
  refine (Go_iret (h := mI h I) (y := 315) (ip := 730) (a := 0) (b := 0) (c := 0) (by decide +kernel) (Or.inr ⟨rfl, by decide⟩)).trans ?_
  rfl

theorem b315_731 {h : HP} {I : Nat → Int → Int} {x4 : Int} {x5 : Int} {x6 : Int} : Go 315 731 [.inr (.inl (some 0)), .inr (.inl (some 1)), .inr (.inl (some 94)), .inr (.inl (some 139)), .inl x4, .inl x5, .inl x6] [] (mI h I) = Go 315 1826 [.inr (.inl (some 0)), .inr (.inl (some 1)), .inr (.inl (some 94)), .inr (.inl (some 139)), .inl x4, .inl x5, .inl x6] [] (mI h I) := by
  refine (Go_goto (h := mI h I) (y := 315) (ip := 731) (a := 0) (b := 0) (c := 1826) (by decide +kernel)).trans ?_
  rfl

theorem b315_732 {h : HP} {I : Nat → Int → Int} {x4 : Int} {v5 : MV} {v6 : MV} {L : Int} (p0 : -2147483648 ≤ x4 + 1 ∧ x4 + 1 < 2147483648) (p1 : hK h 0 = (6, L)) (p2 : 0 ≤ x4 + 1 ∧ x4 + 1 < L) (p3 : -2147483648 ≤ x4 + 2 ∧ x4 + 2 < 2147483648) (p4 : 0 ≤ x4 + 2 ∧ x4 + 2 < L) : Go 315 732 [.inr (.inl (some 0)), .inr (.inl (some 1)), .inr (.inl (some 94)), .inr (.inl (some 139)), .inl x4, v5, v6] [] (mI h I) = caln 315 [.inr (.inl (some 0)), .inr (.inl (some 1)), .inr (.inl (some 94)), .inr (.inl (some 139)), .inl x4, v5, v6] [] 745 (Go 291 0 [.inr (.inl (some 1)), .inl (I 0 (x4 + 1)), .inl (I 0 (x4 + 2)), .inr (.inl (some 139)), vU] [] (mI h I)) := by
  refine (Go_aload (h := mI h I) (y := 315) (ip := 732) (a := 0) (b := 1) (c := 0) (by decide +kernel) rfl).trans ?_
  refine (Go_aload (h := mI h I) (y := 315) (ip := 733) (a := 0) (b := 0) (c := 0) (by decide +kernel) rfl).trans ?_
  refine (Go_iload (h := mI h I) (y := 315) (ip := 734) (a := 0) (b := 4) (c := 0) (by decide +kernel) rfl).trans ?_
  refine (Go_const (h := mI h I) (y := 315) (ip := 735) (a := 1) (b := 0) (c := 0) (by decide +kernel)).trans ?_
  refine (Go_ar (op := 4) (x := x4 + 1) (h := mI h I) (y := 315) (ip := 736) (a := 0) (b := 0) (c := 0) (by decide +kernel) rfl (zar4 p0)).trans ?_
  refine (Go_ald (h := mI h I) (y := 315) (ip := 737) (a := 0) (b := 0) (c := 0) (by decide +kernel) rfl (p1) rfl p2).trans ?_
  refine (Go_aload (h := mI h I) (y := 315) (ip := 738) (a := 0) (b := 0) (c := 0) (by decide +kernel) rfl).trans ?_
  refine (Go_iload (h := mI h I) (y := 315) (ip := 739) (a := 0) (b := 4) (c := 0) (by decide +kernel) rfl).trans ?_
  refine (Go_const (h := mI h I) (y := 315) (ip := 740) (a := 2) (b := 0) (c := 0) (by decide +kernel)).trans ?_
  refine (Go_ar (op := 4) (x := x4 + 2) (h := mI h I) (y := 315) (ip := 741) (a := 0) (b := 0) (c := 0) (by decide +kernel) rfl (zar4 p3)).trans ?_
  refine (Go_ald (h := mI h I) (y := 315) (ip := 742) (a := 0) (b := 0) (c := 0) (by decide +kernel) rfl (p1) rfl p4).trans ?_
  refine (Go_aload (h := mI h I) (y := 315) (ip := 743) (a := 0) (b := 3) (c := 0) (by decide +kernel) rfl).trans ?_
  refine (Go_call2 (h := mI h I) (y := 315) (ip := 744) (a := 311) (z := 291) (c := 1) (as := [.inr (.inl (some 1)), .inl (I 0 (x4 + 1)), .inl (I 0 (x4 + 2)), .inr (.inl (some 139))]) (rest := []) (by decide +kernel) (by decide +kernel) rfl rfl rfl rfl).trans ?_
  rfl

theorem b315_745 {h : HP} {I : Nat → Int → Int} {x4 : Int} {v5 : MV} {v6 : MV} {sx0 : Int} {L : Int} (p0 : -2147483648 ≤ x4 + 1 ∧ x4 + 1 < 2147483648) (p1 : hK h 0 = (6, L)) (p2 : 0 ≤ x4 + 1 ∧ x4 + 1 < L) (p3 : -2147483648 ≤ x4 + 2 ∧ x4 + 2 < 2147483648) (p4 : 0 ≤ x4 + 2 ∧ x4 + 2 < L) (p5 : LX 11 h 94) : Go 315 745 [.inr (.inl (some 0)), .inr (.inl (some 1)), .inr (.inl (some 94)), .inr (.inl (some 139)), .inl x4, v5, v6] [.inl sx0] (mI h I) = caln 315 [.inr (.inl (some 0)), .inr (.inl (some 1)), .inr (.inl (some 94)), .inr (.inl (some 139)), .inl x4, .inl sx0, v6] [] 758 (Go 221 0 [.inr (.inl (some 94)), .inl (I 0 (x4 + 1)), .inl (I 0 (x4 + 2))] [] (mI h I)) := by
  refine (Go_istore (h := mI h I) (y := 315) (ip := 745) (a := 0) (b := 5) (c := 0) (by decide +kernel) rfl).trans ?_
  refine (Go_aload (h := mI h I) (y := 315) (ip := 746) (a := 0) (b := 2) (c := 0) (by decide +kernel) rfl).trans ?_
  refine (Go_aload (h := mI h I) (y := 315) (ip := 747) (a := 0) (b := 0) (c := 0) (by decide +kernel) rfl).trans ?_
  refine (Go_iload (h := mI h I) (y := 315) (ip := 748) (a := 0) (b := 4) (c := 0) (by decide +kernel) rfl).trans ?_
  refine (Go_const (h := mI h I) (y := 315) (ip := 749) (a := 1) (b := 0) (c := 0) (by decide +kernel)).trans ?_
  refine (Go_ar (op := 4) (x := x4 + 1) (h := mI h I) (y := 315) (ip := 750) (a := 0) (b := 0) (c := 0) (by decide +kernel) rfl (zar4 p0)).trans ?_
  refine (Go_ald (h := mI h I) (y := 315) (ip := 751) (a := 0) (b := 0) (c := 0) (by decide +kernel) rfl (p1) rfl p2).trans ?_
  refine (Go_aload (h := mI h I) (y := 315) (ip := 752) (a := 0) (b := 0) (c := 0) (by decide +kernel) rfl).trans ?_
  refine (Go_iload (h := mI h I) (y := 315) (ip := 753) (a := 0) (b := 4) (c := 0) (by decide +kernel) rfl).trans ?_
  refine (Go_const (h := mI h I) (y := 315) (ip := 754) (a := 2) (b := 0) (c := 0) (by decide +kernel)).trans ?_
  refine (Go_ar (op := 4) (x := x4 + 2) (h := mI h I) (y := 315) (ip := 755) (a := 0) (b := 0) (c := 0) (by decide +kernel) rfl (zar4 p3)).trans ?_
  refine (Go_ald (h := mI h I) (y := 315) (ip := 756) (a := 0) (b := 0) (c := 0) (by decide +kernel) rfl (p1) rfl p4).trans ?_
  refine (Go_call2 (h := mI h I) (y := 315) (ip := 757) (a := 312) (z := 221) (c := 0) (as := [.inr (.inl (some 94)), .inl (I 0 (x4 + 1)), .inl (I 0 (x4 + 2))]) (rest := []) (by decide +kernel) (by decide +kernel) rfl rfl (zrecv_v rfl (LX_t p5)) rfl).trans ?_
  rfl

theorem b315_758 {h : HP} {I : Nat → Int → Int} {x4 : Int} {x5 : Int} {v6 : MV} {sx0 : Int} (p0 : LX 11 h 94) : Go 315 758 [.inr (.inl (some 0)), .inr (.inl (some 1)), .inr (.inl (some 94)), .inr (.inl (some 139)), .inl x4, .inl x5, v6] [.inl sx0] (mI h I) = caln 315 [.inr (.inl (some 0)), .inr (.inl (some 1)), .inr (.inl (some 94)), .inr (.inl (some 139)), .inl x4, .inl x5, .inl sx0] [] 761 (Go 162 0 [.inr (.inl (some 94))] [] (mI h I)) := by
  refine (Go_istore (h := mI h I) (y := 315) (ip := 758) (a := 0) (b := 6) (c := 0) (by decide +kernel) rfl).trans ?_
  refine (Go_aload (h := mI h I) (y := 315) (ip := 759) (a := 0) (b := 2) (c := 0) (by decide +kernel) rfl).trans ?_
  refine (Go_call2 (h := mI h I) (y := 315) (ip := 760) (a := 276) (z := 162) (c := 0) (as := [.inr (.inl (some 94))]) (rest := []) (by decide +kernel) (by decide +kernel) rfl rfl (zrecv_v rfl (LX_t p0)) rfl).trans ?_
  rfl

theorem b315_761 {h : HP} {I : Nat → Int → Int} {x4 : Int} {x5 : Int} {x6 : Int} {sx0 : Int} : Go 315 761 [.inr (.inl (some 0)), .inr (.inl (some 1)), .inr (.inl (some 94)), .inr (.inl (some 139)), .inl x4, .inl x5, .inl x6] [.inl sx0] (mI h I) = if sx0 = x5 then Go 315 765 [.inr (.inl (some 0)), .inr (.inl (some 1)), .inr (.inl (some 94)), .inr (.inl (some 139)), .inl x4, .inl x5, .inl x6] [] (mI h I) else Go 315 763 [.inr (.inl (some 0)), .inr (.inl (some 1)), .inr (.inl (some 94)), .inr (.inl (some 139)), .inl x4, .inl x5, .inl x6] [] (mI h I) := by
  refine (Go_iload (h := mI h I) (y := 315) (ip := 761) (a := 0) (b := 5) (c := 0) (by decide +kernel) rfl).trans ?_
  refine (Go_cmpeq (y := 315) (ip := 762) (a := 0) (c := 765) (by decide +kernel)).trans ?_
  rfl

theorem b315_763 {h : HP} {I : Nat → Int → Int} {x4 : Int} {x5 : Int} {x6 : Int} : Go 315 763 [.inr (.inl (some 0)), .inr (.inl (some 1)), .inr (.inl (some 94)), .inr (.inl (some 139)), .inl x4, .inl x5, .inl x6] [] (mI h I) = some (mI h I, .inl (some (.inl 0))) := by
  refine (Go_const (h := mI h I) (y := 315) (ip := 763) (a := 0) (b := 0) (c := 0) (by decide +kernel)).trans ?_
  refine (Go_iret (h := mI h I) (y := 315) (ip := 764) (a := 0) (b := 0) (c := 0) (by decide +kernel) (Or.inr ⟨rfl, by decide⟩)).trans ?_
  rfl

theorem b315_765 {h : HP} {I : Nat → Int → Int} {x4 : Int} {x5 : Int} {x6 : Int} : Go 315 765 [.inr (.inl (some 0)), .inr (.inl (some 1)), .inr (.inl (some 94)), .inr (.inl (some 139)), .inl x4, .inl x5, .inl x6] [] (mI h I) = if x5 ≠ 0 then Go 315 776 [.inr (.inl (some 0)), .inr (.inl (some 1)), .inr (.inl (some 94)), .inr (.inl (some 139)), .inl x4, .inl x5, .inl x6] [] (mI h I) else Go 315 767 [.inr (.inl (some 0)), .inr (.inl (some 1)), .inr (.inl (some 94)), .inr (.inl (some 139)), .inl x4, .inl x5, .inl x6] [] (mI h I) := by
  refine (Go_iload (h := mI h I) (y := 315) (ip := 765) (a := 0) (b := 5) (c := 0) (by decide +kernel) rfl).trans ?_
  refine (Go_ifne (y := 315) (ip := 766) (a := 0) (c := 776) (by decide +kernel)).trans ?_
  rfl

theorem b315_767 {h : HP} {I : Nat → Int → Int} {x4 : Int} {x5 : Int} {x6 : Int} (p0 : hK h 139 = (2, 1)) : Go 315 767 [.inr (.inl (some 0)), .inr (.inl (some 1)), .inr (.inl (some 94)), .inr (.inl (some 139)), .inl x4, .inl x5, .inl x6] [] (mI h I) = if (if I 139 0 < x6 then -1 else if I 139 0 = x6 then 0 else 1 : Int) = 0 then Go 315 776 [.inr (.inl (some 0)), .inr (.inl (some 1)), .inr (.inl (some 94)), .inr (.inl (some 139)), .inl x4, .inl x5, .inl x6] [] (mI h I) else Go 315 774 [.inr (.inl (some 0)), .inr (.inl (some 1)), .inr (.inl (some 94)), .inr (.inl (some 139)), .inl x4, .inl x5, .inl x6] [] (mI h I) := by
  refine (Go_aload (h := mI h I) (y := 315) (ip := 767) (a := 0) (b := 3) (c := 0) (by decide +kernel) rfl).trans ?_
  refine (Go_const (h := mI h I) (y := 315) (ip := 768) (a := 0) (b := 0) (c := 0) (by decide +kernel)).trans ?_
  refine (Go_ldl (h := mI h I) (y := 315) (ip := 769) (a := 0) (c := 0) (by decide +kernel) (p0) (by decide)).trans ?_
  refine (Go_iload (h := mI h I) (y := 315) (ip := 770) (a := 0) (b := 6) (c := 0) (by decide +kernel) rfl).trans ?_
  refine (Go_i2l (h := mI h I) (y := 315) (ip := 771) (a := 0) (b := 0) (c := 0) (by decide +kernel)).trans ?_
  refine (Go_lcmp (h := mI h I) (y := 315) (ip := 772) (a := 0) (b := 0) (c := 0) (by decide +kernel)).trans ?_
  refine (Go_ifeq (y := 315) (ip := 773) (a := 0) (c := 776) (by decide +kernel)).trans ?_
  rfl

theorem b315_774 {h : HP} {I : Nat → Int → Int} {x4 : Int} {x5 : Int} {x6 : Int} : Go 315 774 [.inr (.inl (some 0)), .inr (.inl (some 1)), .inr (.inl (some 94)), .inr (.inl (some 139)), .inl x4, .inl x5, .inl x6] [] (mI h I) = some (mI h I, .inl (some (.inl 0))) := by
  refine (Go_const (h := mI h I) (y := 315) (ip := 774) (a := 0) (b := 0) (c := 0) (by decide +kernel)).trans ?_
  refine (Go_iret (h := mI h I) (y := 315) (ip := 775) (a := 0) (b := 0) (c := 0) (by decide +kernel) (Or.inr ⟨rfl, by decide⟩)).trans ?_
  rfl

theorem b315_776 {h : HP} {I : Nat → Int → Int} {x4 : Int} {x5 : Int} {x6 : Int} : Go 315 776 [.inr (.inl (some 0)), .inr (.inl (some 1)), .inr (.inl (some 94)), .inr (.inl (some 139)), .inl x4, .inl x5, .inl x6] [] (mI h I) = Go 315 1826 [.inr (.inl (some 0)), .inr (.inl (some 1)), .inr (.inl (some 94)), .inr (.inl (some 139)), .inl x4, .inl x5, .inl x6] [] (mI h I) := by
  refine (Go_goto (h := mI h I) (y := 315) (ip := 776) (a := 0) (b := 0) (c := 1826) (by decide +kernel)).trans ?_
  rfl

theorem b315_777 {h : HP} {I : Nat → Int → Int} {x4 : Int} {v5 : MV} {v6 : MV} {L : Int} (p0 : -2147483648 ≤ x4 + 1 ∧ x4 + 1 < 2147483648) (p1 : hK h 0 = (6, L)) (p2 : 0 ≤ x4 + 1 ∧ x4 + 1 < L) : Go 315 777 [.inr (.inl (some 0)), .inr (.inl (some 1)), .inr (.inl (some 94)), .inr (.inl (some 139)), .inl x4, v5, v6] [] (mI h I) = caln 315 [.inr (.inl (some 0)), .inr (.inl (some 1)), .inr (.inl (some 94)), .inr (.inl (some 139)), .inl x4, v5, v6] [] 785 (Go 292 0 [.inr (.inl (some 1)), .inl (I 0 (x4 + 1)), .inr (.inl (some 139)), vU] [] (mI h I)) := by
  refine (Go_aload (h := mI h I) (y := 315) (ip := 777) (a := 0) (b := 1) (c := 0) (by decide +kernel) rfl).trans ?_
  refine (Go_aload (h := mI h I) (y := 315) (ip := 778) (a := 0) (b := 0) (c := 0) (by decide +kernel) rfl).trans ?_
  refine (Go_iload (h := mI h I) (y := 315) (ip := 779) (a := 0) (b := 4) (c := 0) (by decide +kernel) rfl).trans ?_
  refine (Go_const (h := mI h I) (y := 315) (ip := 780) (a := 1) (b := 0) (c := 0) (by decide +kernel)).trans ?_
  refine (Go_ar (op := 4) (x := x4 + 1) (h := mI h I) (y := 315) (ip := 781) (a := 0) (b := 0) (c := 0) (by decide +kernel) rfl (zar4 p0)).trans ?_
  refine (Go_ald (h := mI h I) (y := 315) (ip := 782) (a := 0) (b := 0) (c := 0) (by decide +kernel) rfl (p1) rfl p2).trans ?_
  refine (Go_aload (h := mI h I) (y := 315) (ip := 783) (a := 0) (b := 3) (c := 0) (by decide +kernel) rfl).trans ?_
  refine (Go_call2 (h := mI h I) (y := 315) (ip := 784) (a := 313) (z := 292) (c := 1) (as := [.inr (.inl (some 1)), .inl (I 0 (x4 + 1)), .inr (.inl (some 139))]) (rest := []) (by decide +kernel) (by decide +kernel) rfl rfl rfl rfl).trans ?_
  rfl

theorem b315_785 {h : HP} {I : Nat → Int → Int} {x4 : Int} {v5 : MV} {v6 : MV} {sx0 : Int} {L : Int} (p0 : -2147483648 ≤ x4 + 1 ∧ x4 + 1 < 2147483648) (p1 : hK h 0 = (6, L)) (p2 : 0 ≤ x4 + 1 ∧ x4 + 1 < L) (p3 : LX 11 h 94) : Go 315 785 [.inr (.inl (some 0)), .inr (.inl (some 1)), .inr (.inl (some 94)), .inr (.inl (some 139)), .inl x4, v5, v6] [.inl sx0] (mI h I) = caln 315 [.inr (.inl (some 0)), .inr (.inl (some 1)), .inr (.inl (some 94)), .inr (.inl (some 139)), .inl x4, .inl sx0, v6] [] 793 (Go 222 0 [.inr (.inl (some 94)), .inl (I 0 (x4 + 1))] [] (mI h I)) := by
  refine (Go_istore (h := mI h I) (y := 315) (ip := 785) (a := 0) (b := 5) (c := 0) (by decide +kernel) rfl).trans ?_
  refine (Go_aload (h := mI h I) (y := 315) (ip := 786) (a := 0) (b := 2) (c := 0) (by decide +kernel) rfl).trans ?_
  refine (Go_aload (h := mI h I) (y := 315) (ip := 787) (a := 0) (b := 0) (c := 0) (by decide +kernel) rfl).trans ?_
  refine (Go_iload (h := mI h I) (y := 315) (ip := 788) (a := 0) (b := 4) (c := 0) (by decide +kernel) rfl).trans ?_
  refine (Go_const (h := mI h I) (y := 315) (ip := 789) (a := 1) (b := 0) (c := 0) (by decide +kernel)).trans ?_
  refine (Go_ar (op := 4) (x := x4 + 1) (h := mI h I) (y := 315) (ip := 790) (a := 0) (b := 0) (c := 0) (by decide +kernel) rfl (zar4 p0)).trans ?_
  refine (Go_ald (h := mI h I) (y := 315) (ip := 791) (a := 0) (b := 0) (c := 0) (by decide +kernel) rfl (p1) rfl p2).trans ?_
  refine (Go_call2 (h := mI h I) (y := 315) (ip := 792) (a := 314) (z := 222) (c := 0) (as := [.inr (.inl (some 94)), .inl (I 0 (x4 + 1))]) (rest := []) (by decide +kernel) (by decide +kernel) rfl rfl (zrecv_v rfl (LX_t p3)) rfl).trans ?_
  rfl

theorem b315_793 {h : HP} {I : Nat → Int → Int} {x4 : Int} {x5 : Int} {v6 : MV} {sx0 : Int} (p0 : LX 11 h 94) : Go 315 793 [.inr (.inl (some 0)), .inr (.inl (some 1)), .inr (.inl (some 94)), .inr (.inl (some 139)), .inl x4, .inl x5, v6] [.inl sx0] (mI h I) = caln 315 [.inr (.inl (some 0)), .inr (.inl (some 1)), .inr (.inl (some 94)), .inr (.inl (some 139)), .inl x4, .inl x5, .inl sx0] [] 796 (Go 162 0 [.inr (.inl (some 94))] [] (mI h I)) := by
  refine (Go_istore (h := mI h I) (y := 315) (ip := 793) (a := 0) (b := 6) (c := 0) (by decide +kernel) rfl).trans ?_
  refine (Go_aload (h := mI h I) (y := 315) (ip := 794) (a := 0) (b := 2) (c := 0) (by decide +kernel) rfl).trans ?_
  refine (Go_call2 (h := mI h I) (y := 315) (ip := 795) (a := 276) (z := 162) (c := 0) (as := [.inr (.inl (some 94))]) (rest := []) (by decide +kernel) (by decide +kernel) rfl rfl (zrecv_v rfl (LX_t p0)) rfl).trans ?_
  rfl

theorem b315_796 {h : HP} {I : Nat → Int → Int} {x4 : Int} {x5 : Int} {x6 : Int} {sx0 : Int} : Go 315 796 [.inr (.inl (some 0)), .inr (.inl (some 1)), .inr (.inl (some 94)), .inr (.inl (some 139)), .inl x4, .inl x5, .inl x6] [.inl sx0] (mI h I) = if sx0 = x5 then Go 315 800 [.inr (.inl (some 0)), .inr (.inl (some 1)), .inr (.inl (some 94)), .inr (.inl (some 139)), .inl x4, .inl x5, .inl x6] [] (mI h I) else Go 315 798 [.inr (.inl (some 0)), .inr (.inl (some 1)), .inr (.inl (some 94)), .inr (.inl (some 139)), .inl x4, .inl x5, .inl x6] [] (mI h I) := by
  refine (Go_iload (h := mI h I) (y := 315) (ip := 796) (a := 0) (b := 5) (c := 0) (by decide +kernel) rfl).trans ?_
  refine (Go_cmpeq (y := 315) (ip := 797) (a := 0) (c := 800) (by decide +kernel)).trans ?_
  rfl

theorem b315_798 {h : HP} {I : Nat → Int → Int} {x4 : Int} {x5 : Int} {x6 : Int} : Go 315 798 [.inr (.inl (some 0)), .inr (.inl (some 1)), .inr (.inl (some 94)), .inr (.inl (some 139)), .inl x4, .inl x5, .inl x6] [] (mI h I) = some (mI h I, .inl (some (.inl 0))) := by
  refine (Go_const (h := mI h I) (y := 315) (ip := 798) (a := 0) (b := 0) (c := 0) (by decide +kernel)).trans ?_
  refine (Go_iret (h := mI h I) (y := 315) (ip := 799) (a := 0) (b := 0) (c := 0) (by decide +kernel) (Or.inr ⟨rfl, by decide⟩)).trans ?_
  rfl

theorem b315_800 {h : HP} {I : Nat → Int → Int} {x4 : Int} {x5 : Int} {x6 : Int} : Go 315 800 [.inr (.inl (some 0)), .inr (.inl (some 1)), .inr (.inl (some 94)), .inr (.inl (some 139)), .inl x4, .inl x5, .inl x6] [] (mI h I) = if x5 ≠ 0 then Go 315 811 [.inr (.inl (some 0)), .inr (.inl (some 1)), .inr (.inl (some 94)), .inr (.inl (some 139)), .inl x4, .inl x5, .inl x6] [] (mI h I) else Go 315 802 [.inr (.inl (some 0)), .inr (.inl (some 1)), .inr (.inl (some 94)), .inr (.inl (some 139)), .inl x4, .inl x5, .inl x6] [] (mI h I) := by
  refine (Go_iload (h := mI h I) (y := 315) (ip := 800) (a := 0) (b := 5) (c := 0) (by decide +kernel) rfl).trans ?_
  refine (Go_ifne (y := 315) (ip := 801) (a := 0) (c := 811) (by decide +kernel)).trans ?_
  rfl

theorem b315_802 {h : HP} {I : Nat → Int → Int} {x4 : Int} {x5 : Int} {x6 : Int} (p0 : hK h 139 = (2, 1)) : Go 315 802 [.inr (.inl (some 0)), .inr (.inl (some 1)), .inr (.inl (some 94)), .inr (.inl (some 139)), .inl x4, .inl x5, .inl x6] [] (mI h I) = if (if I 139 0 < x6 then -1 else if I 139 0 = x6 then 0 else 1 : Int) = 0 then Go 315 811 [.inr (.inl (some 0)), .inr (.inl (some 1)), .inr (.inl (some 94)), .inr (.inl (some 139)), .inl x4, .inl x5, .inl x6] [] (mI h I) else Go 315 809 [.inr (.inl (some 0)), .inr (.inl (some 1)), .inr (.inl (some 94)), .inr (.inl (some 139)), .inl x4, .inl x5, .inl x6] [] (mI h I) := by
  refine (Go_aload (h := mI h I) (y := 315) (ip := 802) (a := 0) (b := 3) (c := 0) (by decide +kernel) rfl).trans ?_
  refine (Go_const (h := mI h I) (y := 315) (ip := 803) (a := 0) (b := 0) (c := 0) (by decide +kernel)).trans ?_
  refine (Go_ldl (h := mI h I) (y := 315) (ip := 804) (a := 0) (c := 0) (by decide +kernel) (p0) (by decide)).trans ?_
  refine (Go_iload (h := mI h I) (y := 315) (ip := 805) (a := 0) (b := 6) (c := 0) (by decide +kernel) rfl).trans ?_
  refine (Go_i2l (h := mI h I) (y := 315) (ip := 806) (a := 0) (b := 0) (c := 0) (by decide +kernel)).trans ?_
  refine (Go_lcmp (h := mI h I) (y := 315) (ip := 807) (a := 0) (b := 0) (c := 0) (by decide +kernel)).trans ?_
  refine (Go_ifeq (y := 315) (ip := 808) (a := 0) (c := 811) (by decide +kernel)).trans ?_
  rfl

theorem b315_809 {h : HP} {I : Nat → Int → Int} {x4 : Int} {x5 : Int} {x6 : Int} : Go 315 809 [.inr (.inl (some 0)), .inr (.inl (some 1)), .inr (.inl (some 94)), .inr (.inl (some 139)), .inl x4, .inl x5, .inl x6] [] (mI h I) = some (mI h I, .inl (some (.inl 0))) := by
  refine (Go_const (h := mI h I) (y := 315) (ip := 809) (a := 0) (b := 0) (c := 0) (by decide +kernel)).trans ?_
  refine (Go_iret (h := mI h I) (y := 315) (ip := 810) (a := 0) (b := 0) (c := 0) (by decide +kernel) (Or.inr ⟨rfl, by decide⟩)).trans ?_
  rfl

theorem b315_811 {h : HP} {I : Nat → Int → Int} {x4 : Int} {x5 : Int} {x6 : Int} : Go 315 811 [.inr (.inl (some 0)), .inr (.inl (some 1)), .inr (.inl (some 94)), .inr (.inl (some 139)), .inl x4, .inl x5, .inl x6] [] (mI h I) = Go 315 1826 [.inr (.inl (some 0)), .inr (.inl (some 1)), .inr (.inl (some 94)), .inr (.inl (some 139)), .inl x4, .inl x5, .inl x6] [] (mI h I) := by
  refine (Go_goto (h := mI h I) (y := 315) (ip := 811) (a := 0) (b := 0) (c := 1826) (by decide +kernel)).trans ?_
  rfl

theorem b315_812 {h : HP} {I : Nat → Int → Int} {x4 : Int} {v5 : MV} {v6 : MV} {L : Int} (p0 : -2147483648 ≤ x4 + 1 ∧ x4 + 1 < 2147483648) (p1 : hK h 0 = (6, L)) (p2 : 0 ≤ x4 + 1 ∧ x4 + 1 < L) (p3 : -2147483648 ≤ x4 + 2 ∧ x4 + 2 < 2147483648) (p4 : 0 ≤ x4 + 2 ∧ x4 + 2 < L) : Go 315 812 [.inr (.inl (some 0)), .inr (.inl (some 1)), .inr (.inl (some 94)), .inr (.inl (some 139)), .inl x4, v5, v6] [] (mI h I) = caln 315 [.inr (.inl (some 0)), .inr (.inl (some 1)), .inr (.inl (some 94)), .inr (.inl (some 139)), .inl x4, v5, v6] [] 825 (Go 293 0 [.inr (.inl (some 1)), .inl (I 0 (x4 + 1)), .inl (I 0 (x4 + 2)), .inr (.inl (some 139)), vU] [] (mI h I)) := by
  refine (Go_aload (h := mI h I) (y := 315) (ip := 812) (a := 0) (b := 1) (c := 0) (by decide +kernel) rfl).trans ?_
  refine (Go_aload (h := mI h I) (y := 315) (ip := 813) (a := 0) (b := 0) (c := 0) (by decide +kernel) rfl).trans ?_
  refine (Go_iload (h := mI h I) (y := 315) (ip := 814) (a := 0) (b := 4) (c := 0) (by decide +kernel) rfl).trans ?_
  refine (Go_const (h := mI h I) (y := 315) (ip := 815) (a := 1) (b := 0) (c := 0) (by decide +kernel)).trans ?_
  refine (Go_ar (op := 4) (x := x4 + 1) (h := mI h I) (y := 315) (ip := 816) (a := 0) (b := 0) (c := 0) (by decide +kernel) rfl (zar4 p0)).trans ?_
  refine (Go_ald (h := mI h I) (y := 315) (ip := 817) (a := 0) (b := 0) (c := 0) (by decide +kernel) rfl (p1) rfl p2).trans ?_
  refine (Go_aload (h := mI h I) (y := 315) (ip := 818) (a := 0) (b := 0) (c := 0) (by decide +kernel) rfl).trans ?_
  refine (Go_iload (h := mI h I) (y := 315) (ip := 819) (a := 0) (b := 4) (c := 0) (by decide +kernel) rfl).trans ?_
  refine (Go_const (h := mI h I) (y := 315) (ip := 820) (a := 2) (b := 0) (c := 0) (by decide +kernel)).trans ?_
  refine (Go_ar (op := 4) (x := x4 + 2) (h := mI h I) (y := 315) (ip := 821) (a := 0) (b := 0) (c := 0) (by decide +kernel) rfl (zar4 p3)).trans ?_
  refine (Go_ald (h := mI h I) (y := 315) (ip := 822) (a := 0) (b := 0) (c := 0) (by decide +kernel) rfl (p1) rfl p4).trans ?_
  refine (Go_aload (h := mI h I) (y := 315) (ip := 823) (a := 0) (b := 3) (c := 0) (by decide +kernel) rfl).trans ?_
  refine (Go_call2 (h := mI h I) (y := 315) (ip := 824) (a := 315) (z := 293) (c := 1) (as := [.inr (.inl (some 1)), .inl (I 0 (x4 + 1)), .inl (I 0 (x4 + 2)), .inr (.inl (some 139))]) (rest := []) (by decide +kernel) (by decide +kernel) rfl rfl rfl rfl).trans ?_
  rfl

theorem b315_825 {h : HP} {I : Nat → Int → Int} {x4 : Int} {v5 : MV} {v6 : MV} {sx0 : Int} {L : Int} (p0 : -2147483648 ≤ x4 + 1 ∧ x4 + 1 < 2147483648) (p1 : hK h 0 = (6, L)) (p2 : 0 ≤ x4 + 1 ∧ x4 + 1 < L) (p3 : -2147483648 ≤ x4 + 2 ∧ x4 + 2 < 2147483648) (p4 : 0 ≤ x4 + 2 ∧ x4 + 2 < L) (p5 : LX 11 h 94) : Go 315 825 [.inr (.inl (some 0)), .inr (.inl (some 1)), .inr (.inl (some 94)), .inr (.inl (some 139)), .inl x4, v5, v6] [.inl sx0] (mI h I) = caln 315 [.inr (.inl (some 0)), .inr (.inl (some 1)), .inr (.inl (some 94)), .inr (.inl (some 139)), .inl x4, .inl sx0, v6] [] 838 (Go 223 0 [.inr (.inl (some 94)), .inl (I 0 (x4 + 1)), .inl (I 0 (x4 + 2))] [] (mI h I)) := by
  refine (Go_istore (h := mI h I) (y := 315) (ip := 825) (a := 0) (b := 5) (c := 0) (by decide +kernel) rfl).trans ?_
  refine (Go_aload (h := mI h I) (y := 315) (ip := 826) (a := 0) (b := 2) (c := 0) (by decide +kernel) rfl).trans ?_
  refine (Go_aload (h := mI h I) (y := 315) (ip := 827) (a := 0) (b := 0) (c := 0) (by decide +kernel) rfl).trans ?_
  refine (Go_iload (h := mI h I) (y := 315) (ip := 828) (a := 0) (b := 4) (c := 0) (by decide +kernel) rfl).trans ?_
  refine (Go_const (h := mI h I) (y := 315) (ip := 829) (a := 1) (b := 0) (c := 0) (by decide +kernel)).trans ?_
  refine (Go_ar (op := 4) (x := x4 + 1) (h := mI h I) (y := 315) (ip := 830) (a := 0) (b := 0) (c := 0) (by decide +kernel) rfl (zar4 p0)).trans ?_
  refine (Go_ald (h := mI h I) (y := 315) (ip := 831) (a := 0) (b := 0) (c := 0) (by decide +kernel) rfl (p1) rfl p2).trans ?_
  refine (Go_aload (h := mI h I) (y := 315) (ip := 832) (a := 0) (b := 0) (c := 0) (by decide +kernel) rfl).trans ?_
  refine (Go_iload (h := mI h I) (y := 315) (ip := 833) (a := 0) (b := 4) (c := 0) (by decide +kernel) rfl).trans ?_
  refine (Go_const (h := mI h I) (y := 315) (ip := 834) (a := 2) (b := 0) (c := 0) (by decide +kernel)).trans ?_
  refine (Go_ar (op := 4) (x := x4 + 2) (h := mI h I) (y := 315) (ip := 835) (a := 0) (b := 0) (c := 0) (by decide +kernel) rfl (zar4 p3)).trans ?_
  refine (Go_ald (h := mI h I) (y := 315) (ip := 836) (a := 0) (b := 0) (c := 0) (by decide +kernel) rfl (p1) rfl p4).trans ?_
  refine (Go_call2 (h := mI h I) (y := 315) (ip := 837) (a := 316) (z := 223) (c := 0) (as := [.inr (.inl (some 94)), .inl (I 0 (x4 + 1)), .inl (I 0 (x4 + 2))]) (rest := []) (by decide +kernel) (by decide +kernel) rfl rfl (zrecv_v rfl (LX_t p5)) rfl).trans ?_
  rfl

theorem b315_838 {h : HP} {I : Nat → Int → Int} {x4 : Int} {x5 : Int} {v6 : MV} {sx0 : Int} (p0 : LX 11 h 94) : Go 315 838 [.inr (.inl (some 0)), .inr (.inl (some 1)), .inr (.inl (some 94)), .inr (.inl (some 139)), .inl x4, .inl x5, v6] [.inl sx0] (mI h I) = caln 315 [.inr (.inl (some 0)), .inr (.inl (some 1)), .inr (.inl (some 94)), .inr (.inl (some 139)), .inl x4, .inl x5, .inl sx0] [] 841 (Go 162 0 [.inr (.inl (some 94))] [] (mI h I)) := by
  refine (Go_istore (h := mI h I) (y := 315) (ip := 838) (a := 0) (b := 6) (c := 0) (by decide +kernel) rfl).trans ?_
  refine (Go_aload (h := mI h I) (y := 315) (ip := 839) (a := 0) (b := 2) (c := 0) (by decide +kernel) rfl).trans ?_
  refine (Go_call2 (h := mI h I) (y := 315) (ip := 840) (a := 276) (z := 162) (c := 0) (as := [.inr (.inl (some 94))]) (rest := []) (by decide +kernel) (by decide +kernel) rfl rfl (zrecv_v rfl (LX_t p0)) rfl).trans ?_
  rfl

theorem b315_841 {h : HP} {I : Nat → Int → Int} {x4 : Int} {x5 : Int} {x6 : Int} {sx0 : Int} : Go 315 841 [.inr (.inl (some 0)), .inr (.inl (some 1)), .inr (.inl (some 94)), .inr (.inl (some 139)), .inl x4, .inl x5, .inl x6] [.inl sx0] (mI h I) = if sx0 = x5 then Go 315 845 [.inr (.inl (some 0)), .inr (.inl (some 1)), .inr (.inl (some 94)), .inr (.inl (some 139)), .inl x4, .inl x5, .inl x6] [] (mI h I) else Go 315 843 [.inr (.inl (some 0)), .inr (.inl (some 1)), .inr (.inl (some 94)), .inr (.inl (some 139)), .inl x4, .inl x5, .inl x6] [] (mI h I) := by
  refine (Go_iload (h := mI h I) (y := 315) (ip := 841) (a := 0) (b := 5) (c := 0) (by decide +kernel) rfl).trans ?_
  refine (Go_cmpeq (y := 315) (ip := 842) (a := 0) (c := 845) (by decide +kernel)).trans ?_
  rfl

theorem b315_843 {h : HP} {I : Nat → Int → Int} {x4 : Int} {x5 : Int} {x6 : Int} : Go 315 843 [.inr (.inl (some 0)), .inr (.inl (some 1)), .inr (.inl (some 94)), .inr (.inl (some 139)), .inl x4, .inl x5, .inl x6] [] (mI h I) = some (mI h I, .inl (some (.inl 0))) := by
  refine (Go_const (h := mI h I) (y := 315) (ip := 843) (a := 0) (b := 0) (c := 0) (by decide +kernel)).trans ?_
  refine (Go_iret (h := mI h I) (y := 315) (ip := 844) (a := 0) (b := 0) (c := 0) (by decide +kernel) (Or.inr ⟨rfl, by decide⟩)).trans ?_
  rfl

theorem b315_845 {h : HP} {I : Nat → Int → Int} {x4 : Int} {x5 : Int} {x6 : Int} : Go 315 845 [.inr (.inl (some 0)), .inr (.inl (some 1)), .inr (.inl (some 94)), .inr (.inl (some 139)), .inl x4, .inl x5, .inl x6] [] (mI h I) = if x5 ≠ 0 then Go 315 859 [.inr (.inl (some 0)), .inr (.inl (some 1)), .inr (.inl (some 94)), .inr (.inl (some 139)), .inl x4, .inl x5, .inl x6] [] (mI h I) else Go 315 847 [.inr (.inl (some 0)), .inr (.inl (some 1)), .inr (.inl (some 94)), .inr (.inl (some 139)), .inl x4, .inl x5, .inl x6] [] (mI h I) := by
  refine (Go_iload (h := mI h I) (y := 315) (ip := 845) (a := 0) (b := 5) (c := 0) (by decide +kernel) rfl).trans ?_
  refine (Go_ifne (y := 315) (ip := 846) (a := 0) (c := 859) (by decide +kernel)).trans ?_
  rfl

theorem b315_847 {h : HP} {I : Nat → Int → Int} {x4 : Int} {x5 : Int} {x6 : Int} (p0 : hK h 139 = (2, 1)) : Go 315 847 [.inr (.inl (some 0)), .inr (.inl (some 1)), .inr (.inl (some 94)), .inr (.inl (some 139)), .inl x4, .inl x5, .inl x6] [] (mI h I) = if x6 = 0 then Go 315 854 [.inr (.inl (some 0)), .inr (.inl (some 1)), .inr (.inl (some 94)), .inr (.inl (some 139)), .inl x4, .inl x5, .inl x6] [.inr (.inr (I 139 0))] (mI h I) else Go 315 852 [.inr (.inl (some 0)), .inr (.inl (some 1)), .inr (.inl (some 94)), .inr (.inl (some 139)), .inl x4, .inl x5, .inl x6] [.inr (.inr (I 139 0))] (mI h I) := by
  refine (Go_aload (h := mI h I) (y := 315) (ip := 847) (a := 0) (b := 3) (c := 0) (by decide +kernel) rfl).trans ?_
  refine (Go_const (h := mI h I) (y := 315) (ip := 848) (a := 0) (b := 0) (c := 0) (by decide +kernel)).trans ?_
  refine (Go_ldl (h := mI h I) (y := 315) (ip := 849) (a := 0) (c := 0) (by decide +kernel) (p0) (by decide)).trans ?_
  refine (Go_iload (h := mI h I) (y := 315) (ip := 850) (a := 0) (b := 6) (c := 0) (by decide +kernel) rfl).trans ?_
  refine (Go_ifeq (y := 315) (ip := 851) (a := 0) (c := 854) (by decide +kernel)).trans ?_
  rfl

theorem b315_852 {h : HP} {I : Nat → Int → Int} {x4 : Int} {x5 : Int} {x6 : Int} {sw0 : Int} : Go 315 852 [.inr (.inl (some 0)), .inr (.inl (some 1)), .inr (.inl (some 94)), .inr (.inl (some 139)), .inl x4, .inl x5, .inl x6] [.inr (.inr sw0)] (mI h I) = Go 315 855 [.inr (.inl (some 0)), .inr (.inl (some 1)), .inr (.inl (some 94)), .inr (.inl (some 139)), .inl x4, .inl x5, .inl x6] [.inr (.inr 1), .inr (.inr sw0)] (mI h I) := by
  refine (Go_lconst (h := mI h I) (y := 315) (ip := 852) (a := 1) (b := 0) (c := 0) (by decide +kernel)).trans ?_
  refine (Go_goto (h := mI h I) (y := 315) (ip := 853) (a := 0) (b := 0) (c := 855) (by decide +kernel)).trans ?_
  rfl

theorem b315_854 {h : HP} {I : Nat → Int → Int} {x4 : Int} {x5 : Int} {x6 : Int} {sw0 : Int} : Go 315 854 [.inr (.inl (some 0)), .inr (.inl (some 1)), .inr (.inl (some 94)), .inr (.inl (some 139)), .inl x4, .inl x5, .inl x6] [.inr (.inr sw0)] (mI h I) = Go 315 855 [.inr (.inl (some 0)), .inr (.inl (some 1)), .inr (.inl (some 94)), .inr (.inl (some 139)), .inl x4, .inl x5, .inl x6] [.inr (.inr 0), .inr (.inr sw0)] (mI h I) := by
  refine (Go_lconst (h := mI h I) (y := 315) (ip := 854) (a := 0) (b := 0) (c := 0) (by decide +kernel)).trans ?_
  rfl

theorem b315_855 {h : HP} {I : Nat → Int → Int} {x4 : Int} {x5 : Int} {x6 : Int} {sw0 : Int} {sw1 : Int} : Go 315 855 [.inr (.inl (some 0)), .inr (.inl (some 1)), .inr (.inl (some 94)), .inr (.inl (some 139)), .inl x4, .inl x5, .inl x6] [.inr (.inr sw1), .inr (.inr sw0)] (mI h I) = if (if sw0 < sw1 then -1 else if sw0 = sw1 then 0 else 1 : Int) = 0 then Go 315 859 [.inr (.inl (some 0)), .inr (.inl (some 1)), .inr (.inl (some 94)), .inr (.inl (some 139)), .inl x4, .inl x5, .inl x6] [] (mI h I) else Go 315 857 [.inr (.inl (some 0)), .inr (.inl (some 1)), .inr (.inl (some 94)), .inr (.inl (some 139)), .inl x4, .inl x5, .inl x6] [] (mI h I) := by
  refine (Go_lcmp (h := mI h I) (y := 315) (ip := 855) (a := 0) (b := 0) (c := 0) (by decide +kernel)).trans ?_
  refine (Go_ifeq (y := 315) (ip := 856) (a := 0) (c := 859) (by decide +kernel)).trans ?_
  rfl

theorem b315_857 {h : HP} {I : Nat → Int → Int} {x4 : Int} {x5 : Int} {x6 : Int} : Go 315 857 [.inr (.inl (some 0)), .inr (.inl (some 1)), .inr (.inl (some 94)), .inr (.inl (some 139)), .inl x4, .inl x5, .inl x6] [] (mI h I) = some (mI h I, .inl (some (.inl 0))) := by
  refine (Go_const (h := mI h I) (y := 315) (ip := 857) (a := 0) (b := 0) (c := 0) (by decide +kernel)).trans ?_
  refine (Go_iret (h := mI h I) (y := 315) (ip := 858) (a := 0) (b := 0) (c := 0) (by decide +kernel) (Or.inr ⟨rfl, by decide⟩)).trans ?_
  rfl

theorem b315_859 {h : HP} {I : Nat → Int → Int} {x4 : Int} {x5 : Int} {x6 : Int} : Go 315 859 [.inr (.inl (some 0)), .inr (.inl (some 1)), .inr (.inl (some 94)), .inr (.inl (some 139)), .inl x4, .inl x5, .inl x6] [] (mI h I) = Go 315 1826 [.inr (.inl (some 0)), .inr (.inl (some 1)), .inr (.inl (some 94)), .inr (.inl (some 139)), .inl x4, .inl x5, .inl x6] [] (mI h I) := by
  refine (Go_goto (h := mI h I) (y := 315) (ip := 859) (a := 0) (b := 0) (c := 1826) (by decide +kernel)).trans ?_
  rfl

theorem b315_860 {h : HP} {I : Nat → Int → Int} {x4 : Int} {v5 : MV} {v6 : MV} {L : Int} (p0 : -2147483648 ≤ x4 + 1 ∧ x4 + 1 < 2147483648) (p1 : hK h 0 = (6, L)) (p2 : 0 ≤ x4 + 1 ∧ x4 + 1 < L) (p3 : -2147483648 ≤ x4 + 2 ∧ x4 + 2 < 2147483648) (p4 : 0 ≤ x4 + 2 ∧ x4 + 2 < L) : Go 315 860 [.inr (.inl (some 0)), .inr (.inl (some 1)), .inr (.inl (some 94)), .inr (.inl (some 139)), .inl x4, v5, v6] [] (mI h I) = caln 315 [.inr (.inl (some 0)), .inr (.inl (some 1)), .inr (.inl (some 94)), .inr (.inl (some 139)), .inl x4, v5, v6] [] 873 (Go 294 0 [.inr (.inl (some 1)), .inl (I 0 (x4 + 1)), .inl (I 0 (x4 + 2)), .inr (.inl (some 139)), vU] [] (mI h I)) := by
  refine (Go_aload (h := mI h I) (y := 315) (ip := 860) (a := 0) (b := 1) (c := 0) (by decide +kernel) rfl).trans ?_
  refine (Go_aload (h := mI h I) (y := 315) (ip := 861) (a := 0) (b := 0) (c := 0) (by decide +kernel) rfl).trans ?_
  refine (Go_iload (h := mI h I) (y := 315) (ip := 862) (a := 0) (b := 4) (c := 0) (by decide +kernel) rfl).trans ?_
  refine (Go_const (h := mI h I) (y := 315) (ip := 863) (a := 1) (b := 0) (c := 0) (by decide +kernel)).trans ?_
  refine (Go_ar (op := 4) (x := x4 + 1) (h := mI h I) (y := 315) (ip := 864) (a := 0) (b := 0) (c := 0) (by decide +kernel) rfl (zar4 p0)).trans ?_
  refine (Go_ald (h := mI h I) (y := 315) (ip := 865) (a := 0) (b := 0) (c := 0) (by decide +kernel) rfl (p1) rfl p2).trans ?_
  refine (Go_aload (h := mI h I) (y := 315) (ip := 866) (a := 0) (b := 0) (c := 0) (by decide +kernel) rfl).trans ?_
  refine (Go_iload (h := mI h I) (y := 315) (ip := 867) (a := 0) (b := 4) (c := 0) (by decide +kernel) rfl).trans ?_
  refine (Go_const (h := mI h I) (y := 315) (ip := 868) (a := 2) (b := 0) (c := 0) (by decide +kernel)).trans ?_
  refine (Go_ar (op := 4) (x := x4 + 2) (h := mI h I) (y := 315) (ip := 869) (a := 0) (b := 0) (c := 0) (by decide +kernel) rfl (zar4 p3)).trans ?_
  refine (Go_ald (h := mI h I) (y := 315) (ip := 870) (a := 0) (b := 0) (c := 0) (by decide +kernel) rfl (p1) rfl p4).trans ?_
  refine (Go_aload (h := mI h I) (y := 315) (ip := 871) (a := 0) (b := 3) (c := 0) (by decide +kernel) rfl).trans ?_
  refine (Go_call2 (h := mI h I) (y := 315) (ip := 872) (a := 317) (z := 294) (c := 1) (as := [.inr (.inl (some 1)), .inl (I 0 (x4 + 1)), .inl (I 0 (x4 + 2)), .inr (.inl (some 139))]) (rest := []) (by decide +kernel) (by decide +kernel) rfl rfl rfl rfl).trans ?_
  rfl

theorem b315_873 {h : HP} {I : Nat → Int → Int} {x4 : Int} {v5 : MV} {v6 : MV} {sx0 : Int} {L : Int} (p0 : -2147483648 ≤ x4 + 1 ∧ x4 + 1 < 2147483648) (p1 : hK h 0 = (6, L)) (p2 : 0 ≤ x4 + 1 ∧ x4 + 1 < L) (p3 : -2147483648 ≤ x4 + 2 ∧ x4 + 2 < 2147483648) (p4 : 0 ≤ x4 + 2 ∧ x4 + 2 < L) (p5 : LX 11 h 94) : Go 315 873 [.inr (.inl (some 0)), .inr (.inl (some 1)), .inr (.inl (some 94)), .inr (.inl (some 139)), .inl x4, v5, v6] [.inl sx0] (mI h I) = caln 315 [.inr (.inl (some 0)), .inr (.inl (some 1)), .inr (.inl (some 94)), .inr (.inl (some 139)), .inl x4, .inl sx0, v6] [] 886 (Go 224 0 [.inr (.inl (some 94)), .inl (I 0 (x4 + 1)), .inl (I 0 (x4 + 2))] [] (mI h I)) := by
  refine (Go_istore (h := mI h I) (y := 315) (ip := 873) (a := 0) (b := 5) (c := 0) (by decide +kernel) rfl).trans ?_
  refine (Go_aload (h := mI h I) (y := 315) (ip := 874) (a := 0) (b := 2) (c := 0) (by decide +kernel) rfl).trans ?_
  refine (Go_aload (h := mI h I) (y := 315) (ip := 875) (a := 0) (b := 0) (c := 0) (by decide +kernel) rfl).trans ?_
  refine (Go_iload (h := mI h I) (y := 315) (ip := 876) (a := 0) (b := 4) (c := 0) (by decide +kernel) rfl).trans ?_
  refine (Go_const (h := mI h I) (y := 315) (ip := 877) (a := 1) (b := 0) (c := 0) (by decide +kernel)).trans ?_
  refine (Go_ar (op := 4) (x := x4 + 1) (h := mI h I) (y := 315) (ip := 878) (a := 0) (b := 0) (c := 0) (by decide +kernel) rfl (zar4 p0)).trans ?_
  refine (Go_ald (h := mI h I) (y := 315) (ip := 879) (a := 0) (b := 0) (c := 0) (by decide +kernel) rfl (p1) rfl p2).trans ?_
  refine (Go_aload (h := mI h I) (y := 315) (ip := 880) (a := 0) (b := 0) (c := 0) (by decide +kernel) rfl).trans ?_
  refine (Go_iload (h := mI h I) (y := 315) (ip := 881) (a := 0) (b := 4) (c := 0) (by decide +kernel) rfl).trans ?_
  refine (Go_const (h := mI h I) (y := 315) (ip := 882) (a := 2) (b := 0) (c := 0) (by decide +kernel)).trans ?_
  refine (Go_ar (op := 4) (x := x4 + 2) (h := mI h I) (y := 315) (ip := 883) (a := 0) (b := 0) (c := 0) (by decide +kernel) rfl (zar4 p3)).trans ?_
  refine (Go_ald (h := mI h I) (y := 315) (ip := 884) (a := 0) (b := 0) (c := 0) (by decide +kernel) rfl (p1) rfl p4).trans ?_
  refine (Go_call2 (h := mI h I) (y := 315) (ip := 885) (a := 318) (z := 224) (c := 0) (as := [.inr (.inl (some 94)), .inl (I 0 (x4 + 1)), .inl (I 0 (x4 + 2))]) (rest := []) (by decide +kernel) (by decide +kernel) rfl rfl (zrecv_v rfl (LX_t p5)) rfl).trans ?_
  rfl

theorem b315_886 {h : HP} {I : Nat → Int → Int} {x4 : Int} {x5 : Int} {v6 : MV} {sx0 : Int} (p0 : LX 11 h 94) : Go 315 886 [.inr (.inl (some 0)), .inr (.inl (some 1)), .inr (.inl (some 94)), .inr (.inl (some 139)), .inl x4, .inl x5, v6] [.inl sx0] (mI h I) = caln 315 [.inr (.inl (some 0)), .inr (.inl (some 1)), .inr (.inl (some 94)), .inr (.inl (some 139)), .inl x4, .inl x5, .inl sx0] [] 889 (Go 162 0 [.inr (.inl (some 94))] [] (mI h I)) := by
  refine (Go_istore (h := mI h I) (y := 315) (ip := 886) (a := 0) (b := 6) (c := 0) (by decide +kernel) rfl).trans ?_
  refine (Go_aload (h := mI h I) (y := 315) (ip := 887) (a := 0) (b := 2) (c := 0) (by decide +kernel) rfl).trans ?_
  refine (Go_call2 (h := mI h I) (y := 315) (ip := 888) (a := 276) (z := 162) (c := 0) (as := [.inr (.inl (some 94))]) (rest := []) (by decide +kernel) (by decide +kernel) rfl rfl (zrecv_v rfl (LX_t p0)) rfl).trans ?_
  rfl

theorem b315_889 {h : HP} {I : Nat → Int → Int} {x4 : Int} {x5 : Int} {x6 : Int} {sx0 : Int} : Go 315 889 [.inr (.inl (some 0)), .inr (.inl (some 1)), .inr (.inl (some 94)), .inr (.inl (some 139)), .inl x4, .inl x5, .inl x6] [.inl sx0] (mI h I) = if sx0 = x5 then Go 315 893 [.inr (.inl (some 0)), .inr (.inl (some 1)), .inr (.inl (some 94)), .inr (.inl (some 139)), .inl x4, .inl x5, .inl x6] [] (mI h I) else Go 315 891 [.inr (.inl (some 0)), .inr (.inl (some 1)), .inr (.inl (some 94)), .inr (.inl (some 139)), .inl x4, .inl x5, .inl x6] [] (mI h I) := by
  refine (Go_iload (h := mI h I) (y := 315) (ip := 889) (a := 0) (b := 5) (c := 0) (by decide +kernel) rfl).trans ?_
  refine (Go_cmpeq (y := 315) (ip := 890) (a := 0) (c := 893) (by decide +kernel)).trans ?_
  rfl

theorem b315_891 {h : HP} {I : Nat → Int → Int} {x4 : Int} {x5 : Int} {x6 : Int} : Go 315 891 [.inr (.inl (some 0)), .inr (.inl (some 1)), .inr (.inl (some 94)), .inr (.inl (some 139)), .inl x4, .inl x5, .inl x6] [] (mI h I) = some (mI h I, .inl (some (.inl 0))) := by
  refine (Go_const (h := mI h I) (y := 315) (ip := 891) (a := 0) (b := 0) (c := 0) (by decide +kernel)).trans ?_
  refine (Go_iret (h := mI h I) (y := 315) (ip := 892) (a := 0) (b := 0) (c := 0) (by decide +kernel) (Or.inr ⟨rfl, by decide⟩)).trans ?_
  rfl

theorem b315_893 {h : HP} {I : Nat → Int → Int} {x4 : Int} {x5 : Int} {x6 : Int} : Go 315 893 [.inr (.inl (some 0)), .inr (.inl (some 1)), .inr (.inl (some 94)), .inr (.inl (some 139)), .inl x4, .inl x5, .inl x6] [] (mI h I) = if x5 ≠ 0 then Go 315 907 [.inr (.inl (some 0)), .inr (.inl (some 1)), .inr (.inl (some 94)), .inr (.inl (some 139)), .inl x4, .inl x5, .inl x6] [] (mI h I) else Go 315 895 [.inr (.inl (some 0)), .inr (.inl (some 1)), .inr (.inl (some 94)), .inr (.inl (some 139)), .inl x4, .inl x5, .inl x6] [] (mI h I) := by
  refine (Go_iload (h := mI h I) (y := 315) (ip := 893) (a := 0) (b := 5) (c := 0) (by decide +kernel) rfl).trans ?_
  refine (Go_ifne (y := 315) (ip := 894) (a := 0) (c := 907) (by decide +kernel)).trans ?_
  rfl

theorem b315_895 {h : HP} {I : Nat → Int → Int} {x4 : Int} {x5 : Int} {x6 : Int} (p0 : hK h 139 = (2, 1)) : Go 315 895 [.inr (.inl (some 0)), .inr (.inl (some 1)), .inr (.inl (some 94)), .inr (.inl (some 139)), .inl x4, .inl x5, .inl x6] [] (mI h I) = if x6 = 0 then Go 315 902 [.inr (.inl (some 0)), .inr (.inl (some 1)), .inr (.inl (some 94)), .inr (.inl (some 139)), .inl x4, .inl x5, .inl x6] [.inr (.inr (I 139 0))] (mI h I) else Go 315 900 [.inr (.inl (some 0)), .inr (.inl (some 1)), .inr (.inl (some 94)), .inr (.inl (some 139)), .inl x4, .inl x5, .inl x6] [.inr (.inr (I 139 0))] (mI h I) := by
  refine (Go_aload (h := mI h I) (y := 315) (ip := 895) (a := 0) (b := 3) (c := 0) (by decide +kernel) rfl).trans ?_
  refine (Go_const (h := mI h I) (y := 315) (ip := 896) (a := 0) (b := 0) (c := 0) (by decide +kernel)).trans ?_
  refine (Go_ldl (h := mI h I) (y := 315) (ip := 897) (a := 0) (c := 0) (by decide +kernel) (p0) (by decide)).trans ?_
  refine (Go_iload (h := mI h I) (y := 315) (ip := 898) (a := 0) (b := 6) (c := 0) (by decide +kernel) rfl).trans ?_
  refine (Go_ifeq (y := 315) (ip := 899) (a := 0) (c := 902) (by decide +kernel)).trans ?_
  rfl

theorem b315_900 {h : HP} {I : Nat → Int → Int} {x4 : Int} {x5 : Int} {x6 : Int} {sw0 : Int} : Go 315 900 [.inr (.inl (some 0)), .inr (.inl (some 1)), .inr (.inl (some 94)), .inr (.inl (some 139)), .inl x4, .inl x5, .inl x6] [.inr (.inr sw0)] (mI h I) = Go 315 903 [.inr (.inl (some 0)), .inr (.inl (some 1)), .inr (.inl (some 94)), .inr (.inl (some 139)), .inl x4, .inl x5, .inl x6] [.inr (.inr 1), .inr (.inr sw0)] (mI h I) := by
  refine (Go_lconst (h := mI h I) (y := 315) (ip := 900) (a := 1) (b := 0) (c := 0) (by decide +kernel)).trans ?_
  refine (Go_goto (h := mI h I) (y := 315) (ip := 901) (a := 0) (b := 0) (c := 903) (by decide +kernel)).trans ?_
  rfl

theorem b315_902 {h : HP} {I : Nat → Int → Int} {x4 : Int} {x5 : Int} {x6 : Int} {sw0 : Int} : Go 315 902 [.inr (.inl (some 0)), .inr (.inl (some 1)), .inr (.inl (some 94)), .inr (.inl (some 139)), .inl x4, .inl x5, .inl x6] [.inr (.inr sw0)] (mI h I) = Go 315 903 [.inr (.inl (some 0)), .inr (.inl (some 1)), .inr (.inl (some 94)), .inr (.inl (some 139)), .inl x4, .inl x5, .inl x6] [.inr (.inr 0), .inr (.inr sw0)] (mI h I) := by
  refine (Go_lconst (h := mI h I) (y := 315) (ip := 902) (a := 0) (b := 0) (c := 0) (by decide +kernel)).trans ?_
  rfl

theorem b315_903 {h : HP} {I : Nat → Int → Int} {x4 : Int} {x5 : Int} {x6 : Int} {sw0 : Int} {sw1 : Int} : Go 315 903 [.inr (.inl (some 0)), .inr (.inl (some 1)), .inr (.inl (some 94)), .inr (.inl (some 139)), .inl x4, .inl x5, .inl x6] [.inr (.inr sw1), .inr (.inr sw0)] (mI h I) = if (if sw0 < sw1 then -1 else if sw0 = sw1 then 0 else 1 : Int) = 0 then Go 315 907 [.inr (.inl (some 0)), .inr (.inl (some 1)), .inr (.inl (some 94)), .inr (.inl (some 139)), .inl x4, .inl x5, .inl x6] [] (mI h I) else Go 315 905 [.inr (.inl (some 0)), .inr (.inl (some 1)), .inr (.inl (some 94)), .inr (.inl (some 139)), .inl x4, .inl x5, .inl x6] [] (mI h I) := by
  refine (Go_lcmp (h := mI h I) (y := 315) (ip := 903) (a := 0) (b := 0) (c := 0) (by decide +kernel)).trans ?_
  refine (Go_ifeq (y := 315) (ip := 904) (a := 0) (c := 907) (by decide +kernel)).trans ?_
  rfl

theorem b315_905 {h : HP} {I : Nat → Int → Int} {x4 : Int} {x5 : Int} {x6 : Int} : Go 315 905 [.inr (.inl (some 0)), .inr (.inl (some 1)), .inr (.inl (some 94)), .inr (.inl (some 139)), .inl x4, .inl x5, .inl x6] [] (mI h I) = some (mI h I, .inl (some (.inl 0))) := by
  refine (Go_const (h := mI h I) (y := 315) (ip := 905) (a := 0) (b := 0) (c := 0) (by decide +kernel)).trans ?_
  refine (Go_iret (h := mI h I) (y := 315) (ip := 906) (a := 0) (b := 0) (c := 0) (by decide +kernel) (Or.inr ⟨rfl, by decide⟩)).trans ?_
  rfl

theorem b315_907 {h : HP} {I : Nat → Int → Int} {x4 : Int} {x5 : Int} {x6 : Int} : Go 315 907 [.inr (.inl (some 0)), .inr (.inl (some 1)), .inr (.inl (some 94)), .inr (.inl (some 139)), .inl x4, .inl x5, .inl x6] [] (mI h I) = Go 315 1826 [.inr (.inl (some 0)), .inr (.inl (some 1)), .inr (.inl (some 94)), .inr (.inl (some 139)), .inl x4, .inl x5, .inl x6] [] (mI h I) := by
  refine (Go_goto (h := mI h I) (y := 315) (ip := 907) (a := 0) (b := 0) (c := 1826) (by decide +kernel)).trans ?_
  rfl

theorem b315_908 {h : HP} {I : Nat → Int → Int} {x4 : Int} {v5 : MV} {v6 : MV} {L : Int} (p0 : -2147483648 ≤ x4 + 1 ∧ x4 + 1 < 2147483648) (p1 : hK h 0 = (6, L)) (p2 : 0 ≤ x4 + 1 ∧ x4 + 1 < L) (p3 : -2147483648 ≤ x4 + 2 ∧ x4 + 2 < 2147483648) (p4 : 0 ≤ x4 + 2 ∧ x4 + 2 < L) (p5 : -2147483648 ≤ x4 + 3 ∧ x4 + 3 < 2147483648) (p6 : 0 ≤ x4 + 3 ∧ x4 + 3 < L) : Go 315 908 [.inr (.inl (some 0)), .inr (.inl (some 1)), .inr (.inl (some 94)), .inr (.inl (some 139)), .inl x4, v5, v6] [] (mI h I) = caln 315 [.inr (.inl (some 0)), .inr (.inl (some 1)), .inr (.inl (some 94)), .inr (.inl (some 139)), .inl x4, v5, v6] [] 926 (Go 295 0 [.inr (.inl (some 1)), .inl (I 0 (x4 + 1)), .inl (I 0 (x4 + 2)), .inl (I 0 (x4 + 3)), .inr (.inl (some 139)), vU] [] (mI h I)) := by
  refine (Go_aload (h := mI h I) (y := 315) (ip := 908) (a := 0) (b := 1) (c := 0) (by decide +kernel) rfl).trans ?_
  refine (Go_aload (h := mI h I) (y := 315) (ip := 909) (a := 0) (b := 0) (c := 0) (by decide +kernel) rfl).trans ?_
  refine (Go_iload (h := mI h I) (y := 315) (ip := 910) (a := 0) (b := 4) (c := 0) (by decide +kernel) rfl).trans ?_
  refine (Go_const (h := mI h I) (y := 315) (ip := 911) (a := 1) (b := 0) (c := 0) (by decide +kernel)).trans ?_
  refine (Go_ar (op := 4) (x := x4 + 1) (h := mI h I) (y := 315) (ip := 912) (a := 0) (b := 0) (c := 0) (by decide +kernel) rfl (zar4 p0)).trans ?_
  refine (Go_ald (h := mI h I) (y := 315) (ip := 913) (a := 0) (b := 0) (c := 0) (by decide +kernel) rfl (p1) rfl p2).trans ?_
  refine (Go_aload (h := mI h I) (y := 315) (ip := 914) (a := 0) (b := 0) (c := 0) (by decide +kernel) rfl).trans ?_
  refine (Go_iload (h := mI h I) (y := 315) (ip := 915) (a := 0) (b := 4) (c := 0) (by decide +kernel) rfl).trans ?_
  refine (Go_const (h := mI h I) (y := 315) (ip := 916) (a := 2) (b := 0) (c := 0) (by decide +kernel)).trans ?_
  refine (Go_ar (op := 4) (x := x4 + 2) (h := mI h I) (y := 315) (ip := 917) (a := 0) (b := 0) (c := 0) (by decide +kernel) rfl (zar4 p3)).trans ?_
  refine (Go_ald (h := mI h I) (y := 315) (ip := 918) (a := 0) (b := 0) (c := 0) (by decide +kernel) rfl (p1) rfl p4).trans ?_
  refine (Go_aload (h := mI h I) (y := 315) (ip := 919) (a := 0) (b := 0) (c := 0) (by decide +kernel) rfl).trans ?_
  refine (Go_iload (h := mI h I) (y := 315) (ip := 920) (a := 0) (b := 4) (c := 0) (by decide +kernel) rfl).trans ?_
  refine (Go_const (h := mI h I) (y := 315) (ip := 921) (a := 3) (b := 0) (c := 0) (by decide +kernel)).trans ?_
  refine (Go_ar (op := 4) (x := x4 + 3) (h := mI h I) (y := 315) (ip := 922) (a := 0) (b := 0) (c := 0) (by decide +kernel) rfl (zar4 p5)).trans ?_
  refine (Go_ald (h := mI h I) (y := 315) (ip := 923) (a := 0) (b := 0) (c := 0) (by decide +kernel) rfl (p1) rfl p6).trans ?_
  refine (Go_aload (h := mI h I) (y := 315) (ip := 924) (a := 0) (b := 3) (c := 0) (by decide +kernel) rfl).trans ?_
  refine (Go_call2 (h := mI h I) (y := 315) (ip := 925) (a := 319) (z := 295) (c := 1) (as := [.inr (.inl (some 1)), .inl (I 0 (x4 + 1)), .inl (I 0 (x4 + 2)), .inl (I 0 (x4 + 3)), .inr (.inl (some 139))]) (rest := []) (by decide +kernel) (by decide +kernel) rfl rfl rfl rfl).trans ?_
  rfl

theorem b315_926 {h : HP} {I : Nat → Int → Int} {x4 : Int} {v5 : MV} {v6 : MV} {sx0 : Int} {L : Int} (p0 : -2147483648 ≤ x4 + 1 ∧ x4 + 1 < 2147483648) (p1 : hK h 0 = (6, L)) (p2 : 0 ≤ x4 + 1 ∧ x4 + 1 < L) (p3 : -2147483648 ≤ x4 + 2 ∧ x4 + 2 < 2147483648) (p4 : 0 ≤ x4 + 2 ∧ x4 + 2 < L) (p5 : -2147483648 ≤ x4 + 3 ∧ x4 + 3 < 2147483648) (p6 : 0 ≤ x4 + 3 ∧ x4 + 3 < L) (p7 : LX 11 h 94) : Go 315 926 [.inr (.inl (some 0)), .inr (.inl (some 1)), .inr (.inl (some 94)), .inr (.inl (some 139)), .inl x4, v5, v6] [.inl sx0] (mI h I) = caln 315 [.inr (.inl (some 0)), .inr (.inl (some 1)), .inr (.inl (some 94)), .inr (.inl (some 139)), .inl x4, .inl sx0, v6] [] 944 (Go 228 0 [.inr (.inl (some 94)), .inl (I 0 (x4 + 1)), .inl (I 0 (x4 + 2)), .inl (I 0 (x4 + 3)), vU, vU, vU, vU] [] (mI h I)) := by
  refine (Go_istore (h := mI h I) (y := 315) (ip := 926) (a := 0) (b := 5) (c := 0) (by decide +kernel) rfl).trans ?_
  refine (Go_aload (h := mI h I) (y := 315) (ip := 927) (a := 0) (b := 2) (c := 0) (by decide +kernel) rfl).trans ?_
  refine (Go_aload (h := mI h I) (y := 315) (ip := 928) (a := 0) (b := 0) (c := 0) (by decide +kernel) rfl).trans ?_
  refine (Go_iload (h := mI h I) (y := 315) (ip := 929) (a := 0) (b := 4) (c := 0) (by decide +kernel) rfl).trans ?_
  refine (Go_const (h := mI h I) (y := 315) (ip := 930) (a := 1) (b := 0) (c := 0) (by decide +kernel)).trans ?_
  refine (Go_ar (op := 4) (x := x4 + 1) (h := mI h I) (y := 315) (ip := 931) (a := 0) (b := 0) (c := 0) (by decide +kernel) rfl (zar4 p0)).trans ?_
  refine (Go_ald (h := mI h I) (y := 315) (ip := 932) (a := 0) (b := 0) (c := 0) (by decide +kernel) rfl (p1) rfl p2).trans ?_
  refine (Go_aload (h := mI h I) (y := 315) (ip := 933) (a := 0) (b := 0) (c := 0) (by decide +kernel) rfl).trans ?_
  refine (Go_iload (h := mI h I) (y := 315) (ip := 934) (a := 0) (b := 4) (c := 0) (by decide +kernel) rfl).trans ?_
  refine (Go_const (h := mI h I) (y := 315) (ip := 935) (a := 2) (b := 0) (c := 0) (by decide +kernel)).trans ?_
  refine (Go_ar (op := 4) (x := x4 + 2) (h := mI h I) (y := 315) (ip := 936) (a := 0) (b := 0) (c := 0) (by decide +kernel) rfl (zar4 p3)).trans ?_
  refine (Go_ald (h := mI h I) (y := 315) (ip := 937) (a := 0) (b := 0) (c := 0) (by decide +kernel) rfl (p1) rfl p4).trans ?_
  refine (Go_aload (h := mI h I) (y := 315) (ip := 938) (a := 0) (b := 0) (c := 0) (by decide +kernel) rfl).trans ?_
  refine (Go_iload (h := mI h I) (y := 315) (ip := 939) (a := 0) (b := 4) (c := 0) (by decide +kernel) rfl).trans ?_
  refine (Go_const (h := mI h I) (y := 315) (ip := 940) (a := 3) (b := 0) (c := 0) (by decide +kernel)).trans ?_
  refine (Go_ar (op := 4) (x := x4 + 3) (h := mI h I) (y := 315) (ip := 941) (a := 0) (b := 0) (c := 0) (by decide +kernel) rfl (zar4 p5)).trans ?_
  refine (Go_ald (h := mI h I) (y := 315) (ip := 942) (a := 0) (b := 0) (c := 0) (by decide +kernel) rfl (p1) rfl p6).trans ?_
  refine (Go_call2 (h := mI h I) (y := 315) (ip := 943) (a := 320) (z := 228) (c := 0) (as := [.inr (.inl (some 94)), .inl (I 0 (x4 + 1)), .inl (I 0 (x4 + 2)), .inl (I 0 (x4 + 3))]) (rest := []) (by decide +kernel) (by decide +kernel) rfl rfl (zrecv_v rfl (LX_t p7)) rfl).trans ?_
  rfl

theorem b315_944 {h : HP} {I : Nat → Int → Int} {x4 : Int} {x5 : Int} {v6 : MV} {sx0 : Int} (p0 : LX 11 h 94) : Go 315 944 [.inr (.inl (some 0)), .inr (.inl (some 1)), .inr (.inl (some 94)), .inr (.inl (some 139)), .inl x4, .inl x5, v6] [.inl sx0] (mI h I) = caln 315 [.inr (.inl (some 0)), .inr (.inl (some 1)), .inr (.inl (some 94)), .inr (.inl (some 139)), .inl x4, .inl x5, .inl sx0] [] 947 (Go 162 0 [.inr (.inl (some 94))] [] (mI h I)) := by
  refine (Go_istore (h := mI h I) (y := 315) (ip := 944) (a := 0) (b := 6) (c := 0) (by decide +kernel) rfl).trans ?_
  refine (Go_aload (h := mI h I) (y := 315) (ip := 945) (a := 0) (b := 2) (c := 0) (by decide +kernel) rfl).trans ?_
  refine (Go_call2 (h := mI h I) (y := 315) (ip := 946) (a := 276) (z := 162) (c := 0) (as := [.inr (.inl (some 94))]) (rest := []) (by decide +kernel) (by decide +kernel) rfl rfl (zrecv_v rfl (LX_t p0)) rfl).trans ?_
  rfl

theorem b315_947 {h : HP} {I : Nat → Int → Int} {x4 : Int} {x5 : Int} {x6 : Int} {sx0 : Int} : Go 315 947 [.inr (.inl (some 0)), .inr (.inl (some 1)), .inr (.inl (some 94)), .inr (.inl (some 139)), .inl x4, .inl x5, .inl x6] [.inl sx0] (mI h I) = if sx0 = x5 then Go 315 951 [.inr (.inl (some 0)), .inr (.inl (some 1)), .inr (.inl (some 94)), .inr (.inl (some 139)), .inl x4, .inl x5, .inl x6] [] (mI h I) else Go 315 949 [.inr (.inl (some 0)), .inr (.inl (some 1)), .inr (.inl (some 94)), .inr (.inl (some 139)), .inl x4, .inl x5, .inl x6] [] (mI h I) := by
  refine (Go_iload (h := mI h I) (y := 315) (ip := 947) (a := 0) (b := 5) (c := 0) (by decide +kernel) rfl).trans ?_
  refine (Go_cmpeq (y := 315) (ip := 948) (a := 0) (c := 951) (by decide +kernel)).trans ?_
  rfl

theorem b315_949 {h : HP} {I : Nat → Int → Int} {x4 : Int} {x5 : Int} {x6 : Int} : Go 315 949 [.inr (.inl (some 0)), .inr (.inl (some 1)), .inr (.inl (some 94)), .inr (.inl (some 139)), .inl x4, .inl x5, .inl x6] [] (mI h I) = some (mI h I, .inl (some (.inl 0))) := by
  refine (Go_const (h := mI h I) (y := 315) (ip := 949) (a := 0) (b := 0) (c := 0) (by decide +kernel)).trans ?_
  refine (Go_iret (h := mI h I) (y := 315) (ip := 950) (a := 0) (b := 0) (c := 0) (by decide +kernel) (Or.inr ⟨rfl, by decide⟩)).trans ?_
  rfl

theorem b315_951 {h : HP} {I : Nat → Int → Int} {x4 : Int} {x5 : Int} {x6 : Int} : Go 315 951 [.inr (.inl (some 0)), .inr (.inl (some 1)), .inr (.inl (some 94)), .inr (.inl (some 139)), .inl x4, .inl x5, .inl x6] [] (mI h I) = if x5 ≠ 0 then Go 315 962 [.inr (.inl (some 0)), .inr (.inl (some 1)), .inr (.inl (some 94)), .inr (.inl (some 139)), .inl x4, .inl x5, .inl x6] [] (mI h I) else Go 315 953 [.inr (.inl (some 0)), .inr (.inl (some 1)), .inr (.inl (some 94)), .inr (.inl (some 139)), .inl x4, .inl x5, .inl x6] [] (mI h I) := by
  refine (Go_iload (h := mI h I) (y := 315) (ip := 951) (a := 0) (b := 5) (c := 0) (by decide +kernel) rfl).trans ?_
  refine (Go_ifne (y := 315) (ip := 952) (a := 0) (c := 962) (by decide +kernel)).trans ?_
  rfl

theorem b315_953 {h : HP} {I : Nat → Int → Int} {x4 : Int} {x5 : Int} {x6 : Int} (p0 : hK h 139 = (2, 1)) : Go 315 953 [.inr (.inl (some 0)), .inr (.inl (some 1)), .inr (.inl (some 94)), .inr (.inl (some 139)), .inl x4, .inl x5, .inl x6] [] (mI h I) = if (if I 139 0 < x6 then -1 else if I 139 0 = x6 then 0 else 1 : Int) = 0 then Go 315 962 [.inr (.inl (some 0)), .inr (.inl (some 1)), .inr (.inl (some 94)), .inr (.inl (some 139)), .inl x4, .inl x5, .inl x6] [] (mI h I) else Go 315 960 [.inr (.inl (some 0)), .inr (.inl (some 1)), .inr (.inl (some 94)), .inr (.inl (some 139)), .inl x4, .inl x5, .inl x6] [] (mI h I) := by
  refine (Go_aload (h := mI h I) (y := 315) (ip := 953) (a := 0) (b := 3) (c := 0) (by decide +kernel) rfl).trans ?_
  refine (Go_const (h := mI h I) (y := 315) (ip := 954) (a := 0) (b := 0) (c := 0) (by decide +kernel)).trans ?_
  refine (Go_ldl (h := mI h I) (y := 315) (ip := 955) (a := 0) (c := 0) (by decide +kernel) (p0) (by decide)).trans ?_
  refine (Go_iload (h := mI h I) (y := 315) (ip := 956) (a := 0) (b := 6) (c := 0) (by decide +kernel) rfl).trans ?_
  refine (Go_i2l (h := mI h I) (y := 315) (ip := 957) (a := 0) (b := 0) (c := 0) (by decide +kernel)).trans ?_
  refine (Go_lcmp (h := mI h I) (y := 315) (ip := 958) (a := 0) (b := 0) (c := 0) (by decide +kernel)).trans ?_
  refine (Go_ifeq (y := 315) (ip := 959) (a := 0) (c := 962) (by decide +kernel)).trans ?_
  rfl

theorem b315_960 {h : HP} {I : Nat → Int → Int} {x4 : Int} {x5 : Int} {x6 : Int} : Go 315 960 [.inr (.inl (some 0)), .inr (.inl (some 1)), .inr (.inl (some 94)), .inr (.inl (some 139)), .inl x4, .inl x5, .inl x6] [] (mI h I) = some (mI h I, .inl (some (.inl 0))) := by
  refine (Go_const (h := mI h I) (y := 315) (ip := 960) (a := 0) (b := 0) (c := 0) (by decide +kernel)).trans ?_
  refine (Go_iret (h := mI h I) (y := 315) (ip := 961) (a := 0) (b := 0) (c := 0) (by decide +kernel) (Or.inr ⟨rfl, by decide⟩)).trans ?_
  rfl

theorem b315_962 {h : HP} {I : Nat → Int → Int} {x4 : Int} {x5 : Int} {x6 : Int} : Go 315 962 [.inr (.inl (some 0)), .inr (.inl (some 1)), .inr (.inl (some 94)), .inr (.inl (some 139)), .inl x4, .inl x5, .inl x6] [] (mI h I) = Go 315 1826 [.inr (.inl (some 0)), .inr (.inl (some 1)), .inr (.inl (some 94)), .inr (.inl (some 139)), .inl x4, .inl x5, .inl x6] [] (mI h I) := by
  refine (Go_goto (h := mI h I) (y := 315) (ip := 962) (a := 0) (b := 0) (c := 1826) (by decide +kernel)).trans ?_
  rfl

theorem b315_963 {h : HP} {I : Nat → Int → Int} {x4 : Int} {v5 : MV} {v6 : MV} {L : Int} (p0 : -2147483648 ≤ x4 + 1 ∧ x4 + 1 < 2147483648) (p1 : hK h 0 = (6, L)) (p2 : 0 ≤ x4 + 1 ∧ x4 + 1 < L) (p3 : -2147483648 ≤ x4 + 2 ∧ x4 + 2 < 2147483648) (p4 : 0 ≤ x4 + 2 ∧ x4 + 2 < L) (p5 : -2147483648 ≤ x4 + 3 ∧ x4 + 3 < 2147483648) (p6 : 0 ≤ x4 + 3 ∧ x4 + 3 < L) : Go 315 963 [.inr (.inl (some 0)), .inr (.inl (some 1)), .inr (.inl (some 94)), .inr (.inl (some 139)), .inl x4, v5, v6] [] (mI h I) = caln 315 [.inr (.inl (some 0)), .inr (.inl (some 1)), .inr (.inl (some 94)), .inr (.inl (some 139)), .inl x4, v5, v6] [] 981 (Go 296 0 [.inr (.inl (some 1)), .inl (I 0 (x4 + 1)), .inl (I 0 (x4 + 2)), .inl (I 0 (x4 + 3)), .inr (.inl (some 139)), vU] [] (mI h I)) := by
  refine (Go_aload (h := mI h I) (y := 315) (ip := 963) (a := 0) (b := 1) (c := 0) (by decide +kernel) rfl).trans ?_
  refine (Go_aload (h := mI h I) (y := 315) (ip := 964) (a := 0) (b := 0) (c := 0) (by decide +kernel) rfl).trans ?_
  refine (Go_iload (h := mI h I) (y := 315) (ip := 965) (a := 0) (b := 4) (c := 0) (by decide +kernel) rfl).trans ?_
  refine (Go_const (h := mI h I) (y := 315) (ip := 966) (a := 1) (b := 0) (c := 0) (by decide +kernel)).trans ?_
  refine (Go_ar (op := 4) (x := x4 + 1) (h := mI h I) (y := 315) (ip := 967) (a := 0) (b := 0) (c := 0) (by decide +kernel) rfl (zar4 p0)).trans ?_
  refine (Go_ald (h := mI h I) (y := 315) (ip := 968) (a := 0) (b := 0) (c := 0) (by decide +kernel) rfl (p1) rfl p2).trans ?_
  refine (Go_aload (h := mI h I) (y := 315) (ip := 969) (a := 0) (b := 0) (c := 0) (by decide +kernel) rfl).trans ?_
  refine (Go_iload (h := mI h I) (y := 315) (ip := 970) (a := 0) (b := 4) (c := 0) (by decide +kernel) rfl).trans ?_
  refine (Go_const (h := mI h I) (y := 315) (ip := 971) (a := 2) (b := 0) (c := 0) (by decide +kernel)).trans ?_
  refine (Go_ar (op := 4) (x := x4 + 2) (h := mI h I) (y := 315) (ip := 972) (a := 0) (b := 0) (c := 0) (by decide +kernel) rfl (zar4 p3)).trans ?_
  refine (Go_ald (h := mI h I) (y := 315) (ip := 973) (a := 0) (b := 0) (c := 0) (by decide +kernel) rfl (p1) rfl p4).trans ?_
  refine (Go_aload (h := mI h I) (y := 315) (ip := 974) (a := 0) (b := 0) (c := 0) (by decide +kernel) rfl).trans ?_
  refine (Go_iload (h := mI h I) (y := 315) (ip := 975) (a := 0) (b := 4) (c := 0) (by decide +kernel) rfl).trans ?_
  refine (Go_const (h := mI h I) (y := 315) (ip := 976) (a := 3) (b := 0) (c := 0) (by decide +kernel)).trans ?_
  refine (Go_ar (op := 4) (x := x4 + 3) (h := mI h I) (y := 315) (ip := 977) (a := 0) (b := 0) (c := 0) (by decide +kernel) rfl (zar4 p5)).trans ?_
  refine (Go_ald (h := mI h I) (y := 315) (ip := 978) (a := 0) (b := 0) (c := 0) (by decide +kernel) rfl (p1) rfl p6).trans ?_
  refine (Go_aload (h := mI h I) (y := 315) (ip := 979) (a := 0) (b := 3) (c := 0) (by decide +kernel) rfl).trans ?_
  refine (Go_call2 (h := mI h I) (y := 315) (ip := 980) (a := 321) (z := 296) (c := 1) (as := [.inr (.inl (some 1)), .inl (I 0 (x4 + 1)), .inl (I 0 (x4 + 2)), .inl (I 0 (x4 + 3)), .inr (.inl (some 139))]) (rest := []) (by decide +kernel) (by decide +kernel) rfl rfl rfl rfl).trans ?_
  rfl

theorem b315_981 {h : HP} {I : Nat → Int → Int} {x4 : Int} {v5 : MV} {v6 : MV} {sx0 : Int} {L : Int} (p0 : -2147483648 ≤ x4 + 1 ∧ x4 + 1 < 2147483648) (p1 : hK h 0 = (6, L)) (p2 : 0 ≤ x4 + 1 ∧ x4 + 1 < L) (p3 : -2147483648 ≤ x4 + 2 ∧ x4 + 2 < 2147483648) (p4 : 0 ≤ x4 + 2 ∧ x4 + 2 < L) (p5 : -2147483648 ≤ x4 + 3 ∧ x4 + 3 < 2147483648) (p6 : 0 ≤ x4 + 3 ∧ x4 + 3 < L) (p7 : LX 11 h 94) : Go 315 981 [.inr (.inl (some 0)), .inr (.inl (some 1)), .inr (.inl (some 94)), .inr (.inl (some 139)), .inl x4, v5, v6] [.inl sx0] (mI h I) = caln 315 [.inr (.inl (some 0)), .inr (.inl (some 1)), .inr (.inl (some 94)), .inr (.inl (some 139)), .inl x4, .inl sx0, v6] [] 999 (Go 232 0 [.inr (.inl (some 94)), .inl (I 0 (x4 + 1)), .inl (I 0 (x4 + 2)), .inl (I 0 (x4 + 3)), vU, vU] [] (mI h I)) := by
  refine (Go_istore (h := mI h I) (y := 315) (ip := 981) (a := 0) (b := 5) (c := 0) (by decide +kernel) rfl).trans ?_
  refine (Go_aload (h := mI h I) (y := 315) (ip := 982) (a := 0) (b := 2) (c := 0) (by decide +kernel) rfl).trans ?_
  refine (Go_aload (h := mI h I) (y := 315) (ip := 983) (a := 0) (b := 0) (c := 0) (by decide +kernel) rfl).trans ?_
  refine (Go_iload (h := mI h I) (y := 315) (ip := 984) (a := 0) (b := 4) (c := 0) (by decide +kernel) rfl).trans ?_
  refine (Go_const (h := mI h I) (y := 315) (ip := 985) (a := 1) (b := 0) (c := 0) (by decide +kernel)).trans ?_
  refine (Go_ar (op := 4) (x := x4 + 1) (h := mI h I) (y := 315) (ip := 986) (a := 0) (b := 0) (c := 0) (by decide +kernel) rfl (zar4 p0)).trans ?_
  refine (Go_ald (h := mI h I) (y := 315) (ip := 987) (a := 0) (b := 0) (c := 0) (by decide +kernel) rfl (p1) rfl p2).trans ?_
  refine (Go_aload (h := mI h I) (y := 315) (ip := 988) (a := 0) (b := 0) (c := 0) (by decide +kernel) rfl).trans ?_
  refine (Go_iload (h := mI h I) (y := 315) (ip := 989) (a := 0) (b := 4) (c := 0) (by decide +kernel) rfl).trans ?_
  refine (Go_const (h := mI h I) (y := 315) (ip := 990) (a := 2) (b := 0) (c := 0) (by decide +kernel)).trans ?_
  refine (Go_ar (op := 4) (x := x4 + 2) (h := mI h I) (y := 315) (ip := 991) (a := 0) (b := 0) (c := 0) (by decide +kernel) rfl (zar4 p3)).trans ?_
  refine (Go_ald (h := mI h I) (y := 315) (ip := 992) (a := 0) (b := 0) (c := 0) (by decide +kernel) rfl (p1) rfl p4).trans ?_
  refine (Go_aload (h := mI h I) (y := 315) (ip := 993) (a := 0) (b := 0) (c := 0) (by decide +kernel) rfl).trans ?_
  refine (Go_iload (h := mI h I) (y := 315) (ip := 994) (a := 0) (b := 4) (c := 0) (by decide +kernel) rfl).trans ?_
  refine (Go_const (h := mI h I) (y := 315) (ip := 995) (a := 3) (b := 0) (c := 0) (by decide +kernel)).trans ?_
  refine (Go_ar (op := 4) (x := x4 + 3) (h := mI h I) (y := 315) (ip := 996) (a := 0) (b := 0) (c := 0) (by decide +kernel) rfl (zar4 p5)).trans ?_
  refine (Go_ald (h := mI h I) (y := 315) (ip := 997) (a := 0) (b := 0) (c := 0) (by decide +kernel) rfl (p1) rfl p6).trans ?_
  refine (Go_call2 (h := mI h I) (y := 315) (ip := 998) (a := 322) (z := 232) (c := 0) (as := [.inr (.inl (some 94)), .inl (I 0 (x4 + 1)), .inl (I 0 (x4 + 2)), .inl (I 0 (x4 + 3))]) (rest := []) (by decide +kernel) (by decide +kernel) rfl rfl (zrecv_v rfl (LX_t p7)) rfl).trans ?_
  rfl

theorem b315_999 {h : HP} {I : Nat → Int → Int} {x4 : Int} {x5 : Int} {v6 : MV} {sx0 : Int} (p0 : LX 11 h 94) : Go 315 999 [.inr (.inl (some 0)), .inr (.inl (some 1)), .inr (.inl (some 94)), .inr (.inl (some 139)), .inl x4, .inl x5, v6] [.inl sx0] (mI h I) = caln 315 [.inr (.inl (some 0)), .inr (.inl (some 1)), .inr (.inl (some 94)), .inr (.inl (some 139)), .inl x4, .inl x5, .inl sx0] [] 1002 (Go 162 0 [.inr (.inl (some 94))] [] (mI h I)) := by
  refine (Go_istore (h := mI h I) (y := 315) (ip := 999) (a := 0) (b := 6) (c := 0) (by decide +kernel) rfl).trans ?_
  refine (Go_aload (h := mI h I) (y := 315) (ip := 1000) (a := 0) (b := 2) (c := 0) (by decide +kernel) rfl).trans ?_
  refine (Go_call2 (h := mI h I) (y := 315) (ip := 1001) (a := 276) (z := 162) (c := 0) (as := [.inr (.inl (some 94))]) (rest := []) (by decide +kernel) (by decide +kernel) rfl rfl (zrecv_v rfl (LX_t p0)) rfl).trans ?_
  rfl

theorem b315_1002 {h : HP} {I : Nat → Int → Int} {x4 : Int} {x5 : Int} {x6 : Int} {sx0 : Int} : Go 315 1002 [.inr (.inl (some 0)), .inr (.inl (some 1)), .inr (.inl (some 94)), .inr (.inl (some 139)), .inl x4, .inl x5, .inl x6] [.inl sx0] (mI h I) = if sx0 = x5 then Go 315 1006 [.inr (.inl (some 0)), .inr (.inl (some 1)), .inr (.inl (some 94)), .inr (.inl (some 139)), .inl x4, .inl x5, .inl x6] [] (mI h I) else Go 315 1004 [.inr (.inl (some 0)), .inr (.inl (some 1)), .inr (.inl (some 94)), .inr (.inl (some 139)), .inl x4, .inl x5, .inl x6] [] (mI h I) := by
  refine (Go_iload (h := mI h I) (y := 315) (ip := 1002) (a := 0) (b := 5) (c := 0) (by decide +kernel) rfl).trans ?_
  refine (Go_cmpeq (y := 315) (ip := 1003) (a := 0) (c := 1006) (by decide +kernel)).trans ?_
  rfl

theorem b315_1004 {h : HP} {I : Nat → Int → Int} {x4 : Int} {x5 : Int} {x6 : Int} : Go 315 1004 [.inr (.inl (some 0)), .inr (.inl (some 1)), .inr (.inl (some 94)), .inr (.inl (some 139)), .inl x4, .inl x5, .inl x6] [] (mI h I) = some (mI h I, .inl (some (.inl 0))) := by
  refine (Go_const (h := mI h I) (y := 315) (ip := 1004) (a := 0) (b := 0) (c := 0) (by decide +kernel)).trans ?_
  refine (Go_iret (h := mI h I) (y := 315) (ip := 1005) (a := 0) (b := 0) (c := 0) (by decide +kernel) (Or.inr ⟨rfl, by decide⟩)).trans ?_
  rfl

theorem b315_1006 {h : HP} {I : Nat → Int → Int} {x4 : Int} {x5 : Int} {x6 : Int} : Go 315 1006 [.inr (.inl (some 0)), .inr (.inl (some 1)), .inr (.inl (some 94)), .inr (.inl (some 139)), .inl x4, .inl x5, .inl x6] [] (mI h I) = if x5 ≠ 0 then Go 315 1017 [.inr (.inl (some 0)), .inr (.inl (some 1)), .inr (.inl (some 94)), .inr (.inl (some 139)), .inl x4, .inl x5, .inl x6] [] (mI h I) else Go 315 1008 [.inr (.inl (some 0)), .inr (.inl (some 1)), .inr (.inl (some 94)), .inr (.inl (some 139)), .inl x4, .inl x5, .inl x6] [] (mI h I) := by
  refine (Go_iload (h := mI h I) (y := 315) (ip := 1006) (a := 0) (b := 5) (c := 0) (by decide +kernel) rfl).trans ?_
  refine (Go_ifne (y := 315) (ip := 1007) (a := 0) (c := 1017) (by decide +kernel)).trans ?_
  rfl

theorem b315_1008 {h : HP} {I : Nat → Int → Int} {x4 : Int} {x5 : Int} {x6 : Int} (p0 : hK h 139 = (2, 1)) : Go 315 1008 [.inr (.inl (some 0)), .inr (.inl (some 1)), .inr (.inl (some 94)), .inr (.inl (some 139)), .inl x4, .inl x5, .inl x6] [] (mI h I) = if (if I 139 0 < x6 then -1 else if I 139 0 = x6 then 0 else 1 : Int) = 0 then Go 315 1017 [.inr (.inl (some 0)), .inr (.inl (some 1)), .inr (.inl (some 94)), .inr (.inl (some 139)), .inl x4, .inl x5, .inl x6] [] (mI h I) else Go 315 1015 [.inr (.inl (some 0)), .inr (.inl (some 1)), .inr (.inl (some 94)), .inr (.inl (some 139)), .inl x4, .inl x5, .inl x6] [] (mI h I) := by
  refine (Go_aload (h := mI h I) (y := 315) (ip := 1008) (a := 0) (b := 3) (c := 0) (by decide +kernel) rfl).trans ?_
  refine (Go_const (h := mI h I) (y := 315) (ip := 1009) (a := 0) (b := 0) (c := 0) (by decide +kernel)).trans ?_
  refine (Go_ldl (h := mI h I) (y := 315) (ip := 1010) (a := 0) (c := 0) (by decide +kernel) (p0) (by decide)).trans ?_
  refine (Go_iload (h := mI h I) (y := 315) (ip := 1011) (a := 0) (b := 6) (c := 0) (by decide +kernel) rfl).trans ?_
  refine (Go_i2l (h := mI h I) (y := 315) (ip := 1012) (a := 0) (b := 0) (c := 0) (by decide +kernel)).trans ?_
  refine (Go_lcmp (h := mI h I) (y := 315) (ip := 1013) (a := 0) (b := 0) (c := 0) (by decide +kernel)).trans ?_
  refine (Go_ifeq (y := 315) (ip := 1014) (a := 0) (c := 1017) (by decide +kernel)).trans ?_
  rfl

theorem b315_1015 {h : HP} {I : Nat → Int → Int} {x4 : Int} {x5 : Int} {x6 : Int} : Go 315 1015 [.inr (.inl (some 0)), .inr (.inl (some 1)), .inr (.inl (some 94)), .inr (.inl (some 139)), .inl x4, .inl x5, .inl x6] [] (mI h I) = some (mI h I, .inl (some (.inl 0))) := by
  refine (Go_const (h := mI h I) (y := 315) (ip := 1015) (a := 0) (b := 0) (c := 0) (by decide +kernel)).trans ?_
  refine (Go_iret (h := mI h I) (y := 315) (ip := 1016) (a := 0) (b := 0) (c := 0) (by decide +kernel) (Or.inr ⟨rfl, by decide⟩)).trans ?_
  rfl

theorem b315_1017 {h : HP} {I : Nat → Int → Int} {x4 : Int} {x5 : Int} {x6 : Int} : Go 315 1017 [.inr (.inl (some 0)), .inr (.inl (some 1)), .inr (.inl (some 94)), .inr (.inl (some 139)), .inl x4, .inl x5, .inl x6] [] (mI h I) = Go 315 1826 [.inr (.inl (some 0)), .inr (.inl (some 1)), .inr (.inl (some 94)), .inr (.inl (some 139)), .inl x4, .inl x5, .inl x6] [] (mI h I) := by
  refine (Go_goto (h := mI h I) (y := 315) (ip := 1017) (a := 0) (b := 0) (c := 1826) (by decide +kernel)).trans ?_
  rfl

theorem b315_1018 {h : HP} {I : Nat → Int → Int} {x4 : Int} {v5 : MV} {v6 : MV} {L : Int} (p0 : -2147483648 ≤ x4 + 1 ∧ x4 + 1 < 2147483648) (p1 : hK h 0 = (6, L)) (p2 : 0 ≤ x4 + 1 ∧ x4 + 1 < L) : Go 315 1018 [.inr (.inl (some 0)), .inr (.inl (some 1)), .inr (.inl (some 94)), .inr (.inl (some 139)), .inl x4, v5, v6] [] (mI h I) = caln 315 [.inr (.inl (some 0)), .inr (.inl (some 1)), .inr (.inl (some 94)), .inr (.inl (some 139)), .inl x4, v5, v6] [] 1026 (Go 297 0 [.inr (.inl (some 1)), .inl (I 0 (x4 + 1)), .inr (.inl (some 139)), vU] [] (mI h I)) := by
  refine (Go_aload (h := mI h I) (y := 315) (ip := 1018) (a := 0) (b := 1) (c := 0) (by decide +kernel) rfl).trans ?_
  refine (Go_aload (h := mI h I) (y := 315) (ip := 1019) (a := 0) (b := 0) (c := 0) (by decide +kernel) rfl).trans ?_
  refine (Go_iload (h := mI h I) (y := 315) (ip := 1020) (a := 0) (b := 4) (c := 0) (by decide +kernel) rfl).trans ?_
  refine (Go_const (h := mI h I) (y := 315) (ip := 1021) (a := 1) (b := 0) (c := 0) (by decide +kernel)).trans ?_
  refine (Go_ar (op := 4) (x := x4 + 1) (h := mI h I) (y := 315) (ip := 1022) (a := 0) (b := 0) (c := 0) (by decide +kernel) rfl (zar4 p0)).trans ?_
  refine (Go_ald (h := mI h I) (y := 315) (ip := 1023) (a := 0) (b := 0) (c := 0) (by decide +kernel) rfl (p1) rfl p2).trans ?_
  refine (Go_aload (h := mI h I) (y := 315) (ip := 1024) (a := 0) (b := 3) (c := 0) (by decide +kernel) rfl).trans ?_
  refine (Go_call2 (h := mI h I) (y := 315) (ip := 1025) (a := 323) (z := 297) (c := 1) (as := [.inr (.inl (some 1)), .inl (I 0 (x4 + 1)), .inr (.inl (some 139))]) (rest := []) (by decide +kernel) (by decide +kernel) rfl rfl rfl rfl).trans ?_
  rfl

theorem b315_1026 {h : HP} {I : Nat → Int → Int} {x4 : Int} {v5 : MV} {v6 : MV} {sx0 : Int} {L : Int} (p0 : -2147483648 ≤ x4 + 1 ∧ x4 + 1 < 2147483648) (p1 : hK h 0 = (6, L)) (p2 : 0 ≤ x4 + 1 ∧ x4 + 1 < L) (p3 : LX 11 h 94) : Go 315 1026 [.inr (.inl (some 0)), .inr (.inl (some 1)), .inr (.inl (some 94)), .inr (.inl (some 139)), .inl x4, v5, v6] [.inl sx0] (mI h I) = caln 315 [.inr (.inl (some 0)), .inr (.inl (some 1)), .inr (.inl (some 94)), .inr (.inl (some 139)), .inl x4, .inl sx0, v6] [] 1034 (Go 233 0 [.inr (.inl (some 94)), .inl (I 0 (x4 + 1))] [] (mI h I)) := by
  refine (Go_istore (h := mI h I) (y := 315) (ip := 1026) (a := 0) (b := 5) (c := 0) (by decide +kernel) rfl).trans ?_
  refine (Go_aload (h := mI h I) (y := 315) (ip := 1027) (a := 0) (b := 2) (c := 0) (by decide +kernel) rfl).trans ?_
  refine (Go_aload (h := mI h I) (y := 315) (ip := 1028) (a := 0) (b := 0) (c := 0) (by decide +kernel) rfl).trans ?_
  refine (Go_iload (h := mI h I) (y := 315) (ip := 1029) (a := 0) (b := 4) (c := 0) (by decide +kernel) rfl).trans ?_
  refine (Go_const (h := mI h I) (y := 315) (ip := 1030) (a := 1) (b := 0) (c := 0) (by decide +kernel)).trans ?_
  refine (Go_ar (op := 4) (x := x4 + 1) (h := mI h I) (y := 315) (ip := 1031) (a := 0) (b := 0) (c := 0) (by decide +kernel) rfl (zar4 p0)).trans ?_
  refine (Go_ald (h := mI h I) (y := 315) (ip := 1032) (a := 0) (b := 0) (c := 0) (by decide +kernel) rfl (p1) rfl p2).trans ?_
  refine (Go_call2 (h := mI h I) (y := 315) (ip := 1033) (a := 324) (z := 233) (c := 0) (as := [.inr (.inl (some 94)), .inl (I 0 (x4 + 1))]) (rest := []) (by decide +kernel) (by decide +kernel) rfl rfl (zrecv_v rfl (LX_t p3)) rfl).trans ?_
  rfl

theorem b315_1034 {h : HP} {I : Nat → Int → Int} {x4 : Int} {x5 : Int} {v6 : MV} {sx0 : Int} (p0 : LX 11 h 94) : Go 315 1034 [.inr (.inl (some 0)), .inr (.inl (some 1)), .inr (.inl (some 94)), .inr (.inl (some 139)), .inl x4, .inl x5, v6] [.inl sx0] (mI h I) = caln 315 [.inr (.inl (some 0)), .inr (.inl (some 1)), .inr (.inl (some 94)), .inr (.inl (some 139)), .inl x4, .inl x5, .inl sx0] [] 1037 (Go 162 0 [.inr (.inl (some 94))] [] (mI h I)) := by
  refine (Go_istore (h := mI h I) (y := 315) (ip := 1034) (a := 0) (b := 6) (c := 0) (by decide +kernel) rfl).trans ?_
  refine (Go_aload (h := mI h I) (y := 315) (ip := 1035) (a := 0) (b := 2) (c := 0) (by decide +kernel) rfl).trans ?_
  refine (Go_call2 (h := mI h I) (y := 315) (ip := 1036) (a := 276) (z := 162) (c := 0) (as := [.inr (.inl (some 94))]) (rest := []) (by decide +kernel) (by decide +kernel) rfl rfl (zrecv_v rfl (LX_t p0)) rfl).trans ?_
  rfl

theorem b315_1037 {h : HP} {I : Nat → Int → Int} {x4 : Int} {x5 : Int} {x6 : Int} {sx0 : Int} : Go 315 1037 [.inr (.inl (some 0)), .inr (.inl (some 1)), .inr (.inl (some 94)), .inr (.inl (some 139)), .inl x4, .inl x5, .inl x6] [.inl sx0] (mI h I) = if sx0 = x5 then Go 315 1041 [.inr (.inl (some 0)), .inr (.inl (some 1)), .inr (.inl (some 94)), .inr (.inl (some 139)), .inl x4, .inl x5, .inl x6] [] (mI h I) else Go 315 1039 [.inr (.inl (some 0)), .inr (.inl (some 1)), .inr (.inl (some 94)), .inr (.inl (some 139)), .inl x4, .inl x5, .inl x6] [] (mI h I) := by
  refine (Go_iload (h := mI h I) (y := 315) (ip := 1037) (a := 0) (b := 5) (c := 0) (by decide +kernel) rfl).trans ?_
  refine (Go_cmpeq (y := 315) (ip := 1038) (a := 0) (c := 1041) (by decide +kernel)).trans ?_
  rfl

theorem b315_1039 {h : HP} {I : Nat → Int → Int} {x4 : Int} {x5 : Int} {x6 : Int} : Go 315 1039 [.inr (.inl (some 0)), .inr (.inl (some 1)), .inr (.inl (some 94)), .inr (.inl (some 139)), .inl x4, .inl x5, .inl x6] [] (mI h I) = some (mI h I, .inl (some (.inl 0))) := by
  refine (Go_const (h := mI h I) (y := 315) (ip := 1039) (a := 0) (b := 0) (c := 0) (by decide +kernel)).trans ?_
  refine (Go_iret (h := mI h I) (y := 315) (ip := 1040) (a := 0) (b := 0) (c := 0) (by decide +kernel) (Or.inr ⟨rfl, by decide⟩)).trans ?_
  rfl

theorem b315_1041 {h : HP} {I : Nat → Int → Int} {x4 : Int} {x5 : Int} {x6 : Int} : Go 315 1041 [.inr (.inl (some 0)), .inr (.inl (some 1)), .inr (.inl (some 94)), .inr (.inl (some 139)), .inl x4, .inl x5, .inl x6] [] (mI h I) = if x5 ≠ 0 then Go 315 1052 [.inr (.inl (some 0)), .inr (.inl (some 1)), .inr (.inl (some 94)), .inr (.inl (some 139)), .inl x4, .inl x5, .inl x6] [] (mI h I) else Go 315 1043 [.inr (.inl (some 0)), .inr (.inl (some 1)), .inr (.inl (some 94)), .inr (.inl (some 139)), .inl x4, .inl x5, .inl x6] [] (mI h I) := by
  refine (Go_iload (h := mI h I) (y := 315) (ip := 1041) (a := 0) (b := 5) (c := 0) (by decide +kernel) rfl).trans ?_
  refine (Go_ifne (y := 315) (ip := 1042) (a := 0) (c := 1052) (by decide +kernel)).trans ?_
  rfl

theorem b315_1043 {h : HP} {I : Nat → Int → Int} {x4 : Int} {x5 : Int} {x6 : Int} (p0 : hK h 139 = (2, 1)) : Go 315 1043 [.inr (.inl (some 0)), .inr (.inl (some 1)), .inr (.inl (some 94)), .inr (.inl (some 139)), .inl x4, .inl x5, .inl x6] [] (mI h I) = if (if I 139 0 < x6 then -1 else if I 139 0 = x6 then 0 else 1 : Int) = 0 then Go 315 1052 [.inr (.inl (some 0)), .inr (.inl (some 1)), .inr (.inl (some 94)), .inr (.inl (some 139)), .inl x4, .inl x5, .inl x6] [] (mI h I) else Go 315 1050 [.inr (.inl (some 0)), .inr (.inl (some 1)), .inr (.inl (some 94)), .inr (.inl (some 139)), .inl x4, .inl x5, .inl x6] [] (mI h I) := by
  refine (Go_aload (h := mI h I) (y := 315) (ip := 1043) (a := 0) (b := 3) (c := 0) (by decide +kernel) rfl).trans ?_
  refine (Go_const (h := mI h I) (y := 315) (ip := 1044) (a := 0) (b := 0) (c := 0) (by decide +kernel)).trans ?_
  refine (Go_ldl (h := mI h I) (y := 315) (ip := 1045) (a := 0) (c := 0) (by decide +kernel) (p0) (by decide)).trans ?_
  refine (Go_iload (h := mI h I) (y := 315) (ip := 1046) (a := 0) (b := 6) (c := 0) (by decide +kernel) rfl).trans ?_
  refine (Go_i2l (h := mI h I) (y := 315) (ip := 1047) (a := 0) (b := 0) (c := 0) (by decide +kernel)).trans ?_
  refine (Go_lcmp (h := mI h I) (y := 315) (ip := 1048) (a := 0) (b := 0) (c := 0) (by decide +kernel)).trans ?_
  refine (Go_ifeq (y := 315) (ip := 1049) (a := 0) (c := 1052) (by decide +kernel)).trans ?_
  rfl

theorem b315_1050 {h : HP} {I : Nat → Int → Int} {x4 : Int} {x5 : Int} {x6 : Int} : Go 315 1050 [.inr (.inl (some 0)), .inr (.inl (some 1)), .inr (.inl (some 94)), .inr (.inl (some 139)), .inl x4, .inl x5, .inl x6] [] (mI h I) = some (mI h I, .inl (some (.inl 0))) := by
  refine (Go_const (h := mI h I) (y := 315) (ip := 1050) (a := 0) (b := 0) (c := 0) (by decide +kernel)).trans ?_
  refine (Go_iret (h := mI h I) (y := 315) (ip := 1051) (a := 0) (b := 0) (c := 0) (by decide +kernel) (Or.inr ⟨rfl, by decide⟩)).trans ?_
  rfl

theorem b315_1052 {h : HP} {I : Nat → Int → Int} {x4 : Int} {x5 : Int} {x6 : Int} : Go 315 1052 [.inr (.inl (some 0)), .inr (.inl (some 1)), .inr (.inl (some 94)), .inr (.inl (some 139)), .inl x4, .inl x5, .inl x6] [] (mI h I) = Go 315 1826 [.inr (.inl (some 0)), .inr (.inl (some 1)), .inr (.inl (some 94)), .inr (.inl (some 139)), .inl x4, .inl x5, .inl x6] [] (mI h I) := by
  refine (Go_goto (h := mI h I) (y := 315) (ip := 1052) (a := 0) (b := 0) (c := 1826) (by decide +kernel)).trans ?_
  rfl

theorem b315_1053 {h : HP} {I : Nat → Int → Int} {x4 : Int} {v5 : MV} {v6 : MV} {L : Int} (p0 : -2147483648 ≤ x4 + 1 ∧ x4 + 1 < 2147483648) (p1 : hK h 0 = (6, L)) (p2 : 0 ≤ x4 + 1 ∧ x4 + 1 < L) (p3 : -2147483648 ≤ x4 + 2 ∧ x4 + 2 < 2147483648) (p4 : 0 ≤ x4 + 2 ∧ x4 + 2 < L) : Go 315 1053 [.inr (.inl (some 0)), .inr (.inl (some 1)), .inr (.inl (some 94)), .inr (.inl (some 139)), .inl x4, v5, v6] [] (mI h I) = caln 315 [.inr (.inl (some 0)), .inr (.inl (some 1)), .inr (.inl (some 94)), .inr (.inl (some 139)), .inl x4, v5, v6] [] 1066 (Go 298 0 [.inr (.inl (some 1)), .inl (I 0 (x4 + 1)), .inl (I 0 (x4 + 2)), .inr (.inl (some 139)), vU] [] (mI h I)) := by
  refine (Go_aload (h := mI h I) (y := 315) (ip := 1053) (a := 0) (b := 1) (c := 0) (by decide +kernel) rfl).trans ?_
  refine (Go_aload (h := mI h I) (y := 315) (ip := 1054) (a := 0) (b := 0) (c := 0) (by decide +kernel) rfl).trans ?_
  refine (Go_iload (h := mI h I) (y := 315) (ip := 1055) (a := 0) (b := 4) (c := 0) (by decide +kernel) rfl).trans ?_
  refine (Go_const (h := mI h I) (y := 315) (ip := 1056) (a := 1) (b := 0) (c := 0) (by decide +kernel)).trans ?_
  refine (Go_ar (op := 4) (x := x4 + 1) (h := mI h I) (y := 315) (ip := 1057) (a := 0) (b := 0) (c := 0) (by decide +kernel) rfl (zar4 p0)).trans ?_
  refine (Go_ald (h := mI h I) (y := 315) (ip := 1058) (a := 0) (b := 0) (c := 0) (by decide +kernel) rfl (p1) rfl p2).trans ?_
  refine (Go_aload (h := mI h I) (y := 315) (ip := 1059) (a := 0) (b := 0) (c := 0) (by decide +kernel) rfl).trans ?_
  refine (Go_iload (h := mI h I) (y := 315) (ip := 1060) (a := 0) (b := 4) (c := 0) (by decide +kernel) rfl).trans ?_
  refine (Go_const (h := mI h I) (y := 315) (ip := 1061) (a := 2) (b := 0) (c := 0) (by decide +kernel)).trans ?_
  refine (Go_ar (op := 4) (x := x4 + 2) (h := mI h I) (y := 315) (ip := 1062) (a := 0) (b := 0) (c := 0) (by decide +kernel) rfl (zar4 p3)).trans ?_
  refine (Go_ald (h := mI h I) (y := 315) (ip := 1063) (a := 0) (b := 0) (c := 0) (by decide +kernel) rfl (p1) rfl p4).trans ?_
  refine (Go_aload (h := mI h I) (y := 315) (ip := 1064) (a := 0) (b := 3) (c := 0) (by decide +kernel) rfl).trans ?_
  refine (Go_call2 (h := mI h I) (y := 315) (ip := 1065) (a := 325) (z := 298) (c := 1) (as := [.inr (.inl (some 1)), .inl (I 0 (x4 + 1)), .inl (I 0 (x4 + 2)), .inr (.inl (some 139))]) (rest := []) (by decide +kernel) (by decide +kernel) rfl rfl rfl rfl).trans ?_
  rfl

theorem b315_1066 {h : HP} {I : Nat → Int → Int} {x4 : Int} {v5 : MV} {v6 : MV} {sx0 : Int} {L : Int} (p0 : -2147483648 ≤ x4 + 1 ∧ x4 + 1 < 2147483648) (p1 : hK h 0 = (6, L)) (p2 : 0 ≤ x4 + 1 ∧ x4 + 1 < L) (p3 : -2147483648 ≤ x4 + 2 ∧ x4 + 2 < 2147483648) (p4 : 0 ≤ x4 + 2 ∧ x4 + 2 < L) (p5 : LX 11 h 94) : Go 315 1066 [.inr (.inl (some 0)), .inr (.inl (some 1)), .inr (.inl (some 94)), .inr (.inl (some 139)), .inl x4, v5, v6] [.inl sx0] (mI h I) = caln 315 [.inr (.inl (some 0)), .inr (.inl (some 1)), .inr (.inl (some 94)), .inr (.inl (some 139)), .inl x4, .inl sx0, v6] [] 1079 (Go 235 0 [.inr (.inl (some 94)), .inl (I 0 (x4 + 1)), .inl (I 0 (x4 + 2)), vU] [] (mI h I)) := by
  refine (Go_istore (h := mI h I) (y := 315) (ip := 1066) (a := 0) (b := 5) (c := 0) (by decide +kernel) rfl).trans ?_
  refine (Go_aload (h := mI h I) (y := 315) (ip := 1067) (a := 0) (b := 2) (c := 0) (by decide +kernel) rfl).trans ?_
  refine (Go_aload (h := mI h I) (y := 315) (ip := 1068) (a := 0) (b := 0) (c := 0) (by decide +kernel) rfl).trans ?_
  refine (Go_iload (h := mI h I) (y := 315) (ip := 1069) (a := 0) (b := 4) (c := 0) (by decide +kernel) rfl).trans ?_
  refine (Go_const (h := mI h I) (y := 315) (ip := 1070) (a := 1) (b := 0) (c := 0) (by decide +kernel)).trans ?_
  refine (Go_ar (op := 4) (x := x4 + 1) (h := mI h I) (y := 315) (ip := 1071) (a := 0) (b := 0) (c := 0) (by decide +kernel) rfl (zar4 p0)).trans ?_
  refine (Go_ald (h := mI h I) (y := 315) (ip := 1072) (a := 0) (b := 0) (c := 0) (by decide +kernel) rfl (p1) rfl p2).trans ?_
  refine (Go_aload (h := mI h I) (y := 315) (ip := 1073) (a := 0) (b := 0) (c := 0) (by decide +kernel) rfl).trans ?_
  refine (Go_iload (h := mI h I) (y := 315) (ip := 1074) (a := 0) (b := 4) (c := 0) (by decide +kernel) rfl).trans ?_
  refine (Go_const (h := mI h I) (y := 315) (ip := 1075) (a := 2) (b := 0) (c := 0) (by decide +kernel)).trans ?_
  refine (Go_ar (op := 4) (x := x4 + 2) (h := mI h I) (y := 315) (ip := 1076) (a := 0) (b := 0) (c := 0) (by decide +kernel) rfl (zar4 p3)).trans ?_
  refine (Go_ald (h := mI h I) (y := 315) (ip := 1077) (a := 0) (b := 0) (c := 0) (by decide +kernel) rfl (p1) rfl p4).trans ?_
  refine (Go_call2 (h := mI h I) (y := 315) (ip := 1078) (a := 326) (z := 235) (c := 0) (as := [.inr (.inl (some 94)), .inl (I 0 (x4 + 1)), .inl (I 0 (x4 + 2))]) (rest := []) (by decide +kernel) (by decide +kernel) rfl rfl (zrecv_v rfl (LX_t p5)) rfl).trans ?_
  rfl

theorem b315_1079 {h : HP} {I : Nat → Int → Int} {x4 : Int} {x5 : Int} {v6 : MV} {sx0 : Int} (p0 : LX 11 h 94) : Go 315 1079 [.inr (.inl (some 0)), .inr (.inl (some 1)), .inr (.inl (some 94)), .inr (.inl (some 139)), .inl x4, .inl x5, v6] [.inl sx0] (mI h I) = caln 315 [.inr (.inl (some 0)), .inr (.inl (some 1)), .inr (.inl (some 94)), .inr (.inl (some 139)), .inl x4, .inl x5, .inl sx0] [] 1082 (Go 162 0 [.inr (.inl (some 94))] [] (mI h I)) := by
  refine (Go_istore (h := mI h I) (y := 315) (ip := 1079) (a := 0) (b := 6) (c := 0) (by decide +kernel) rfl).trans ?_
  refine (Go_aload (h := mI h I) (y := 315) (ip := 1080) (a := 0) (b := 2) (c := 0) (by decide +kernel) rfl).trans ?_
  refine (Go_call2 (h := mI h I) (y := 315) (ip := 1081) (a := 276) (z := 162) (c := 0) (as := [.inr (.inl (some 94))]) (rest := []) (by decide +kernel) (by decide +kernel) rfl rfl (zrecv_v rfl (LX_t p0)) rfl).trans ?_
  rfl

theorem b315_1082 {h : HP} {I : Nat → Int → Int} {x4 : Int} {x5 : Int} {x6 : Int} {sx0 : Int} : Go 315 1082 [.inr (.inl (some 0)), .inr (.inl (some 1)), .inr (.inl (some 94)), .inr (.inl (some 139)), .inl x4, .inl x5, .inl x6] [.inl sx0] (mI h I) = if sx0 = x5 then Go 315 1086 [.inr (.inl (some 0)), .inr (.inl (some 1)), .inr (.inl (some 94)), .inr (.inl (some 139)), .inl x4, .inl x5, .inl x6] [] (mI h I) else Go 315 1084 [.inr (.inl (some 0)), .inr (.inl (some 1)), .inr (.inl (some 94)), .inr (.inl (some 139)), .inl x4, .inl x5, .inl x6] [] (mI h I) := by
  refine (Go_iload (h := mI h I) (y := 315) (ip := 1082) (a := 0) (b := 5) (c := 0) (by decide +kernel) rfl).trans ?_
  refine (Go_cmpeq (y := 315) (ip := 1083) (a := 0) (c := 1086) (by decide +kernel)).trans ?_
  rfl

theorem b315_1084 {h : HP} {I : Nat → Int → Int} {x4 : Int} {x5 : Int} {x6 : Int} : Go 315 1084 [.inr (.inl (some 0)), .inr (.inl (some 1)), .inr (.inl (some 94)), .inr (.inl (some 139)), .inl x4, .inl x5, .inl x6] [] (mI h I) = some (mI h I, .inl (some (.inl 0))) := by
  refine (Go_const (h := mI h I) (y := 315) (ip := 1084) (a := 0) (b := 0) (c := 0) (by decide +kernel)).trans ?_
  refine (Go_iret (h := mI h I) (y := 315) (ip := 1085) (a := 0) (b := 0) (c := 0) (by decide +kernel) (Or.inr ⟨rfl, by decide⟩)).trans ?_
  rfl

theorem b315_1086 {h : HP} {I : Nat → Int → Int} {x4 : Int} {x5 : Int} {x6 : Int} : Go 315 1086 [.inr (.inl (some 0)), .inr (.inl (some 1)), .inr (.inl (some 94)), .inr (.inl (some 139)), .inl x4, .inl x5, .inl x6] [] (mI h I) = if x5 ≠ 0 then Go 315 1097 [.inr (.inl (some 0)), .inr (.inl (some 1)), .inr (.inl (some 94)), .inr (.inl (some 139)), .inl x4, .inl x5, .inl x6] [] (mI h I) else Go 315 1088 [.inr (.inl (some 0)), .inr (.inl (some 1)), .inr (.inl (some 94)), .inr (.inl (some 139)), .inl x4, .inl x5, .inl x6] [] (mI h I) := by
  refine (Go_iload (h := mI h I) (y := 315) (ip := 1086) (a := 0) (b := 5) (c := 0) (by decide +kernel) rfl).trans ?_
  refine (Go_ifne (y := 315) (ip := 1087) (a := 0) (c := 1097) (by decide +kernel)).trans ?_
  rfl

theorem b315_1088 {h : HP} {I : Nat → Int → Int} {x4 : Int} {x5 : Int} {x6 : Int} (p0 : hK h 139 = (2, 1)) : Go 315 1088 [.inr (.inl (some 0)), .inr (.inl (some 1)), .inr (.inl (some 94)), .inr (.inl (some 139)), .inl x4, .inl x5, .inl x6] [] (mI h I) = if (if I 139 0 < x6 then -1 else if I 139 0 = x6 then 0 else 1 : Int) = 0 then Go 315 1097 [.inr (.inl (some 0)), .inr (.inl (some 1)), .inr (.inl (some 94)), .inr (.inl (some 139)), .inl x4, .inl x5, .inl x6] [] (mI h I) else Go 315 1095 [.inr (.inl (some 0)), .inr (.inl (some 1)), .inr (.inl (some 94)), .inr (.inl (some 139)), .inl x4, .inl x5, .inl x6] [] (mI h I) := by
  refine (Go_aload (h := mI h I) (y := 315) (ip := 1088) (a := 0) (b := 3) (c := 0) (by decide +kernel) rfl).trans ?_
  refine (Go_const (h := mI h I) (y := 315) (ip := 1089) (a := 0) (b := 0) (c := 0) (by decide +kernel)).trans ?_
  refine (Go_ldl (h := mI h I) (y := 315) (ip := 1090) (a := 0) (c := 0) (by decide +kernel) (p0) (by decide)).trans ?_
  refine (Go_iload (h := mI h I) (y := 315) (ip := 1091) (a := 0) (b := 6) (c := 0) (by decide +kernel) rfl).trans ?_
  refine (Go_i2l (h := mI h I) (y := 315) (ip := 1092) (a := 0) (b := 0) (c := 0) (by decide +kernel)).trans ?_
  refine (Go_lcmp (h := mI h I) (y := 315) (ip := 1093) (a := 0) (b := 0) (c := 0) (by decide +kernel)).trans ?_
  refine (Go_ifeq (y := 315) (ip := 1094) (a := 0) (c := 1097) (by decide +kernel)).trans ?_
  rfl

theorem b315_1095 {h : HP} {I : Nat → Int → Int} {x4 : Int} {x5 : Int} {x6 : Int} : Go 315 1095 [.inr (.inl (some 0)), .inr (.inl (some 1)), .inr (.inl (some 94)), .inr (.inl (some 139)), .inl x4, .inl x5, .inl x6] [] (mI h I) = some (mI h I, .inl (some (.inl 0))) := by
  refine (Go_const (h := mI h I) (y := 315) (ip := 1095) (a := 0) (b := 0) (c := 0) (by decide +kernel)).trans ?_
  refine (Go_iret (h := mI h I) (y := 315) (ip := 1096) (a := 0) (b := 0) (c := 0) (by decide +kernel) (Or.inr ⟨rfl, by decide⟩)).trans ?_
  rfl

theorem b315_1097 {h : HP} {I : Nat → Int → Int} {x4 : Int} {x5 : Int} {x6 : Int} : Go 315 1097 [.inr (.inl (some 0)), .inr (.inl (some 1)), .inr (.inl (some 94)), .inr (.inl (some 139)), .inl x4, .inl x5, .inl x6] [] (mI h I) = Go 315 1826 [.inr (.inl (some 0)), .inr (.inl (some 1)), .inr (.inl (some 94)), .inr (.inl (some 139)), .inl x4, .inl x5, .inl x6] [] (mI h I) := by
  refine (Go_goto (h := mI h I) (y := 315) (ip := 1097) (a := 0) (b := 0) (c := 1826) (by decide +kernel)).trans ?_
  rfl

theorem b315_1098 {h : HP} {I : Nat → Int → Int} {x4 : Int} {v5 : MV} {v6 : MV} {L : Int} (p0 : -2147483648 ≤ x4 + 1 ∧ x4 + 1 < 2147483648) (p1 : hK h 0 = (6, L)) (p2 : 0 ≤ x4 + 1 ∧ x4 + 1 < L) : Go 315 1098 [.inr (.inl (some 0)), .inr (.inl (some 1)), .inr (.inl (some 94)), .inr (.inl (some 139)), .inl x4, v5, v6] [] (mI h I) = caln 315 [.inr (.inl (some 0)), .inr (.inl (some 1)), .inr (.inl (some 94)), .inr (.inl (some 139)), .inl x4, v5, v6] [] 1106 (Go 299 0 [.inr (.inl (some 1)), .inl (I 0 (x4 + 1)), .inr (.inl (some 139)), vU] [] (mI h I)) := by
  refine (Go_aload (h := mI h I) (y := 315) (ip := 1098) (a := 0) (b := 1) (c := 0) (by decide +kernel) rfl).trans ?_
  refine (Go_aload (h := mI h I) (y := 315) (ip := 1099) (a := 0) (b := 0) (c := 0) (by decide +kernel) rfl).trans ?_
  refine (Go_iload (h := mI h I) (y := 315) (ip := 1100) (a := 0) (b := 4) (c := 0) (by decide +kernel) rfl).trans ?_
  refine (Go_const (h := mI h I) (y := 315) (ip := 1101) (a := 1) (b := 0) (c := 0) (by decide +kernel)).trans ?_
  refine (Go_ar (op := 4) (x := x4 + 1) (h := mI h I) (y := 315) (ip := 1102) (a := 0) (b := 0) (c := 0) (by decide +kernel) rfl (zar4 p0)).trans ?_
  refine (Go_ald (h := mI h I) (y := 315) (ip := 1103) (a := 0) (b := 0) (c := 0) (by decide +kernel) rfl (p1) rfl p2).trans ?_
  refine (Go_aload (h := mI h I) (y := 315) (ip := 1104) (a := 0) (b := 3) (c := 0) (by decide +kernel) rfl).trans ?_
  refine (Go_call2 (h := mI h I) (y := 315) (ip := 1105) (a := 327) (z := 299) (c := 1) (as := [.inr (.inl (some 1)), .inl (I 0 (x4 + 1)), .inr (.inl (some 139))]) (rest := []) (by decide +kernel) (by decide +kernel) rfl rfl rfl rfl).trans ?_
  rfl

theorem b315_1106 {h : HP} {I : Nat → Int → Int} {x4 : Int} {v5 : MV} {v6 : MV} {sx0 : Int} {L : Int} (p0 : -2147483648 ≤ x4 + 1 ∧ x4 + 1 < 2147483648) (p1 : hK h 0 = (6, L)) (p2 : 0 ≤ x4 + 1 ∧ x4 + 1 < L) (p3 : LX 11 h 94) : Go 315 1106 [.inr (.inl (some 0)), .inr (.inl (some 1)), .inr (.inl (some 94)), .inr (.inl (some 139)), .inl x4, v5, v6] [.inl sx0] (mI h I) = caln 315 [.inr (.inl (some 0)), .inr (.inl (some 1)), .inr (.inl (some 94)), .inr (.inl (some 139)), .inl x4, .inl sx0, v6] [] 1114 (Go 236 0 [.inr (.inl (some 94)), .inl (I 0 (x4 + 1))] [] (mI h I)) := by
  refine (Go_istore (h := mI h I) (y := 315) (ip := 1106) (a := 0) (b := 5) (c := 0) (by decide +kernel) rfl).trans ?_
  refine (Go_aload (h := mI h I) (y := 315) (ip := 1107) (a := 0) (b := 2) (c := 0) (by decide +kernel) rfl).trans ?_
  refine (Go_aload (h := mI h I) (y := 315) (ip := 1108) (a := 0) (b := 0) (c := 0) (by decide +kernel) rfl).trans ?_
  refine (Go_iload (h := mI h I) (y := 315) (ip := 1109) (a := 0) (b := 4) (c := 0) (by decide +kernel) rfl).trans ?_
  refine (Go_const (h := mI h I) (y := 315) (ip := 1110) (a := 1) (b := 0) (c := 0) (by decide +kernel)).trans ?_
  refine (Go_ar (op := 4) (x := x4 + 1) (h := mI h I) (y := 315) (ip := 1111) (a := 0) (b := 0) (c := 0) (by decide +kernel) rfl (zar4 p0)).trans ?_
  refine (Go_ald (h := mI h I) (y := 315) (ip := 1112) (a := 0) (b := 0) (c := 0) (by decide +kernel) rfl (p1) rfl p2).trans ?_
  refine (Go_call2 (h := mI h I) (y := 315) (ip := 1113) (a := 328) (z := 236) (c := 0) (as := [.inr (.inl (some 94)), .inl (I 0 (x4 + 1))]) (rest := []) (by decide +kernel) (by decide +kernel) rfl rfl (zrecv_v rfl (LX_t p3)) rfl).trans ?_
  rfl

theorem b315_1114 {h : HP} {I : Nat → Int → Int} {x4 : Int} {x5 : Int} {v6 : MV} {sx0 : Int} (p0 : LX 11 h 94) : Go 315 1114 [.inr (.inl (some 0)), .inr (.inl (some 1)), .inr (.inl (some 94)), .inr (.inl (some 139)), .inl x4, .inl x5, v6] [.inl sx0] (mI h I) = caln 315 [.inr (.inl (some 0)), .inr (.inl (some 1)), .inr (.inl (some 94)), .inr (.inl (some 139)), .inl x4, .inl x5, .inl sx0] [] 1117 (Go 162 0 [.inr (.inl (some 94))] [] (mI h I)) := by
  refine (Go_istore (h := mI h I) (y := 315) (ip := 1114) (a := 0) (b := 6) (c := 0) (by decide +kernel) rfl).trans ?_
  refine (Go_aload (h := mI h I) (y := 315) (ip := 1115) (a := 0) (b := 2) (c := 0) (by decide +kernel) rfl).trans ?_
  refine (Go_call2 (h := mI h I) (y := 315) (ip := 1116) (a := 276) (z := 162) (c := 0) (as := [.inr (.inl (some 94))]) (rest := []) (by decide +kernel) (by decide +kernel) rfl rfl (zrecv_v rfl (LX_t p0)) rfl).trans ?_
  rfl

theorem b315_1117 {h : HP} {I : Nat → Int → Int} {x4 : Int} {x5 : Int} {x6 : Int} {sx0 : Int} : Go 315 1117 [.inr (.inl (some 0)), .inr (.inl (some 1)), .inr (.inl (some 94)), .inr (.inl (some 139)), .inl x4, .inl x5, .inl x6] [.inl sx0] (mI h I) = if sx0 = x5 then Go 315 1121 [.inr (.inl (some 0)), .inr (.inl (some 1)), .inr (.inl (some 94)), .inr (.inl (some 139)), .inl x4, .inl x5, .inl x6] [] (mI h I) else Go 315 1119 [.inr (.inl (some 0)), .inr (.inl (some 1)), .inr (.inl (some 94)), .inr (.inl (some 139)), .inl x4, .inl x5, .inl x6] [] (mI h I) := by
  refine (Go_iload (h := mI h I) (y := 315) (ip := 1117) (a := 0) (b := 5) (c := 0) (by decide +kernel) rfl).trans ?_
  refine (Go_cmpeq (y := 315) (ip := 1118) (a := 0) (c := 1121) (by decide +kernel)).trans ?_
  rfl

theorem b315_1119 {h : HP} {I : Nat → Int → Int} {x4 : Int} {x5 : Int} {x6 : Int} : Go 315 1119 [.inr (.inl (some 0)), .inr (.inl (some 1)), .inr (.inl (some 94)), .inr (.inl (some 139)), .inl x4, .inl x5, .inl x6] [] (mI h I) = some (mI h I, .inl (some (.inl 0))) := by
  refine (Go_const (h := mI h I) (y := 315) (ip := 1119) (a := 0) (b := 0) (c := 0) (by decide +kernel)).trans ?_
  refine (Go_iret (h := mI h I) (y := 315) (ip := 1120) (a := 0) (b := 0) (c := 0) (by decide +kernel) (Or.inr ⟨rfl, by decide⟩)).trans ?_
  rfl

theorem b315_1121 {h : HP} {I : Nat → Int → Int} {x4 : Int} {x5 : Int} {x6 : Int} : Go 315 1121 [.inr (.inl (some 0)), .inr (.inl (some 1)), .inr (.inl (some 94)), .inr (.inl (some 139)), .inl x4, .inl x5, .inl x6] [] (mI h I) = if x5 ≠ 0 then Go 315 1132 [.inr (.inl (some 0)), .inr (.inl (some 1)), .inr (.inl (some 94)), .inr (.inl (some 139)), .inl x4, .inl x5, .inl x6] [] (mI h I) else Go 315 1123 [.inr (.inl (some 0)), .inr (.inl (some 1)), .inr (.inl (some 94)), .inr (.inl (some 139)), .inl x4, .inl x5, .inl x6] [] (mI h I) := by
  refine (Go_iload (h := mI h I) (y := 315) (ip := 1121) (a := 0) (b := 5) (c := 0) (by decide +kernel) rfl).trans ?_
  refine (Go_ifne (y := 315) (ip := 1122) (a := 0) (c := 1132) (by decide +kernel)).trans ?_
  rfl

theorem b315_1123 {h : HP} {I : Nat → Int → Int} {x4 : Int} {x5 : Int} {x6 : Int} (p0 : hK h 139 = (2, 1)) : Go 315 1123 [.inr (.inl (some 0)), .inr (.inl (some 1)), .inr (.inl (some 94)), .inr (.inl (some 139)), .inl x4, .inl x5, .inl x6] [] (mI h I) = if (if I 139 0 < x6 then -1 else if I 139 0 = x6 then 0 else 1 : Int) = 0 then Go 315 1132 [.inr (.inl (some 0)), .inr (.inl (some 1)), .inr (.inl (some 94)), .inr (.inl (some 139)), .inl x4, .inl x5, .inl x6] [] (mI h I) else Go 315 1130 [.inr (.inl (some 0)), .inr (.inl (some 1)), .inr (.inl (some 94)), .inr (.inl (some 139)), .inl x4, .inl x5, .inl x6] [] (mI h I) := by
  refine (Go_aload (h := mI h I) (y := 315) (ip := 1123) (a := 0) (b := 3) (c := 0) (by decide +kernel) rfl).trans ?_
  refine (Go_const (h := mI h I) (y := 315) (ip := 1124) (a := 0) (b := 0) (c := 0) (by decide +kernel)).trans ?_
  refine (Go_ldl (h := mI h I) (y := 315) (ip := 1125) (a := 0) (c := 0) (by decide +kernel) (p0) (by decide)).trans ?_
  refine (Go_iload (h := mI h I) (y := 315) (ip := 1126) (a := 0) (b := 6) (c := 0) (by decide +kernel) rfl).trans ?_
  refine (Go_i2l (h := mI h I) (y := 315) (ip := 1127) (a := 0) (b := 0) (c := 0) (by decide +kernel)).trans ?_
  refine (Go_lcmp (h := mI h I) (y := 315) (ip := 1128) (a := 0) (b := 0) (c := 0) (by decide +kernel)).trans ?_
  refine (Go_ifeq (y := 315) (ip := 1129) (a := 0) (c := 1132) (by decide +kernel)).trans ?_
  rfl

theorem b315_1130 {h : HP} {I : Nat → Int → Int} {x4 : Int} {x5 : Int} {x6 : Int} : Go 315 1130 [.inr (.inl (some 0)), .inr (.inl (some 1)), .inr (.inl (some 94)), .inr (.inl (some 139)), .inl x4, .inl x5, .inl x6] [] (mI h I) = some (mI h I, .inl (some (.inl 0))) := by
  refine (Go_const (h := mI h I) (y := 315) (ip := 1130) (a := 0) (b := 0) (c := 0) (by decide +kernel)).trans ?_
  refine (Go_iret (h := mI h I) (y := 315) (ip := 1131) (a := 0) (b := 0) (c := 0) (by decide +kernel) (Or.inr ⟨rfl, by decide⟩)).trans ?_
  rfl

theorem b315_1132 {h : HP} {I : Nat → Int → Int} {x4 : Int} {x5 : Int} {x6 : Int} : Go 315 1132 [.inr (.inl (some 0)), .inr (.inl (some 1)), .inr (.inl (some 94)), .inr (.inl (some 139)), .inl x4, .inl x5, .inl x6] [] (mI h I) = Go 315 1826 [.inr (.inl (some 0)), .inr (.inl (some 1)), .inr (.inl (some 94)), .inr (.inl (some 139)), .inl x4, .inl x5, .inl x6] [] (mI h I) := by
  refine (Go_goto (h := mI h I) (y := 315) (ip := 1132) (a := 0) (b := 0) (c := 1826) (by decide +kernel)).trans ?_
  rfl

theorem b315_1133 {h : HP} {I : Nat → Int → Int} {x4 : Int} {v5 : MV} {v6 : MV} {L : Int} (p0 : -2147483648 ≤ x4 + 1 ∧ x4 + 1 < 2147483648) (p1 : hK h 0 = (6, L)) (p2 : 0 ≤ x4 + 1 ∧ x4 + 1 < L) (p3 : -2147483648 ≤ x4 + 2 ∧ x4 + 2 < 2147483648) (p4 : 0 ≤ x4 + 2 ∧ x4 + 2 < L) : Go 315 1133 [.inr (.inl (some 0)), .inr (.inl (some 1)), .inr (.inl (some 94)), .inr (.inl (some 139)), .inl x4, v5, v6] [] (mI h I) = caln 315 [.inr (.inl (some 0)), .inr (.inl (some 1)), .inr (.inl (some 94)), .inr (.inl (some 139)), .inl x4, v5, v6] [] 1146 (Go 300 0 [.inr (.inl (some 1)), .inl (I 0 (x4 + 1)), .inl (I 0 (x4 + 2)), .inr (.inl (some 139)), vU] [] (mI h I)) := by
  refine (Go_aload (h := mI h I) (y := 315) (ip := 1133) (a := 0) (b := 1) (c := 0) (by decide +kernel) rfl).trans ?_
  refine (Go_aload (h := mI h I) (y := 315) (ip := 1134) (a := 0) (b := 0) (c := 0) (by decide +kernel) rfl).trans ?_
  refine (Go_iload (h := mI h I) (y := 315) (ip := 1135) (a := 0) (b := 4) (c := 0) (by decide +kernel) rfl).trans ?_
  refine (Go_const (h := mI h I) (y := 315) (ip := 1136) (a := 1) (b := 0) (c := 0) (by decide +kernel)).trans ?_
  refine (Go_ar (op := 4) (x := x4 + 1) (h := mI h I) (y := 315) (ip := 1137) (a := 0) (b := 0) (c := 0) (by decide +kernel) rfl (zar4 p0)).trans ?_
  refine (Go_ald (h := mI h I) (y := 315) (ip := 1138) (a := 0) (b := 0) (c := 0) (by decide +kernel) rfl (p1) rfl p2).trans ?_
  refine (Go_aload (h := mI h I) (y := 315) (ip := 1139) (a := 0) (b := 0) (c := 0) (by decide +kernel) rfl).trans ?_
  refine (Go_iload (h := mI h I) (y := 315) (ip := 1140) (a := 0) (b := 4) (c := 0) (by decide +kernel) rfl).trans ?_
  refine (Go_const (h := mI h I) (y := 315) (ip := 1141) (a := 2) (b := 0) (c := 0) (by decide +kernel)).trans ?_
  refine (Go_ar (op := 4) (x := x4 + 2) (h := mI h I) (y := 315) (ip := 1142) (a := 0) (b := 0) (c := 0) (by decide +kernel) rfl (zar4 p3)).trans ?_
  refine (Go_ald (h := mI h I) (y := 315) (ip := 1143) (a := 0) (b := 0) (c := 0) (by decide +kernel) rfl (p1) rfl p4).trans ?_
  refine (Go_aload (h := mI h I) (y := 315) (ip := 1144) (a := 0) (b := 3) (c := 0) (by decide +kernel) rfl).trans ?_
  refine (Go_call2 (h := mI h I) (y := 315) (ip := 1145) (a := 329) (z := 300) (c := 1) (as := [.inr (.inl (some 1)), .inl (I 0 (x4 + 1)), .inl (I 0 (x4 + 2)), .inr (.inl (some 139))]) (rest := []) (by decide +kernel) (by decide +kernel) rfl rfl rfl rfl).trans ?_
  rfl

theorem b315_1146 {h : HP} {I : Nat → Int → Int} {x4 : Int} {v5 : MV} {v6 : MV} {sx0 : Int} {L : Int} (p0 : -2147483648 ≤ x4 + 1 ∧ x4 + 1 < 2147483648) (p1 : hK h 0 = (6, L)) (p2 : 0 ≤ x4 + 1 ∧ x4 + 1 < L) (p3 : -2147483648 ≤ x4 + 2 ∧ x4 + 2 < 2147483648) (p4 : 0 ≤ x4 + 2 ∧ x4 + 2 < L) (p5 : LX 11 h 94) : Go 315 1146 [.inr (.inl (some 0)), .inr (.inl (some 1)), .inr (.inl (some 94)), .inr (.inl (some 139)), .inl x4, v5, v6] [.inl sx0] (mI h I) = caln 315 [.inr (.inl (some 0)), .inr (.inl (some 1)), .inr (.inl (some 94)), .inr (.inl (some 139)), .inl x4, .inl sx0, v6] [] 1159 (Go 239 0 [.inr (.inl (some 94)), .inl (I 0 (x4 + 1)), .inl (I 0 (x4 + 2))] [] (mI h I)) := by
  refine (Go_istore (h := mI h I) (y := 315) (ip := 1146) (a := 0) (b := 5) (c := 0) (by decide +kernel) rfl).trans ?_
  refine (Go_aload (h := mI h I) (y := 315) (ip := 1147) (a := 0) (b := 2) (c := 0) (by decide +kernel) rfl).trans ?_
  refine (Go_aload (h := mI h I) (y := 315) (ip := 1148) (a := 0) (b := 0) (c := 0) (by decide +kernel) rfl).trans ?_
  refine (Go_iload (h := mI h I) (y := 315) (ip := 1149) (a := 0) (b := 4) (c := 0) (by decide +kernel) rfl).trans ?_
  refine (Go_const (h := mI h I) (y := 315) (ip := 1150) (a := 1) (b := 0) (c := 0) (by decide +kernel)).trans ?_
  refine (Go_ar (op := 4) (x := x4 + 1) (h := mI h I) (y := 315) (ip := 1151) (a := 0) (b := 0) (c := 0) (by decide +kernel) rfl (zar4 p0)).trans ?_
  refine (Go_ald (h := mI h I) (y := 315) (ip := 1152) (a := 0) (b := 0) (c := 0) (by decide +kernel) rfl (p1) rfl p2).trans ?_
  refine (Go_aload (h := mI h I) (y := 315) (ip := 1153) (a := 0) (b := 0) (c := 0) (by decide +kernel) rfl).trans ?_
  refine (Go_iload (h := mI h I) (y := 315) (ip := 1154) (a := 0) (b := 4) (c := 0) (by decide +kernel) rfl).trans ?_
  refine (Go_const (h := mI h I) (y := 315) (ip := 1155) (a := 2) (b := 0) (c := 0) (by decide +kernel)).trans ?_
  refine (Go_ar (op := 4) (x := x4 + 2) (h := mI h I) (y := 315) (ip := 1156) (a := 0) (b := 0) (c := 0) (by decide +kernel) rfl (zar4 p3)).trans ?_
  refine (Go_ald (h := mI h I) (y := 315) (ip := 1157) (a := 0) (b := 0) (c := 0) (by decide +kernel) rfl (p1) rfl p4).trans ?_
  refine (Go_call2 (h := mI h I) (y := 315) (ip := 1158) (a := 330) (z := 239) (c := 0) (as := [.inr (.inl (some 94)), .inl (I 0 (x4 + 1)), .inl (I 0 (x4 + 2))]) (rest := []) (by decide +kernel) (by decide +kernel) rfl rfl (zrecv_v rfl (LX_t p5)) rfl).trans ?_
  rfl

theorem b315_1159 {h : HP} {I : Nat → Int → Int} {x4 : Int} {x5 : Int} {v6 : MV} {sx0 : Int} (p0 : LX 11 h 94) : Go 315 1159 [.inr (.inl (some 0)), .inr (.inl (some 1)), .inr (.inl (some 94)), .inr (.inl (some 139)), .inl x4, .inl x5, v6] [.inl sx0] (mI h I) = caln 315 [.inr (.inl (some 0)), .inr (.inl (some 1)), .inr (.inl (some 94)), .inr (.inl (some 139)), .inl x4, .inl x5, .inl sx0] [] 1162 (Go 162 0 [.inr (.inl (some 94))] [] (mI h I)) := by
  refine (Go_istore (h := mI h I) (y := 315) (ip := 1159) (a := 0) (b := 6) (c := 0) (by decide +kernel) rfl).trans ?_
  refine (Go_aload (h := mI h I) (y := 315) (ip := 1160) (a := 0) (b := 2) (c := 0) (by decide +kernel) rfl).trans ?_
  refine (Go_call2 (h := mI h I) (y := 315) (ip := 1161) (a := 276) (z := 162) (c := 0) (as := [.inr (.inl (some 94))]) (rest := []) (by decide +kernel) (by decide +kernel) rfl rfl (zrecv_v rfl (LX_t p0)) rfl).trans ?_
  rfl

theorem b315_1162 {h : HP} {I : Nat → Int → Int} {x4 : Int} {x5 : Int} {x6 : Int} {sx0 : Int} : Go 315 1162 [.inr (.inl (some 0)), .inr (.inl (some 1)), .inr (.inl (some 94)), .inr (.inl (some 139)), .inl x4, .inl x5, .inl x6] [.inl sx0] (mI h I) = if sx0 = x5 then Go 315 1166 [.inr (.inl (some 0)), .inr (.inl (some 1)), .inr (.inl (some 94)), .inr (.inl (some 139)), .inl x4, .inl x5, .inl x6] [] (mI h I) else Go 315 1164 [.inr (.inl (some 0)), .inr (.inl (some 1)), .inr (.inl (some 94)), .inr (.inl (some 139)), .inl x4, .inl x5, .inl x6] [] (mI h I) := by
  refine (Go_iload (h := mI h I) (y := 315) (ip := 1162) (a := 0) (b := 5) (c := 0) (by decide +kernel) rfl).trans ?_
  refine (Go_cmpeq (y := 315) (ip := 1163) (a := 0) (c := 1166) (by decide +kernel)).trans ?_
  rfl

theorem b315_1164 {h : HP} {I : Nat → Int → Int} {x4 : Int} {x5 : Int} {x6 : Int} : Go 315 1164 [.inr (.inl (some 0)), .inr (.inl (some 1)), .inr (.inl (some 94)), .inr (.inl (some 139)), .inl x4, .inl x5, .inl x6] [] (mI h I) = some (mI h I, .inl (some (.inl 0))) := by
  refine (Go_const (h := mI h I) (y := 315) (ip := 1164) (a := 0) (b := 0) (c := 0) (by decide +kernel)).trans ?_
  refine (Go_iret (h := mI h I) (y := 315) (ip := 1165) (a := 0) (b := 0) (c := 0) (by decide +kernel) (Or.inr ⟨rfl, by decide⟩)).trans ?_
  rfl

theorem b315_1166 {h : HP} {I : Nat → Int → Int} {x4 : Int} {x5 : Int} {x6 : Int} : Go 315 1166 [.inr (.inl (some 0)), .inr (.inl (some 1)), .inr (.inl (some 94)), .inr (.inl (some 139)), .inl x4, .inl x5, .inl x6] [] (mI h I) = if x5 ≠ 0 then Go 315 1177 [.inr (.inl (some 0)), .inr (.inl (some 1)), .inr (.inl (some 94)), .inr (.inl (some 139)), .inl x4, .inl x5, .inl x6] [] (mI h I) else Go 315 1168 [.inr (.inl (some 0)), .inr (.inl (some 1)), .inr (.inl (some 94)), .inr (.inl (some 139)), .inl x4, .inl x5, .inl x6] [] (mI h I) := by
  refine (Go_iload (h := mI h I) (y := 315) (ip := 1166) (a := 0) (b := 5) (c := 0) (by decide +kernel) rfl).trans ?_
  refine (Go_ifne (y := 315) (ip := 1167) (a := 0) (c := 1177) (by decide +kernel)).trans ?_
  rfl

theorem b315_1168 {h : HP} {I : Nat → Int → Int} {x4 : Int} {x5 : Int} {x6 : Int} (p0 : hK h 139 = (2, 1)) : Go 315 1168 [.inr (.inl (some 0)), .inr (.inl (some 1)), .inr (.inl (some 94)), .inr (.inl (some 139)), .inl x4, .inl x5, .inl x6] [] (mI h I) = if (if I 139 0 < x6 then -1 else if I 139 0 = x6 then 0 else 1 : Int) = 0 then Go 315 1177 [.inr (.inl (some 0)), .inr (.inl (some 1)), .inr (.inl (some 94)), .inr (.inl (some 139)), .inl x4, .inl x5, .inl x6] [] (mI h I) else Go 315 1175 [.inr (.inl (some 0)), .inr (.inl (some 1)), .inr (.inl (some 94)), .inr (.inl (some 139)), .inl x4, .inl x5, .inl x6] [] (mI h I) := by
  refine (Go_aload (h := mI h I) (y := 315) (ip := 1168) (a := 0) (b := 3) (c := 0) (by decide +kernel) rfl).trans ?_
  refine (Go_const (h := mI h I) (y := 315) (ip := 1169) (a := 0) (b := 0) (c := 0) (by decide +kernel)).trans ?_
  refine (Go_ldl (h := mI h I) (y := 315) (ip := 1170) (a := 0) (c := 0) (by decide +kernel) (p0) (by decide)).trans ?_
  refine (Go_iload (h := mI h I) (y := 315) (ip := 1171) (a := 0) (b := 6) (c := 0) (by decide +kernel) rfl).trans ?_
  refine (Go_i2l (h := mI h I) (y := 315) (ip := 1172) (a := 0) (b := 0) (c := 0) (by decide +kernel)).trans ?_
  refine (Go_lcmp (h := mI h I) (y := 315) (ip := 1173) (a := 0) (b := 0) (c := 0) (by decide +kernel)).trans ?_
  refine (Go_ifeq (y := 315) (ip := 1174) (a := 0) (c := 1177) (by decide +kernel)).trans ?_
  rfl

theorem b315_1175 {h : HP} {I : Nat → Int → Int} {x4 : Int} {x5 : Int} {x6 : Int} : Go 315 1175 [.inr (.inl (some 0)), .inr (.inl (some 1)), .inr (.inl (some 94)), .inr (.inl (some 139)), .inl x4, .inl x5, .inl x6] [] (mI h I) = some (mI h I, .inl (some (.inl 0))) := by
  refine (Go_const (h := mI h I) (y := 315) (ip := 1175) (a := 0) (b := 0) (c := 0) (by decide +kernel)).trans ?_
  refine (Go_iret (h := mI h I) (y := 315) (ip := 1176) (a := 0) (b := 0) (c := 0) (by decide +kernel) (Or.inr ⟨rfl, by decide⟩)).trans ?_
  rfl

theorem b315_1177 {h : HP} {I : Nat → Int → Int} {x4 : Int} {x5 : Int} {x6 : Int} : Go 315 1177 [.inr (.inl (some 0)), .inr (.inl (some 1)), .inr (.inl (some 94)), .inr (.inl (some 139)), .inl x4, .inl x5, .inl x6] [] (mI h I) = Go 315 1826 [.inr (.inl (some 0)), .inr (.inl (some 1)), .inr (.inl (some 94)), .inr (.inl (some 139)), .inl x4, .inl x5, .inl x6] [] (mI h I) := by
  refine (Go_goto (h := mI h I) (y := 315) (ip := 1177) (a := 0) (b := 0) (c := 1826) (by decide +kernel)).trans ?_
  rfl

theorem b315_1178 {h : HP} {I : Nat → Int → Int} {x4 : Int} {v5 : MV} {v6 : MV} {L : Int} (p0 : -2147483648 ≤ x4 + 1 ∧ x4 + 1 < 2147483648) (p1 : hK h 0 = (6, L)) (p2 : 0 ≤ x4 + 1 ∧ x4 + 1 < L) (p3 : -2147483648 ≤ x4 + 2 ∧ x4 + 2 < 2147483648) (p4 : 0 ≤ x4 + 2 ∧ x4 + 2 < L) : Go 315 1178 [.inr (.inl (some 0)), .inr (.inl (some 1)), .inr (.inl (some 94)), .inr (.inl (some 139)), .inl x4, v5, v6] [] (mI h I) = caln 315 [.inr (.inl (some 0)), .inr (.inl (some 1)), .inr (.inl (some 94)), .inr (.inl (some 139)), .inl x4, v5, v6] [] 1191 (Go 301 0 [.inr (.inl (some 1)), .inl (I 0 (x4 + 1)), .inl (I 0 (x4 + 2)), .inr (.inl (some 139)), vU] [] (mI h I)) := by
  refine (Go_aload (h := mI h I) (y := 315) (ip := 1178) (a := 0) (b := 1) (c := 0) (by decide +kernel) rfl).trans ?_
  refine (Go_aload (h := mI h I) (y := 315) (ip := 1179) (a := 0) (b := 0) (c := 0) (by decide +kernel) rfl).trans ?_
  refine (Go_iload (h := mI h I) (y := 315) (ip := 1180) (a := 0) (b := 4) (c := 0) (by decide +kernel) rfl).trans ?_
  refine (Go_const (h := mI h I) (y := 315) (ip := 1181) (a := 1) (b := 0) (c := 0) (by decide +kernel)).trans ?_
  refine (Go_ar (op := 4) (x := x4 + 1) (h := mI h I) (y := 315) (ip := 1182) (a := 0) (b := 0) (c := 0) (by decide +kernel) rfl (zar4 p0)).trans ?_
  refine (Go_ald (h := mI h I) (y := 315) (ip := 1183) (a := 0) (b := 0) (c := 0) (by decide +kernel) rfl (p1) rfl p2).trans ?_
  refine (Go_aload (h := mI h I) (y := 315) (ip := 1184) (a := 0) (b := 0) (c := 0) (by decide +kernel) rfl).trans ?_
  refine (Go_iload (h := mI h I) (y := 315) (ip := 1185) (a := 0) (b := 4) (c := 0) (by decide +kernel) rfl).trans ?_
  refine (Go_const (h := mI h I) (y := 315) (ip := 1186) (a := 2) (b := 0) (c := 0) (by decide +kernel)).trans ?_
  refine (Go_ar (op := 4) (x := x4 + 2) (h := mI h I) (y := 315) (ip := 1187) (a := 0) (b := 0) (c := 0) (by decide +kernel) rfl (zar4 p3)).trans ?_
  refine (Go_ald (h := mI h I) (y := 315) (ip := 1188) (a := 0) (b := 0) (c := 0) (by decide +kernel) rfl (p1) rfl p4).trans ?_
  refine (Go_aload (h := mI h I) (y := 315) (ip := 1189) (a := 0) (b := 3) (c := 0) (by decide +kernel) rfl).trans ?_
  refine (Go_call2 (h := mI h I) (y := 315) (ip := 1190) (a := 331) (z := 301) (c := 1) (as := [.inr (.inl (some 1)), .inl (I 0 (x4 + 1)), .inl (I 0 (x4 + 2)), .inr (.inl (some 139))]) (rest := []) (by decide +kernel) (by decide +kernel) rfl rfl rfl rfl).trans ?_
  rfl

theorem b315_1191 {h : HP} {I : Nat → Int → Int} {x4 : Int} {v5 : MV} {v6 : MV} {sx0 : Int} {L : Int} (p0 : -2147483648 ≤ x4 + 1 ∧ x4 + 1 < 2147483648) (p1 : hK h 0 = (6, L)) (p2 : 0 ≤ x4 + 1 ∧ x4 + 1 < L) (p3 : -2147483648 ≤ x4 + 2 ∧ x4 + 2 < 2147483648) (p4 : 0 ≤ x4 + 2 ∧ x4 + 2 < L) (p5 : LX 11 h 94) : Go 315 1191 [.inr (.inl (some 0)), .inr (.inl (some 1)), .inr (.inl (some 94)), .inr (.inl (some 139)), .inl x4, v5, v6] [.inl sx0] (mI h I) = caln 315 [.inr (.inl (some 0)), .inr (.inl (some 1)), .inr (.inl (some 94)), .inr (.inl (some 139)), .inl x4, .inl sx0, v6] [] 1204 (Go 240 0 [.inr (.inl (some 94)), .inl (I 0 (x4 + 1)), .inl (I 0 (x4 + 2))] [] (mI h I)) := by
  refine (Go_istore (h := mI h I) (y := 315) (ip := 1191) (a := 0) (b := 5) (c := 0) (by decide +kernel) rfl).trans ?_
  refine (Go_aload (h := mI h I) (y := 315) (ip := 1192) (a := 0) (b := 2) (c := 0) (by decide +kernel) rfl).trans ?_
  refine (Go_aload (h := mI h I) (y := 315) (ip := 1193) (a := 0) (b := 0) (c := 0) (by decide +kernel) rfl).trans ?_
  refine (Go_iload (h := mI h I) (y := 315) (ip := 1194) (a := 0) (b := 4) (c := 0) (by decide +kernel) rfl).trans ?_
  refine (Go_const (h := mI h I) (y := 315) (ip := 1195) (a := 1) (b := 0) (c := 0) (by decide +kernel)).trans ?_
  refine (Go_ar (op := 4) (x := x4 + 1) (h := mI h I) (y := 315) (ip := 1196) (a := 0) (b := 0) (c := 0) (by decide +kernel) rfl (zar4 p0)).trans ?_
  refine (Go_ald (h := mI h I) (y := 315) (ip := 1197) (a := 0) (b := 0) (c := 0) (by decide +kernel) rfl (p1) rfl p2).trans ?_
  refine (Go_aload (h := mI h I) (y := 315) (ip := 1198) (a := 0) (b := 0) (c := 0) (by decide +kernel) rfl).trans ?_
  refine (Go_iload (h := mI h I) (y := 315) (ip := 1199) (a := 0) (b := 4) (c := 0) (by decide +kernel) rfl).trans ?_
  refine (Go_const (h := mI h I) (y := 315) (ip := 1200) (a := 2) (b := 0) (c := 0) (by decide +kernel)).trans ?_
  refine (Go_ar (op := 4) (x := x4 + 2) (h := mI h I) (y := 315) (ip := 1201) (a := 0) (b := 0) (c := 0) (by decide +kernel) rfl (zar4 p3)).trans ?_
  refine (Go_ald (h := mI h I) (y := 315) (ip := 1202) (a := 0) (b := 0) (c := 0) (by decide +kernel) rfl (p1) rfl p4).trans ?_
  refine (Go_call2 (h := mI h I) (y := 315) (ip := 1203) (a := 332) (z := 240) (c := 0) (as := [.inr (.inl (some 94)), .inl (I 0 (x4 + 1)), .inl (I 0 (x4 + 2))]) (rest := []) (by decide +kernel) (by decide +kernel) rfl rfl (zrecv_v rfl (LX_t p5)) rfl).trans ?_
  rfl

theorem b315_1204 {h : HP} {I : Nat → Int → Int} {x4 : Int} {x5 : Int} {v6 : MV} {sx0 : Int} (p0 : LX 11 h 94) : Go 315 1204 [.inr (.inl (some 0)), .inr (.inl (some 1)), .inr (.inl (some 94)), .inr (.inl (some 139)), .inl x4, .inl x5, v6] [.inl sx0] (mI h I) = caln 315 [.inr (.inl (some 0)), .inr (.inl (some 1)), .inr (.inl (some 94)), .inr (.inl (some 139)), .inl x4, .inl x5, .inl sx0] [] 1207 (Go 162 0 [.inr (.inl (some 94))] [] (mI h I)) := by
  refine (Go_istore (h := mI h I) (y := 315) (ip := 1204) (a := 0) (b := 6) (c := 0) (by decide +kernel) rfl).trans ?_
  refine (Go_aload (h := mI h I) (y := 315) (ip := 1205) (a := 0) (b := 2) (c := 0) (by decide +kernel) rfl).trans ?_
  refine (Go_call2 (h := mI h I) (y := 315) (ip := 1206) (a := 276) (z := 162) (c := 0) (as := [.inr (.inl (some 94))]) (rest := []) (by decide +kernel) (by decide +kernel) rfl rfl (zrecv_v rfl (LX_t p0)) rfl).trans ?_
  rfl

theorem b315_1207 {h : HP} {I : Nat → Int → Int} {x4 : Int} {x5 : Int} {x6 : Int} {sx0 : Int} : Go 315 1207 [.inr (.inl (some 0)), .inr (.inl (some 1)), .inr (.inl (some 94)), .inr (.inl (some 139)), .inl x4, .inl x5, .inl x6] [.inl sx0] (mI h I) = if sx0 = x5 then Go 315 1211 [.inr (.inl (some 0)), .inr (.inl (some 1)), .inr (.inl (some 94)), .inr (.inl (some 139)), .inl x4, .inl x5, .inl x6] [] (mI h I) else Go 315 1209 [.inr (.inl (some 0)), .inr (.inl (some 1)), .inr (.inl (some 94)), .inr (.inl (some 139)), .inl x4, .inl x5, .inl x6] [] (mI h I) := by
  refine (Go_iload (h := mI h I) (y := 315) (ip := 1207) (a := 0) (b := 5) (c := 0) (by decide +kernel) rfl).trans ?_
  refine (Go_cmpeq (y := 315) (ip := 1208) (a := 0) (c := 1211) (by decide +kernel)).trans ?_
  rfl

theorem b315_1209 {h : HP} {I : Nat → Int → Int} {x4 : Int} {x5 : Int} {x6 : Int} : Go 315 1209 [.inr (.inl (some 0)), .inr (.inl (some 1)), .inr (.inl (some 94)), .inr (.inl (some 139)), .inl x4, .inl x5, .inl x6] [] (mI h I) = some (mI h I, .inl (some (.inl 0))) := by
  refine (Go_const (h := mI h I) (y := 315) (ip := 1209) (a := 0) (b := 0) (c := 0) (by decide +kernel)).trans ?_
  refine (Go_iret (h := mI h I) (y := 315) (ip := 1210) (a := 0) (b := 0) (c := 0) (by decide +kernel) (Or.inr ⟨rfl, by decide⟩)).trans ?_
  rfl

theorem b315_1211 {h : HP} {I : Nat → Int → Int} {x4 : Int} {x5 : Int} {x6 : Int} : Go 315 1211 [.inr (.inl (some 0)), .inr (.inl (some 1)), .inr (.inl (some 94)), .inr (.inl (some 139)), .inl x4, .inl x5, .inl x6] [] (mI h I) = if x5 ≠ 0 then Go 315 1222 [.inr (.inl (some 0)), .inr (.inl (some 1)), .inr (.inl (some 94)), .inr (.inl (some 139)), .inl x4, .inl x5, .inl x6] [] (mI h I) else Go 315 1213 [.inr (.inl (some 0)), .inr (.inl (some 1)), .inr (.inl (some 94)), .inr (.inl (some 139)), .inl x4, .inl x5, .inl x6] [] (mI h I) := by
  refine (Go_iload (h := mI h I) (y := 315) (ip := 1211) (a := 0) (b := 5) (c := 0) (by decide +kernel) rfl).trans ?_
  refine (Go_ifne (y := 315) (ip := 1212) (a := 0) (c := 1222) (by decide +kernel)).trans ?_
  rfl

theorem b315_1213 {h : HP} {I : Nat → Int → Int} {x4 : Int} {x5 : Int} {x6 : Int} (p0 : hK h 139 = (2, 1)) : Go 315 1213 [.inr (.inl (some 0)), .inr (.inl (some 1)), .inr (.inl (some 94)), .inr (.inl (some 139)), .inl x4, .inl x5, .inl x6] [] (mI h I) = if (if I 139 0 < x6 then -1 else if I 139 0 = x6 then 0 else 1 : Int) = 0 then Go 315 1222 [.inr (.inl (some 0)), .inr (.inl (some 1)), .inr (.inl (some 94)), .inr (.inl (some 139)), .inl x4, .inl x5, .inl x6] [] (mI h I) else Go 315 1220 [.inr (.inl (some 0)), .inr (.inl (some 1)), .inr (.inl (some 94)), .inr (.inl (some 139)), .inl x4, .inl x5, .inl x6] [] (mI h I) := by
  refine (Go_aload (h := mI h I) (y := 315) (ip := 1213) (a := 0) (b := 3) (c := 0) (by decide +kernel) rfl).trans ?_
  refine (Go_const (h := mI h I) (y := 315) (ip := 1214) (a := 0) (b := 0) (c := 0) (by decide +kernel)).trans ?_
  refine (Go_ldl (h := mI h I) (y := 315) (ip := 1215) (a := 0) (c := 0) (by decide +kernel) (p0) (by decide)).trans ?_
  refine (Go_iload (h := mI h I) (y := 315) (ip := 1216) (a := 0) (b := 6) (c := 0) (by decide +kernel) rfl).trans ?_
  refine (Go_i2l (h := mI h I) (y := 315) (ip := 1217) (a := 0) (b := 0) (c := 0) (by decide +kernel)).trans ?_
  refine (Go_lcmp (h := mI h I) (y := 315) (ip := 1218) (a := 0) (b := 0) (c := 0) (by decide +kernel)).trans ?_
  refine (Go_ifeq (y := 315) (ip := 1219) (a := 0) (c := 1222) (by decide +kernel)).trans ?_
  rfl

theorem b315_1220 {h : HP} {I : Nat → Int → Int} {x4 : Int} {x5 : Int} {x6 : Int} : Go 315 1220 [.inr (.inl (some 0)), .inr (.inl (some 1)), .inr (.inl (some 94)), .inr (.inl (some 139)), .inl x4, .inl x5, .inl x6] [] (mI h I) = some (mI h I, .inl (some (.inl 0))) := by
  refine (Go_const (h := mI h I) (y := 315) (ip := 1220) (a := 0) (b := 0) (c := 0) (by decide +kernel)).trans ?_
  refine (Go_iret (h := mI h I) (y := 315) (ip := 1221) (a := 0) (b := 0) (c := 0) (by decide +kernel) (Or.inr ⟨rfl, by decide⟩)).trans ?_
  rfl

theorem b315_1222 {h : HP} {I : Nat → Int → Int} {x4 : Int} {x5 : Int} {x6 : Int} : Go 315 1222 [.inr (.inl (some 0)), .inr (.inl (some 1)), .inr (.inl (some 94)), .inr (.inl (some 139)), .inl x4, .inl x5, .inl x6] [] (mI h I) = Go 315 1826 [.inr (.inl (some 0)), .inr (.inl (some 1)), .inr (.inl (some 94)), .inr (.inl (some 139)), .inl x4, .inl x5, .inl x6] [] (mI h I) := by
  refine (Go_goto (h := mI h I) (y := 315) (ip := 1222) (a := 0) (b := 0) (c := 1826) (by decide +kernel)).trans ?_
  rfl

theorem b315_1223 {h : HP} {I : Nat → Int → Int} {x4 : Int} {v5 : MV} {v6 : MV} {L : Int} (p0 : -2147483648 ≤ x4 + 1 ∧ x4 + 1 < 2147483648) (p1 : hK h 0 = (6, L)) (p2 : 0 ≤ x4 + 1 ∧ x4 + 1 < L) (p3 : -2147483648 ≤ x4 + 2 ∧ x4 + 2 < 2147483648) (p4 : 0 ≤ x4 + 2 ∧ x4 + 2 < L) (p5 : -2147483648 ≤ x4 + 3 ∧ x4 + 3 < 2147483648) (p6 : 0 ≤ x4 + 3 ∧ x4 + 3 < L) : Go 315 1223 [.inr (.inl (some 0)), .inr (.inl (some 1)), .inr (.inl (some 94)), .inr (.inl (some 139)), .inl x4, v5, v6] [] (mI h I) = caln 315 [.inr (.inl (some 0)), .inr (.inl (some 1)), .inr (.inl (some 94)), .inr (.inl (some 139)), .inl x4, v5, v6] [] 1241 (Go 302 0 [.inr (.inl (some 1)), .inl (I 0 (x4 + 1)), .inl (I 0 (x4 + 2)), .inl (I 0 (x4 + 3)), .inr (.inl (some 139)), vU] [] (mI h I)) := by
  refine (Go_aload (h := mI h I) (y := 315) (ip := 1223) (a := 0) (b := 1) (c := 0) (by decide +kernel) rfl).trans ?_
  refine (Go_aload (h := mI h I) (y := 315) (ip := 1224) (a := 0) (b := 0) (c := 0) (by decide +kernel) rfl).trans ?_
  refine (Go_iload (h := mI h I) (y := 315) (ip := 1225) (a := 0) (b := 4) (c := 0) (by decide +kernel) rfl).trans ?_
  refine (Go_const (h := mI h I) (y := 315) (ip := 1226) (a := 1) (b := 0) (c := 0) (by decide +kernel)).trans ?_
  refine (Go_ar (op := 4) (x := x4 + 1) (h := mI h I) (y := 315) (ip := 1227) (a := 0) (b := 0) (c := 0) (by decide +kernel) rfl (zar4 p0)).trans ?_
  refine (Go_ald (h := mI h I) (y := 315) (ip := 1228) (a := 0) (b := 0) (c := 0) (by decide +kernel) rfl (p1) rfl p2).trans ?_
  refine (Go_aload (h := mI h I) (y := 315) (ip := 1229) (a := 0) (b := 0) (c := 0) (by decide +kernel) rfl).trans ?_
  refine (Go_iload (h := mI h I) (y := 315) (ip := 1230) (a := 0) (b := 4) (c := 0) (by decide +kernel) rfl).trans ?_
  refine (Go_const (h := mI h I) (y := 315) (ip := 1231) (a := 2) (b := 0) (c := 0) (by decide +kernel)).trans ?_
  refine (Go_ar (op := 4) (x := x4 + 2) (h := mI h I) (y := 315) (ip := 1232) (a := 0) (b := 0) (c := 0) (by decide +kernel) rfl (zar4 p3)).trans ?_
  refine (Go_ald (h := mI h I) (y := 315) (ip := 1233) (a := 0) (b := 0) (c := 0) (by decide +kernel) rfl (p1) rfl p4).trans ?_
  refine (Go_aload (h := mI h I) (y := 315) (ip := 1234) (a := 0) (b := 0) (c := 0) (by decide +kernel) rfl).trans ?_
  refine (Go_iload (h := mI h I) (y := 315) (ip := 1235) (a := 0) (b := 4) (c := 0) (by decide +kernel) rfl).trans ?_
  refine (Go_const (h := mI h I) (y := 315) (ip := 1236) (a := 3) (b := 0) (c := 0) (by decide +kernel)).trans ?_
  refine (Go_ar (op := 4) (x := x4 + 3) (h := mI h I) (y := 315) (ip := 1237) (a := 0) (b := 0) (c := 0) (by decide +kernel) rfl (zar4 p5)).trans ?_
  refine (Go_ald (h := mI h I) (y := 315) (ip := 1238) (a := 0) (b := 0) (c := 0) (by decide +kernel) rfl (p1) rfl p6).trans ?_
  refine (Go_aload (h := mI h I) (y := 315) (ip := 1239) (a := 0) (b := 3) (c := 0) (by decide +kernel) rfl).trans ?_
  refine (Go_call2 (h := mI h I) (y := 315) (ip := 1240) (a := 333) (z := 302) (c := 1) (as := [.inr (.inl (some 1)), .inl (I 0 (x4 + 1)), .inl (I 0 (x4 + 2)), .inl (I 0 (x4 + 3)), .inr (.inl (some 139))]) (rest := []) (by decide +kernel) (by decide +kernel) rfl rfl rfl rfl).trans ?_
  rfl

theorem b315_1241 {h : HP} {I : Nat → Int → Int} {x4 : Int} {v5 : MV} {v6 : MV} {sx0 : Int} {L : Int} (p0 : -2147483648 ≤ x4 + 1 ∧ x4 + 1 < 2147483648) (p1 : hK h 0 = (6, L)) (p2 : 0 ≤ x4 + 1 ∧ x4 + 1 < L) (p3 : -2147483648 ≤ x4 + 2 ∧ x4 + 2 < 2147483648) (p4 : 0 ≤ x4 + 2 ∧ x4 + 2 < L) (p5 : -2147483648 ≤ x4 + 3 ∧ x4 + 3 < 2147483648) (p6 : 0 ≤ x4 + 3 ∧ x4 + 3 < L) (p7 : LX 11 h 94) : Go 315 1241 [.inr (.inl (some 0)), .inr (.inl (some 1)), .inr (.inl (some 94)), .inr (.inl (some 139)), .inl x4, v5, v6] [.inl sx0] (mI h I) = caln 315 [.inr (.inl (some 0)), .inr (.inl (some 1)), .inr (.inl (some 94)), .inr (.inl (some 139)), .inl x4, .inl sx0, v6] [] 1259 (Go 249 0 [.inr (.inl (some 94)), .inl (I 0 (x4 + 1)), .inl (I 0 (x4 + 2)), .inl (I 0 (x4 + 3)), vU] [] (mI h I)) := by
  refine (Go_istore (h := mI h I) (y := 315) (ip := 1241) (a := 0) (b := 5) (c := 0) (by decide +kernel) rfl).trans ?_
  refine (Go_aload (h := mI h I) (y := 315) (ip := 1242) (a := 0) (b := 2) (c := 0) (by decide +kernel) rfl).trans ?_
  refine (Go_aload (h := mI h I) (y := 315) (ip := 1243) (a := 0) (b := 0) (c := 0) (by decide +kernel) rfl).trans ?_
  refine (Go_iload (h := mI h I) (y := 315) (ip := 1244) (a := 0) (b := 4) (c := 0) (by decide +kernel) rfl).trans ?_
  refine (Go_const (h := mI h I) (y := 315) (ip := 1245) (a := 1) (b := 0) (c := 0) (by decide +kernel)).trans ?_
  refine (Go_ar (op := 4) (x := x4 + 1) (h := mI h I) (y := 315) (ip := 1246) (a := 0) (b := 0) (c := 0) (by decide +kernel) rfl (zar4 p0)).trans ?_
  refine (Go_ald (h := mI h I) (y := 315) (ip := 1247) (a := 0) (b := 0) (c := 0) (by decide +kernel) rfl (p1) rfl p2).trans ?_
  refine (Go_aload (h := mI h I) (y := 315) (ip := 1248) (a := 0) (b := 0) (c := 0) (by decide +kernel) rfl).trans ?_
  refine (Go_iload (h := mI h I) (y := 315) (ip := 1249) (a := 0) (b := 4) (c := 0) (by decide +kernel) rfl).trans ?_
  refine (Go_const (h := mI h I) (y := 315) (ip := 1250) (a := 2) (b := 0) (c := 0) (by decide +kernel)).trans ?_
  refine (Go_ar (op := 4) (x := x4 + 2) (h := mI h I) (y := 315) (ip := 1251) (a := 0) (b := 0) (c := 0) (by decide +kernel) rfl (zar4 p3)).trans ?_
  refine (Go_ald (h := mI h I) (y := 315) (ip := 1252) (a := 0) (b := 0) (c := 0) (by decide +kernel) rfl (p1) rfl p4).trans ?_
  refine (Go_aload (h := mI h I) (y := 315) (ip := 1253) (a := 0) (b := 0) (c := 0) (by decide +kernel) rfl).trans ?_
  refine (Go_iload (h := mI h I) (y := 315) (ip := 1254) (a := 0) (b := 4) (c := 0) (by decide +kernel) rfl).trans ?_
  refine (Go_const (h := mI h I) (y := 315) (ip := 1255) (a := 3) (b := 0) (c := 0) (by decide +kernel)).trans ?_
  refine (Go_ar (op := 4) (x := x4 + 3) (h := mI h I) (y := 315) (ip := 1256) (a := 0) (b := 0) (c := 0) (by decide +kernel) rfl (zar4 p5)).trans ?_
  refine (Go_ald (h := mI h I) (y := 315) (ip := 1257) (a := 0) (b := 0) (c := 0) (by decide +kernel) rfl (p1) rfl p6).trans ?_
  refine (Go_call2 (h := mI h I) (y := 315) (ip := 1258) (a := 334) (z := 249) (c := 0) (as := [.inr (.inl (some 94)), .inl (I 0 (x4 + 1)), .inl (I 0 (x4 + 2)), .inl (I 0 (x4 + 3))]) (rest := []) (by decide +kernel) (by decide +kernel) rfl rfl (zrecv_v rfl (LX_t p7)) rfl).trans ?_
  rfl

theorem b315_1259 {h : HP} {I : Nat → Int → Int} {x4 : Int} {x5 : Int} {v6 : MV} {sx0 : Int} (p0 : LX 11 h 94) : Go 315 1259 [.inr (.inl (some 0)), .inr (.inl (some 1)), .inr (.inl (some 94)), .inr (.inl (some 139)), .inl x4, .inl x5, v6] [.inl sx0] (mI h I) = caln 315 [.inr (.inl (some 0)), .inr (.inl (some 1)), .inr (.inl (some 94)), .inr (.inl (some 139)), .inl x4, .inl x5, .inl sx0] [] 1262 (Go 162 0 [.inr (.inl (some 94))] [] (mI h I)) := by
  refine (Go_istore (h := mI h I) (y := 315) (ip := 1259) (a := 0) (b := 6) (c := 0) (by decide +kernel) rfl).trans ?_
  refine (Go_aload (h := mI h I) (y := 315) (ip := 1260) (a := 0) (b := 2) (c := 0) (by decide +kernel) rfl).trans ?_
  refine (Go_call2 (h := mI h I) (y := 315) (ip := 1261) (a := 276) (z := 162) (c := 0) (as := [.inr (.inl (some 94))]) (rest := []) (by decide +kernel) (by decide +kernel) rfl rfl (zrecv_v rfl (LX_t p0)) rfl).trans ?_
  rfl

theorem b315_1262 {h : HP} {I : Nat → Int → Int} {x4 : Int} {x5 : Int} {x6 : Int} {sx0 : Int} : Go 315 1262 [.inr (.inl (some 0)), .inr (.inl (some 1)), .inr (.inl (some 94)), .inr (.inl (some 139)), .inl x4, .inl x5, .inl x6] [.inl sx0] (mI h I) = if sx0 = x5 then Go 315 1266 [.inr (.inl (some 0)), .inr (.inl (some 1)), .inr (.inl (some 94)), .inr (.inl (some 139)), .inl x4, .inl x5, .inl x6] [] (mI h I) else Go 315 1264 [.inr (.inl (some 0)), .inr (.inl (some 1)), .inr (.inl (some 94)), .inr (.inl (some 139)), .inl x4, .inl x5, .inl x6] [] (mI h I) := by
  refine (Go_iload (h := mI h I) (y := 315) (ip := 1262) (a := 0) (b := 5) (c := 0) (by decide +kernel) rfl).trans ?_
  refine (Go_cmpeq (y := 315) (ip := 1263) (a := 0) (c := 1266) (by decide +kernel)).trans ?_
  rfl

theorem b315_1264 {h : HP} {I : Nat → Int → Int} {x4 : Int} {x5 : Int} {x6 : Int} : Go 315 1264 [.inr (.inl (some 0)), .inr (.inl (some 1)), .inr (.inl (some 94)), .inr (.inl (some 139)), .inl x4, .inl x5, .inl x6] [] (mI h I) = some (mI h I, .inl (some (.inl 0))) := by
  refine (Go_const (h := mI h I) (y := 315) (ip := 1264) (a := 0) (b := 0) (c := 0) (by decide +kernel)).trans ?_
  refine (Go_iret (h := mI h I) (y := 315) (ip := 1265) (a := 0) (b := 0) (c := 0) (by decide +kernel) (Or.inr ⟨rfl, by decide⟩)).trans ?_
  rfl

theorem b315_1266 {h : HP} {I : Nat → Int → Int} {x4 : Int} {x5 : Int} {x6 : Int} : Go 315 1266 [.inr (.inl (some 0)), .inr (.inl (some 1)), .inr (.inl (some 94)), .inr (.inl (some 139)), .inl x4, .inl x5, .inl x6] [] (mI h I) = if x5 ≠ 0 then Go 315 1277 [.inr (.inl (some 0)), .inr (.inl (some 1)), .inr (.inl (some 94)), .inr (.inl (some 139)), .inl x4, .inl x5, .inl x6] [] (mI h I) else Go 315 1268 [.inr (.inl (some 0)), .inr (.inl (some 1)), .inr (.inl (some 94)), .inr (.inl (some 139)), .inl x4, .inl x5, .inl x6] [] (mI h I) := by
  refine (Go_iload (h := mI h I) (y := 315) (ip := 1266) (a := 0) (b := 5) (c := 0) (by decide +kernel) rfl).trans ?_
  refine (Go_ifne (y := 315) (ip := 1267) (a := 0) (c := 1277) (by decide +kernel)).trans ?_
  rfl

theorem b315_1268 {h : HP} {I : Nat → Int → Int} {x4 : Int} {x5 : Int} {x6 : Int} (p0 : hK h 139 = (2, 1)) : Go 315 1268 [.inr (.inl (some 0)), .inr (.inl (some 1)), .inr (.inl (some 94)), .inr (.inl (some 139)), .inl x4, .inl x5, .inl x6] [] (mI h I) = if (if I 139 0 < x6 then -1 else if I 139 0 = x6 then 0 else 1 : Int) = 0 then Go 315 1277 [.inr (.inl (some 0)), .inr (.inl (some 1)), .inr (.inl (some 94)), .inr (.inl (some 139)), .inl x4, .inl x5, .inl x6] [] (mI h I) else Go 315 1275 [.inr (.inl (some 0)), .inr (.inl (some 1)), .inr (.inl (some 94)), .inr (.inl (some 139)), .inl x4, .inl x5, .inl x6] [] (mI h I) := by
  refine (Go_aload (h := mI h I) (y := 315) (ip := 1268) (a := 0) (b := 3) (c := 0) (by decide +kernel) rfl).trans ?_
  refine (Go_const (h := mI h I) (y := 315) (ip := 1269) (a := 0) (b := 0) (c := 0) (by decide +kernel)).trans ?_
  refine (Go_ldl (h := mI h I) (y := 315) (ip := 1270) (a := 0) (c := 0) (by decide +kernel) (p0) (by decide)).trans ?_
  refine (Go_iload (h := mI h I) (y := 315) (ip := 1271) (a := 0) (b := 6) (c := 0) (by decide +kernel) rfl).trans ?_
  refine (Go_i2l (h := mI h I) (y := 315) (ip := 1272) (a := 0) (b := 0) (c := 0) (by decide +kernel)).trans ?_
  refine (Go_lcmp (h := mI h I) (y := 315) (ip := 1273) (a := 0) (b := 0) (c := 0) (by decide +kernel)).trans ?_
  refine (Go_ifeq (y := 315) (ip := 1274) (a := 0) (c := 1277) (by decide +kernel)).trans ?_
  rfl

theorem b315_1275 {h : HP} {I : Nat → Int → Int} {x4 : Int} {x5 : Int} {x6 : Int} : Go 315 1275 [.inr (.inl (some 0)), .inr (.inl (some 1)), .inr (.inl (some 94)), .inr (.inl (some 139)), .inl x4, .inl x5, .inl x6] [] (mI h I) = some (mI h I, .inl (some (.inl 0))) := by
  refine (Go_const (h := mI h I) (y := 315) (ip := 1275) (a := 0) (b := 0) (c := 0) (by decide +kernel)).trans ?_
  refine (Go_iret (h := mI h I) (y := 315) (ip := 1276) (a := 0) (b := 0) (c := 0) (by decide +kernel) (Or.inr ⟨rfl, by decide⟩)).trans ?_
  rfl

theorem b315_1277 {h : HP} {I : Nat → Int → Int} {x4 : Int} {x5 : Int} {x6 : Int} : Go 315 1277 [.inr (.inl (some 0)), .inr (.inl (some 1)), .inr (.inl (some 94)), .inr (.inl (some 139)), .inl x4, .inl x5, .inl x6] [] (mI h I) = Go 315 1826 [.inr (.inl (some 0)), .inr (.inl (some 1)), .inr (.inl (some 94)), .inr (.inl (some 139)), .inl x4, .inl x5, .inl x6] [] (mI h I) := by
  refine (Go_goto (h := mI h I) (y := 315) (ip := 1277) (a := 0) (b := 0) (c := 1826) (by decide +kernel)).trans ?_
  rfl

theorem b315_1278 {h : HP} {I : Nat → Int → Int} {x4 : Int} {v5 : MV} {v6 : MV} {L : Int} (p0 : -2147483648 ≤ x4 + 1 ∧ x4 + 1 < 2147483648) (p1 : hK h 0 = (6, L)) (p2 : 0 ≤ x4 + 1 ∧ x4 + 1 < L) : Go 315 1278 [.inr (.inl (some 0)), .inr (.inl (some 1)), .inr (.inl (some 94)), .inr (.inl (some 139)), .inl x4, v5, v6] [] (mI h I) = caln 315 [.inr (.inl (some 0)), .inr (.inl (some 1)), .inr (.inl (some 94)), .inr (.inl (some 139)), .inl x4, v5, v6] [] 1286 (Go 303 0 [.inr (.inl (some 1)), .inl (I 0 (x4 + 1)), .inr (.inl (some 139)), vU] [] (mI h I)) := by
  refine (Go_aload (h := mI h I) (y := 315) (ip := 1278) (a := 0) (b := 1) (c := 0) (by decide +kernel) rfl).trans ?_
  refine (Go_aload (h := mI h I) (y := 315) (ip := 1279) (a := 0) (b := 0) (c := 0) (by decide +kernel) rfl).trans ?_
  refine (Go_iload (h := mI h I) (y := 315) (ip := 1280) (a := 0) (b := 4) (c := 0) (by decide +kernel) rfl).trans ?_
  refine (Go_const (h := mI h I) (y := 315) (ip := 1281) (a := 1) (b := 0) (c := 0) (by decide +kernel)).trans ?_
  refine (Go_ar (op := 4) (x := x4 + 1) (h := mI h I) (y := 315) (ip := 1282) (a := 0) (b := 0) (c := 0) (by decide +kernel) rfl (zar4 p0)).trans ?_
  refine (Go_ald (h := mI h I) (y := 315) (ip := 1283) (a := 0) (b := 0) (c := 0) (by decide +kernel) rfl (p1) rfl p2).trans ?_
  refine (Go_aload (h := mI h I) (y := 315) (ip := 1284) (a := 0) (b := 3) (c := 0) (by decide +kernel) rfl).trans ?_
  refine (Go_call2 (h := mI h I) (y := 315) (ip := 1285) (a := 335) (z := 303) (c := 1) (as := [.inr (.inl (some 1)), .inl (I 0 (x4 + 1)), .inr (.inl (some 139))]) (rest := []) (by decide +kernel) (by decide +kernel) rfl rfl rfl rfl).trans ?_
  rfl

theorem b315_1286 {h : HP} {I : Nat → Int → Int} {x4 : Int} {v5 : MV} {v6 : MV} {sx0 : Int} {L : Int} (p0 : -2147483648 ≤ x4 + 1 ∧ x4 + 1 < 2147483648) (p1 : hK h 0 = (6, L)) (p2 : 0 ≤ x4 + 1 ∧ x4 + 1 < L) (p3 : LX 11 h 94) : Go 315 1286 [.inr (.inl (some 0)), .inr (.inl (some 1)), .inr (.inl (some 94)), .inr (.inl (some 139)), .inl x4, v5, v6] [.inl sx0] (mI h I) = caln 315 [.inr (.inl (some 0)), .inr (.inl (some 1)), .inr (.inl (some 94)), .inr (.inl (some 139)), .inl x4, .inl sx0, v6] [] 1294 (Go 250 0 [.inr (.inl (some 94)), .inl (I 0 (x4 + 1)), vU, vU, vU] [] (mI h I)) := by
  refine (Go_istore (h := mI h I) (y := 315) (ip := 1286) (a := 0) (b := 5) (c := 0) (by decide +kernel) rfl).trans ?_
  refine (Go_aload (h := mI h I) (y := 315) (ip := 1287) (a := 0) (b := 2) (c := 0) (by decide +kernel) rfl).trans ?_
  refine (Go_aload (h := mI h I) (y := 315) (ip := 1288) (a := 0) (b := 0) (c := 0) (by decide +kernel) rfl).trans ?_
  refine (Go_iload (h := mI h I) (y := 315) (ip := 1289) (a := 0) (b := 4) (c := 0) (by decide +kernel) rfl).trans ?_
  refine (Go_const (h := mI h I) (y := 315) (ip := 1290) (a := 1) (b := 0) (c := 0) (by decide +kernel)).trans ?_
  refine (Go_ar (op := 4) (x := x4 + 1) (h := mI h I) (y := 315) (ip := 1291) (a := 0) (b := 0) (c := 0) (by decide +kernel) rfl (zar4 p0)).trans ?_
  refine (Go_ald (h := mI h I) (y := 315) (ip := 1292) (a := 0) (b := 0) (c := 0) (by decide +kernel) rfl (p1) rfl p2).trans ?_
  refine (Go_call2 (h := mI h I) (y := 315) (ip := 1293) (a := 336) (z := 250) (c := 0) (as := [.inr (.inl (some 94)), .inl (I 0 (x4 + 1))]) (rest := []) (by decide +kernel) (by decide +kernel) rfl rfl (zrecv_v rfl (LX_t p3)) rfl).trans ?_
  rfl

theorem b315_1294 {h : HP} {I : Nat → Int → Int} {x4 : Int} {x5 : Int} {v6 : MV} {sx0 : Int} (p0 : LX 11 h 94) : Go 315 1294 [.inr (.inl (some 0)), .inr (.inl (some 1)), .inr (.inl (some 94)), .inr (.inl (some 139)), .inl x4, .inl x5, v6] [.inl sx0] (mI h I) = caln 315 [.inr (.inl (some 0)), .inr (.inl (some 1)), .inr (.inl (some 94)), .inr (.inl (some 139)), .inl x4, .inl x5, .inl sx0] [] 1297 (Go 162 0 [.inr (.inl (some 94))] [] (mI h I)) := by
  refine (Go_istore (h := mI h I) (y := 315) (ip := 1294) (a := 0) (b := 6) (c := 0) (by decide +kernel) rfl).trans ?_
  refine (Go_aload (h := mI h I) (y := 315) (ip := 1295) (a := 0) (b := 2) (c := 0) (by decide +kernel) rfl).trans ?_
  refine (Go_call2 (h := mI h I) (y := 315) (ip := 1296) (a := 276) (z := 162) (c := 0) (as := [.inr (.inl (some 94))]) (rest := []) (by decide +kernel) (by decide +kernel) rfl rfl (zrecv_v rfl (LX_t p0)) rfl).trans ?_
  rfl

theorem b315_1297 {h : HP} {I : Nat → Int → Int} {x4 : Int} {x5 : Int} {x6 : Int} {sx0 : Int} : Go 315 1297 [.inr (.inl (some 0)), .inr (.inl (some 1)), .inr (.inl (some 94)), .inr (.inl (some 139)), .inl x4, .inl x5, .inl x6] [.inl sx0] (mI h I) = if sx0 = x5 then Go 315 1301 [.inr (.inl (some 0)), .inr (.inl (some 1)), .inr (.inl (some 94)), .inr (.inl (some 139)), .inl x4, .inl x5, .inl x6] [] (mI h I) else Go 315 1299 [.inr (.inl (some 0)), .inr (.inl (some 1)), .inr (.inl (some 94)), .inr (.inl (some 139)), .inl x4, .inl x5, .inl x6] [] (mI h I) := by
  refine (Go_iload (h := mI h I) (y := 315) (ip := 1297) (a := 0) (b := 5) (c := 0) (by decide +kernel) rfl).trans ?_
  refine (Go_cmpeq (y := 315) (ip := 1298) (a := 0) (c := 1301) (by decide +kernel)).trans ?_
  rfl

theorem b315_1299 {h : HP} {I : Nat → Int → Int} {x4 : Int} {x5 : Int} {x6 : Int} : Go 315 1299 [.inr (.inl (some 0)), .inr (.inl (some 1)), .inr (.inl (some 94)), .inr (.inl (some 139)), .inl x4, .inl x5, .inl x6] [] (mI h I) = some (mI h I, .inl (some (.inl 0))) := by
  refine (Go_const (h := mI h I) (y := 315) (ip := 1299) (a := 0) (b := 0) (c := 0) (by decide +kernel)).trans ?_
  refine (Go_iret (h := mI h I) (y := 315) (ip := 1300) (a := 0) (b := 0) (c := 0) (by decide +kernel) (Or.inr ⟨rfl, by decide⟩)).trans ?_
  rfl

theorem b315_1301 {h : HP} {I : Nat → Int → Int} {x4 : Int} {x5 : Int} {x6 : Int} : Go 315 1301 [.inr (.inl (some 0)), .inr (.inl (some 1)), .inr (.inl (some 94)), .inr (.inl (some 139)), .inl x4, .inl x5, .inl x6] [] (mI h I) = if x5 ≠ 0 then Go 315 1312 [.inr (.inl (some 0)), .inr (.inl (some 1)), .inr (.inl (some 94)), .inr (.inl (some 139)), .inl x4, .inl x5, .inl x6] [] (mI h I) else Go 315 1303 [.inr (.inl (some 0)), .inr (.inl (some 1)), .inr (.inl (some 94)), .inr (.inl (some 139)), .inl x4, .inl x5, .inl x6] [] (mI h I) := by
  refine (Go_iload (h := mI h I) (y := 315) (ip := 1301) (a := 0) (b := 5) (c := 0) (by decide +kernel) rfl).trans ?_
  refine (Go_ifne (y := 315) (ip := 1302) (a := 0) (c := 1312) (by decide +kernel)).trans ?_
  rfl

theorem b315_1303 {h : HP} {I : Nat → Int → Int} {x4 : Int} {x5 : Int} {x6 : Int} (p0 : hK h 139 = (2, 1)) : Go 315 1303 [.inr (.inl (some 0)), .inr (.inl (some 1)), .inr (.inl (some 94)), .inr (.inl (some 139)), .inl x4, .inl x5, .inl x6] [] (mI h I) = if (if I 139 0 < x6 then -1 else if I 139 0 = x6 then 0 else 1 : Int) = 0 then Go 315 1312 [.inr (.inl (some 0)), .inr (.inl (some 1)), .inr (.inl (some 94)), .inr (.inl (some 139)), .inl x4, .inl x5, .inl x6] [] (mI h I) else Go 315 1310 [.inr (.inl (some 0)), .inr (.inl (some 1)), .inr (.inl (some 94)), .inr (.inl (some 139)), .inl x4, .inl x5, .inl x6] [] (mI h I) := by
  refine (Go_aload (h := mI h I) (y := 315) (ip := 1303) (a := 0) (b := 3) (c := 0) (by decide +kernel) rfl).trans ?_
  refine (Go_const (h := mI h I) (y := 315) (ip := 1304) (a := 0) (b := 0) (c := 0) (by decide +kernel)).trans ?_
  refine (Go_ldl (h := mI h I) (y := 315) (ip := 1305) (a := 0) (c := 0) (by decide +kernel) (p0) (by decide)).trans ?_
  refine (Go_iload (h := mI h I) (y := 315) (ip := 1306) (a := 0) (b := 6) (c := 0) (by decide +kernel) rfl).trans ?_
  refine (Go_i2l (h := mI h I) (y := 315) (ip := 1307) (a := 0) (b := 0) (c := 0) (by decide +kernel)).trans ?_
  refine (Go_lcmp (h := mI h I) (y := 315) (ip := 1308) (a := 0) (b := 0) (c := 0) (by decide +kernel)).trans ?_
  refine (Go_ifeq (y := 315) (ip := 1309) (a := 0) (c := 1312) (by decide +kernel)).trans ?_
  rfl

theorem b315_1310 {h : HP} {I : Nat → Int → Int} {x4 : Int} {x5 : Int} {x6 : Int} : Go 315 1310 [.inr (.inl (some 0)), .inr (.inl (some 1)), .inr (.inl (some 94)), .inr (.inl (some 139)), .inl x4, .inl x5, .inl x6] [] (mI h I) = some (mI h I, .inl (some (.inl 0))) := by
  refine (Go_const (h := mI h I) (y := 315) (ip := 1310) (a := 0) (b := 0) (c := 0) (by decide +kernel)).trans ?_
  refine (Go_iret (h := mI h I) (y := 315) (ip := 1311) (a := 0) (b := 0) (c := 0) (by decide +kernel) (Or.inr ⟨rfl, by decide⟩)).trans ?_
  rfl

theorem b315_1312 {h : HP} {I : Nat → Int → Int} {x4 : Int} {x5 : Int} {x6 : Int} : Go 315 1312 [.inr (.inl (some 0)), .inr (.inl (some 1)), .inr (.inl (some 94)), .inr (.inl (some 139)), .inl x4, .inl x5, .inl x6] [] (mI h I) = Go 315 1826 [.inr (.inl (some 0)), .inr (.inl (some 1)), .inr (.inl (some 94)), .inr (.inl (some 139)), .inl x4, .inl x5, .inl x6] [] (mI h I) := by
  refine (Go_goto (h := mI h I) (y := 315) (ip := 1312) (a := 0) (b := 0) (c := 1826) (by decide +kernel)).trans ?_
  rfl

theorem b315_1313 {h : HP} {I : Nat → Int → Int} {x4 : Int} {v5 : MV} {v6 : MV} {L : Int} (p0 : -2147483648 ≤ x4 + 1 ∧ x4 + 1 < 2147483648) (p1 : hK h 0 = (6, L)) (p2 : 0 ≤ x4 + 1 ∧ x4 + 1 < L) (p3 : -2147483648 ≤ x4 + 2 ∧ x4 + 2 < 2147483648) (p4 : 0 ≤ x4 + 2 ∧ x4 + 2 < L) : Go 315 1313 [.inr (.inl (some 0)), .inr (.inl (some 1)), .inr (.inl (some 94)), .inr (.inl (some 139)), .inl x4, v5, v6] [] (mI h I) = caln 315 [.inr (.inl (some 0)), .inr (.inl (some 1)), .inr (.inl (some 94)), .inr (.inl (some 139)), .inl x4, v5, v6] [] 1326 (Go 304 0 [.inr (.inl (some 1)), .inl (I 0 (x4 + 1)), .inl (I 0 (x4 + 2)), .inr (.inl (some 139)), vU] [] (mI h I)) := by
  refine (Go_aload (h := mI h I) (y := 315) (ip := 1313) (a := 0) (b := 1) (c := 0) (by decide +kernel) rfl).trans ?_
  refine (Go_aload (h := mI h I) (y := 315) (ip := 1314) (a := 0) (b := 0) (c := 0) (by decide +kernel) rfl).trans ?_
  refine (Go_iload (h := mI h I) (y := 315) (ip := 1315) (a := 0) (b := 4) (c := 0) (by decide +kernel) rfl).trans ?_
  refine (Go_const (h := mI h I) (y := 315) (ip := 1316) (a := 1) (b := 0) (c := 0) (by decide +kernel)).trans ?_
  refine (Go_ar (op := 4) (x := x4 + 1) (h := mI h I) (y := 315) (ip := 1317) (a := 0) (b := 0) (c := 0) (by decide +kernel) rfl (zar4 p0)).trans ?_
  refine (Go_ald (h := mI h I) (y := 315) (ip := 1318) (a := 0) (b := 0) (c := 0) (by decide +kernel) rfl (p1) rfl p2).trans ?_
  refine (Go_aload (h := mI h I) (y := 315) (ip := 1319) (a := 0) (b := 0) (c := 0) (by decide +kernel) rfl).trans ?_
  refine (Go_iload (h := mI h I) (y := 315) (ip := 1320) (a := 0) (b := 4) (c := 0) (by decide +kernel) rfl).trans ?_
  refine (Go_const (h := mI h I) (y := 315) (ip := 1321) (a := 2) (b := 0) (c := 0) (by decide +kernel)).trans ?_
  refine (Go_ar (op := 4) (x := x4 + 2) (h := mI h I) (y := 315) (ip := 1322) (a := 0) (b := 0) (c := 0) (by decide +kernel) rfl (zar4 p3)).trans ?_
  refine (Go_ald (h := mI h I) (y := 315) (ip := 1323) (a := 0) (b := 0) (c := 0) (by decide +kernel) rfl (p1) rfl p4).trans ?_
  refine (Go_aload (h := mI h I) (y := 315) (ip := 1324) (a := 0) (b := 3) (c := 0) (by decide +kernel) rfl).trans ?_
  refine (Go_call2 (h := mI h I) (y := 315) (ip := 1325) (a := 337) (z := 304) (c := 1) (as := [.inr (.inl (some 1)), .inl (I 0 (x4 + 1)), .inl (I 0 (x4 + 2)), .inr (.inl (some 139))]) (rest := []) (by decide +kernel) (by decide +kernel) rfl rfl rfl rfl).trans ?_
  rfl

theorem b315_1326 {h : HP} {I : Nat → Int → Int} {x4 : Int} {v5 : MV} {v6 : MV} {sx0 : Int} {L : Int} (p0 : -2147483648 ≤ x4 + 1 ∧ x4 + 1 < 2147483648) (p1 : hK h 0 = (6, L)) (p2 : 0 ≤ x4 + 1 ∧ x4 + 1 < L) (p3 : -2147483648 ≤ x4 + 2 ∧ x4 + 2 < 2147483648) (p4 : 0 ≤ x4 + 2 ∧ x4 + 2 < L) (p5 : LX 11 h 94) : Go 315 1326 [.inr (.inl (some 0)), .inr (.inl (some 1)), .inr (.inl (some 94)), .inr (.inl (some 139)), .inl x4, v5, v6] [.inl sx0] (mI h I) = caln 315 [.inr (.inl (some 0)), .inr (.inl (some 1)), .inr (.inl (some 94)), .inr (.inl (some 139)), .inl x4, .inl sx0, v6] [] 1339 (Go 252 0 [.inr (.inl (some 94)), .inl (I 0 (x4 + 1)), .inl (I 0 (x4 + 2))] [] (mI h I)) := by
  refine (Go_istore (h := mI h I) (y := 315) (ip := 1326) (a := 0) (b := 5) (c := 0) (by decide +kernel) rfl).trans ?_
  refine (Go_aload (h := mI h I) (y := 315) (ip := 1327) (a := 0) (b := 2) (c := 0) (by decide +kernel) rfl).trans ?_
  refine (Go_aload (h := mI h I) (y := 315) (ip := 1328) (a := 0) (b := 0) (c := 0) (by decide +kernel) rfl).trans ?_
  refine (Go_iload (h := mI h I) (y := 315) (ip := 1329) (a := 0) (b := 4) (c := 0) (by decide +kernel) rfl).trans ?_
  refine (Go_const (h := mI h I) (y := 315) (ip := 1330) (a := 1) (b := 0) (c := 0) (by decide +kernel)).trans ?_
  refine (Go_ar (op := 4) (x := x4 + 1) (h := mI h I) (y := 315) (ip := 1331) (a := 0) (b := 0) (c := 0) (by decide +kernel) rfl (zar4 p0)).trans ?_
  refine (Go_ald (h := mI h I) (y := 315) (ip := 1332) (a := 0) (b := 0) (c := 0) (by decide +kernel) rfl (p1) rfl p2).trans ?_
  refine (Go_aload (h := mI h I) (y := 315) (ip := 1333) (a := 0) (b := 0) (c := 0) (by decide +kernel) rfl).trans ?_
  refine (Go_iload (h := mI h I) (y := 315) (ip := 1334) (a := 0) (b := 4) (c := 0) (by decide +kernel) rfl).trans ?_
  refine (Go_const (h := mI h I) (y := 315) (ip := 1335) (a := 2) (b := 0) (c := 0) (by decide +kernel)).trans ?_
  refine (Go_ar (op := 4) (x := x4 + 2) (h := mI h I) (y := 315) (ip := 1336) (a := 0) (b := 0) (c := 0) (by decide +kernel) rfl (zar4 p3)).trans ?_
  refine (Go_ald (h := mI h I) (y := 315) (ip := 1337) (a := 0) (b := 0) (c := 0) (by decide +kernel) rfl (p1) rfl p4).trans ?_
  refine (Go_call2 (h := mI h I) (y := 315) (ip := 1338) (a := 338) (z := 252) (c := 0) (as := [.inr (.inl (some 94)), .inl (I 0 (x4 + 1)), .inl (I 0 (x4 + 2))]) (rest := []) (by decide +kernel) (by decide +kernel) rfl rfl (zrecv_v rfl (LX_t p5)) rfl).trans ?_
  rfl

theorem b315_1339 {h : HP} {I : Nat → Int → Int} {x4 : Int} {x5 : Int} {v6 : MV} {sx0 : Int} (p0 : LX 11 h 94) : Go 315 1339 [.inr (.inl (some 0)), .inr (.inl (some 1)), .inr (.inl (some 94)), .inr (.inl (some 139)), .inl x4, .inl x5, v6] [.inl sx0] (mI h I) = caln 315 [.inr (.inl (some 0)), .inr (.inl (some 1)), .inr (.inl (some 94)), .inr (.inl (some 139)), .inl x4, .inl x5, .inl sx0] [] 1342 (Go 162 0 [.inr (.inl (some 94))] [] (mI h I)) := by
  refine (Go_istore (h := mI h I) (y := 315) (ip := 1339) (a := 0) (b := 6) (c := 0) (by decide +kernel) rfl).trans ?_
  refine (Go_aload (h := mI h I) (y := 315) (ip := 1340) (a := 0) (b := 2) (c := 0) (by decide +kernel) rfl).trans ?_
  refine (Go_call2 (h := mI h I) (y := 315) (ip := 1341) (a := 276) (z := 162) (c := 0) (as := [.inr (.inl (some 94))]) (rest := []) (by decide +kernel) (by decide +kernel) rfl rfl (zrecv_v rfl (LX_t p0)) rfl).trans ?_
  rfl

theorem b315_1342 {h : HP} {I : Nat → Int → Int} {x4 : Int} {x5 : Int} {x6 : Int} {sx0 : Int} : Go 315 1342 [.inr (.inl (some 0)), .inr (.inl (some 1)), .inr (.inl (some 94)), .inr (.inl (some 139)), .inl x4, .inl x5, .inl x6] [.inl sx0] (mI h I) = if sx0 = x5 then Go 315 1346 [.inr (.inl (some 0)), .inr (.inl (some 1)), .inr (.inl (some 94)), .inr (.inl (some 139)), .inl x4, .inl x5, .inl x6] [] (mI h I) else Go 315 1344 [.inr (.inl (some 0)), .inr (.inl (some 1)), .inr (.inl (some 94)), .inr (.inl (some 139)), .inl x4, .inl x5, .inl x6] [] (mI h I) := by
  refine (Go_iload (h := mI h I) (y := 315) (ip := 1342) (a := 0) (b := 5) (c := 0) (by decide +kernel) rfl).trans ?_
  refine (Go_cmpeq (y := 315) (ip := 1343) (a := 0) (c := 1346) (by decide +kernel)).trans ?_
  rfl

theorem b315_1344 {h : HP} {I : Nat → Int → Int} {x4 : Int} {x5 : Int} {x6 : Int} : Go 315 1344 [.inr (.inl (some 0)), .inr (.inl (some 1)), .inr (.inl (some 94)), .inr (.inl (some 139)), .inl x4, .inl x5, .inl x6] [] (mI h I) = some (mI h I, .inl (some (.inl 0))) := by
  refine (Go_const (h := mI h I) (y := 315) (ip := 1344) (a := 0) (b := 0) (c := 0) (by decide +kernel)).trans ?_
  refine (Go_iret (h := mI h I) (y := 315) (ip := 1345) (a := 0) (b := 0) (c := 0) (by decide +kernel) (Or.inr ⟨rfl, by decide⟩)).trans ?_
  rfl

theorem b315_1346 {h : HP} {I : Nat → Int → Int} {x4 : Int} {x5 : Int} {x6 : Int} : Go 315 1346 [.inr (.inl (some 0)), .inr (.inl (some 1)), .inr (.inl (some 94)), .inr (.inl (some 139)), .inl x4, .inl x5, .inl x6] [] (mI h I) = if x5 ≠ 0 then Go 315 1357 [.inr (.inl (some 0)), .inr (.inl (some 1)), .inr (.inl (some 94)), .inr (.inl (some 139)), .inl x4, .inl x5, .inl x6] [] (mI h I) else Go 315 1348 [.inr (.inl (some 0)), .inr (.inl (some 1)), .inr (.inl (some 94)), .inr (.inl (some 139)), .inl x4, .inl x5, .inl x6] [] (mI h I) := by
  refine (Go_iload (h := mI h I) (y := 315) (ip := 1346) (a := 0) (b := 5) (c := 0) (by decide +kernel) rfl).trans ?_
  refine (Go_ifne (y := 315) (ip := 1347) (a := 0) (c := 1357) (by decide +kernel)).trans ?_
  rfl

theorem b315_1348 {h : HP} {I : Nat → Int → Int} {x4 : Int} {x5 : Int} {x6 : Int} (p0 : hK h 139 = (2, 1)) : Go 315 1348 [.inr (.inl (some 0)), .inr (.inl (some 1)), .inr (.inl (some 94)), .inr (.inl (some 139)), .inl x4, .inl x5, .inl x6] [] (mI h I) = if (if I 139 0 < x6 then -1 else if I 139 0 = x6 then 0 else 1 : Int) = 0 then Go 315 1357 [.inr (.inl (some 0)), .inr (.inl (some 1)), .inr (.inl (some 94)), .inr (.inl (some 139)), .inl x4, .inl x5, .inl x6] [] (mI h I) else Go 315 1355 [.inr (.inl (some 0)), .inr (.inl (some 1)), .inr (.inl (some 94)), .inr (.inl (some 139)), .inl x4, .inl x5, .inl x6] [] (mI h I) := by
  refine (Go_aload (h := mI h I) (y := 315) (ip := 1348) (a := 0) (b := 3) (c := 0) (by decide +kernel) rfl).trans ?_
  refine (Go_const (h := mI h I) (y := 315) (ip := 1349) (a := 0) (b := 0) (c := 0) (by decide +kernel)).trans ?_
  refine (Go_ldl (h := mI h I) (y := 315) (ip := 1350) (a := 0) (c := 0) (by decide +kernel) (p0) (by decide)).trans ?_
  refine (Go_iload (h := mI h I) (y := 315) (ip := 1351) (a := 0) (b := 6) (c := 0) (by decide +kernel) rfl).trans ?_
  refine (Go_i2l (h := mI h I) (y := 315) (ip := 1352) (a := 0) (b := 0) (c := 0) (by decide +kernel)).trans ?_
  refine (Go_lcmp (h := mI h I) (y := 315) (ip := 1353) (a := 0) (b := 0) (c := 0) (by decide +kernel)).trans ?_
  refine (Go_ifeq (y := 315) (ip := 1354) (a := 0) (c := 1357) (by decide +kernel)).trans ?_
  rfl

theorem b315_1355 {h : HP} {I : Nat → Int → Int} {x4 : Int} {x5 : Int} {x6 : Int} : Go 315 1355 [.inr (.inl (some 0)), .inr (.inl (some 1)), .inr (.inl (some 94)), .inr (.inl (some 139)), .inl x4, .inl x5, .inl x6] [] (mI h I) = some (mI h I, .inl (some (.inl 0))) := by
  refine (Go_const (h := mI h I) (y := 315) (ip := 1355) (a := 0) (b := 0) (c := 0) (by decide +kernel)).trans ?_
  refine (Go_iret (h := mI h I) (y := 315) (ip := 1356) (a := 0) (b := 0) (c := 0) (by decide +kernel) (Or.inr ⟨rfl, by decide⟩)).trans ?_
  rfl

theorem b315_1357 {h : HP} {I : Nat → Int → Int} {x4 : Int} {x5 : Int} {x6 : Int} : Go 315 1357 [.inr (.inl (some 0)), .inr (.inl (some 1)), .inr (.inl (some 94)), .inr (.inl (some 139)), .inl x4, .inl x5, .inl x6] [] (mI h I) = Go 315 1826 [.inr (.inl (some 0)), .inr (.inl (some 1)), .inr (.inl (some 94)), .inr (.inl (some 139)), .inl x4, .inl x5, .inl x6] [] (mI h I) := by
  refine (Go_goto (h := mI h I) (y := 315) (ip := 1357) (a := 0) (b := 0) (c := 1826) (by decide +kernel)).trans ?_
  rfl

theorem b315_1358 {h : HP} {I : Nat → Int → Int} {x4 : Int} {v5 : MV} {v6 : MV} {L : Int} (p0 : -2147483648 ≤ x4 + 1 ∧ x4 + 1 < 2147483648) (p1 : hK h 0 = (6, L)) (p2 : 0 ≤ x4 + 1 ∧ x4 + 1 < L) (p3 : -2147483648 ≤ x4 + 2 ∧ x4 + 2 < 2147483648) (p4 : 0 ≤ x4 + 2 ∧ x4 + 2 < L) : Go 315 1358 [.inr (.inl (some 0)), .inr (.inl (some 1)), .inr (.inl (some 94)), .inr (.inl (some 139)), .inl x4, v5, v6] [] (mI h I) = caln 315 [.inr (.inl (some 0)), .inr (.inl (some 1)), .inr (.inl (some 94)), .inr (.inl (some 139)), .inl x4, v5, v6] [] 1371 (Go 305 0 [.inr (.inl (some 1)), .inl (I 0 (x4 + 1)), .inl (I 0 (x4 + 2)), .inr (.inl (some 139)), vU] [] (mI h I)) := by
  refine (Go_aload (h := mI h I) (y := 315) (ip := 1358) (a := 0) (b := 1) (c := 0) (by decide +kernel) rfl).trans ?_
  refine (Go_aload (h := mI h I) (y := 315) (ip := 1359) (a := 0) (b := 0) (c := 0) (by decide +kernel) rfl).trans ?_
  refine (Go_iload (h := mI h I) (y := 315) (ip := 1360) (a := 0) (b := 4) (c := 0) (by decide +kernel) rfl).trans ?_
  refine (Go_const (h := mI h I) (y := 315) (ip := 1361) (a := 1) (b := 0) (c := 0) (by decide +kernel)).trans ?_
  refine (Go_ar (op := 4) (x := x4 + 1) (h := mI h I) (y := 315) (ip := 1362) (a := 0) (b := 0) (c := 0) (by decide +kernel) rfl (zar4 p0)).trans ?_
  refine (Go_ald (h := mI h I) (y := 315) (ip := 1363) (a := 0) (b := 0) (c := 0) (by decide +kernel) rfl (p1) rfl p2).trans ?_
  refine (Go_aload (h := mI h I) (y := 315) (ip := 1364) (a := 0) (b := 0) (c := 0) (by decide +kernel) rfl).trans ?_
  refine (Go_iload (h := mI h I) (y := 315) (ip := 1365) (a := 0) (b := 4) (c := 0) (by decide +kernel) rfl).trans ?_
  refine (Go_const (h := mI h I) (y := 315) (ip := 1366) (a := 2) (b := 0) (c := 0) (by decide +kernel)).trans ?_
  refine (Go_ar (op := 4) (x := x4 + 2) (h := mI h I) (y := 315) (ip := 1367) (a := 0) (b := 0) (c := 0) (by decide +kernel) rfl (zar4 p3)).trans ?_
  refine (Go_ald (h := mI h I) (y := 315) (ip := 1368) (a := 0) (b := 0) (c := 0) (by decide +kernel) rfl (p1) rfl p4).trans ?_
  refine (Go_aload (h := mI h I) (y := 315) (ip := 1369) (a := 0) (b := 3) (c := 0) (by decide +kernel) rfl).trans ?_
  refine (Go_call2 (h := mI h I) (y := 315) (ip := 1370) (a := 339) (z := 305) (c := 1) (as := [.inr (.inl (some 1)), .inl (I 0 (x4 + 1)), .inl (I 0 (x4 + 2)), .inr (.inl (some 139))]) (rest := []) (by decide +kernel) (by decide +kernel) rfl rfl rfl rfl).trans ?_
  rfl

theorem b315_1371 {h : HP} {I : Nat → Int → Int} {x4 : Int} {v5 : MV} {v6 : MV} {sx0 : Int} {L : Int} (p0 : -2147483648 ≤ x4 + 1 ∧ x4 + 1 < 2147483648) (p1 : hK h 0 = (6, L)) (p2 : 0 ≤ x4 + 1 ∧ x4 + 1 < L) (p3 : -2147483648 ≤ x4 + 2 ∧ x4 + 2 < 2147483648) (p4 : 0 ≤ x4 + 2 ∧ x4 + 2 < L) (p5 : LX 11 h 94) : Go 315 1371 [.inr (.inl (some 0)), .inr (.inl (some 1)), .inr (.inl (some 94)), .inr (.inl (some 139)), .inl x4, v5, v6] [.inl sx0] (mI h I) = caln 315 [.inr (.inl (some 0)), .inr (.inl (some 1)), .inr (.inl (some 94)), .inr (.inl (some 139)), .inl x4, .inl sx0, v6] [] 1384 (Go 253 0 [.inr (.inl (some 94)), .inl (I 0 (x4 + 1)), .inl (I 0 (x4 + 2)), vU, vU, vU, vU, vU] [] (mI h I)) := by
  refine (Go_istore (h := mI h I) (y := 315) (ip := 1371) (a := 0) (b := 5) (c := 0) (by decide +kernel) rfl).trans ?_
  refine (Go_aload (h := mI h I) (y := 315) (ip := 1372) (a := 0) (b := 2) (c := 0) (by decide +kernel) rfl).trans ?_
  refine (Go_aload (h := mI h I) (y := 315) (ip := 1373) (a := 0) (b := 0) (c := 0) (by decide +kernel) rfl).trans ?_
  refine (Go_iload (h := mI h I) (y := 315) (ip := 1374) (a := 0) (b := 4) (c := 0) (by decide +kernel) rfl).trans ?_
  refine (Go_const (h := mI h I) (y := 315) (ip := 1375) (a := 1) (b := 0) (c := 0) (by decide +kernel)).trans ?_
  refine (Go_ar (op := 4) (x := x4 + 1) (h := mI h I) (y := 315) (ip := 1376) (a := 0) (b := 0) (c := 0) (by decide +kernel) rfl (zar4 p0)).trans ?_
  refine (Go_ald (h := mI h I) (y := 315) (ip := 1377) (a := 0) (b := 0) (c := 0) (by decide +kernel) rfl (p1) rfl p2).trans ?_
  refine (Go_aload (h := mI h I) (y := 315) (ip := 1378) (a := 0) (b := 0) (c := 0) (by decide +kernel) rfl).trans ?_
  refine (Go_iload (h := mI h I) (y := 315) (ip := 1379) (a := 0) (b := 4) (c := 0) (by decide +kernel) rfl).trans ?_
  refine (Go_const (h := mI h I) (y := 315) (ip := 1380) (a := 2) (b := 0) (c := 0) (by decide +kernel)).trans ?_
  refine (Go_ar (op := 4) (x := x4 + 2) (h := mI h I) (y := 315) (ip := 1381) (a := 0) (b := 0) (c := 0) (by decide +kernel) rfl (zar4 p3)).trans ?_
  refine (Go_ald (h := mI h I) (y := 315) (ip := 1382) (a := 0) (b := 0) (c := 0) (by decide +kernel) rfl (p1) rfl p4).trans ?_
  refine (Go_call2 (h := mI h I) (y := 315) (ip := 1383) (a := 340) (z := 253) (c := 0) (as := [.inr (.inl (some 94)), .inl (I 0 (x4 + 1)), .inl (I 0 (x4 + 2))]) (rest := []) (by decide +kernel) (by decide +kernel) rfl rfl (zrecv_v rfl (LX_t p5)) rfl).trans ?_
  rfl

theorem b315_1384 {h : HP} {I : Nat → Int → Int} {x4 : Int} {x5 : Int} {v6 : MV} {sx0 : Int} (p0 : LX 11 h 94) : Go 315 1384 [.inr (.inl (some 0)), .inr (.inl (some 1)), .inr (.inl (some 94)), .inr (.inl (some 139)), .inl x4, .inl x5, v6] [.inl sx0] (mI h I) = caln 315 [.inr (.inl (some 0)), .inr (.inl (some 1)), .inr (.inl (some 94)), .inr (.inl (some 139)), .inl x4, .inl x5, .inl sx0] [] 1387 (Go 162 0 [.inr (.inl (some 94))] [] (mI h I)) := by
  refine (Go_istore (h := mI h I) (y := 315) (ip := 1384) (a := 0) (b := 6) (c := 0) (by decide +kernel) rfl).trans ?_
  refine (Go_aload (h := mI h I) (y := 315) (ip := 1385) (a := 0) (b := 2) (c := 0) (by decide +kernel) rfl).trans ?_
  refine (Go_call2 (h := mI h I) (y := 315) (ip := 1386) (a := 276) (z := 162) (c := 0) (as := [.inr (.inl (some 94))]) (rest := []) (by decide +kernel) (by decide +kernel) rfl rfl (zrecv_v rfl (LX_t p0)) rfl).trans ?_
  rfl

theorem b315_1387 {h : HP} {I : Nat → Int → Int} {x4 : Int} {x5 : Int} {x6 : Int} {sx0 : Int} : Go 315 1387 [.inr (.inl (some 0)), .inr (.inl (some 1)), .inr (.inl (some 94)), .inr (.inl (some 139)), .inl x4, .inl x5, .inl x6] [.inl sx0] (mI h I) = if sx0 = x5 then Go 315 1391 [.inr (.inl (some 0)), .inr (.inl (some 1)), .inr (.inl (some 94)), .inr (.inl (some 139)), .inl x4, .inl x5, .inl x6] [] (mI h I) else Go 315 1389 [.inr (.inl (some 0)), .inr (.inl (some 1)), .inr (.inl (some 94)), .inr (.inl (some 139)), .inl x4, .inl x5, .inl x6] [] (mI h I) := by
  refine (Go_iload (h := mI h I) (y := 315) (ip := 1387) (a := 0) (b := 5) (c := 0) (by decide +kernel) rfl).trans ?_
  refine (Go_cmpeq (y := 315) (ip := 1388) (a := 0) (c := 1391) (by decide +kernel)).trans ?_
  rfl

theorem b315_1389 {h : HP} {I : Nat → Int → Int} {x4 : Int} {x5 : Int} {x6 : Int} : Go 315 1389 [.inr (.inl (some 0)), .inr (.inl (some 1)), .inr (.inl (some 94)), .inr (.inl (some 139)), .inl x4, .inl x5, .inl x6] [] (mI h I) = some (mI h I, .inl (some (.inl 0))) := by
  refine (Go_const (h := mI h I) (y := 315) (ip := 1389) (a := 0) (b := 0) (c := 0) (by decide +kernel)).trans ?_
  refine (Go_iret (h := mI h I) (y := 315) (ip := 1390) (a := 0) (b := 0) (c := 0) (by decide +kernel) (Or.inr ⟨rfl, by decide⟩)).trans ?_
  rfl

theorem b315_1391 {h : HP} {I : Nat → Int → Int} {x4 : Int} {x5 : Int} {x6 : Int} : Go 315 1391 [.inr (.inl (some 0)), .inr (.inl (some 1)), .inr (.inl (some 94)), .inr (.inl (some 139)), .inl x4, .inl x5, .inl x6] [] (mI h I) = if x5 ≠ 0 then Go 315 1402 [.inr (.inl (some 0)), .inr (.inl (some 1)), .inr (.inl (some 94)), .inr (.inl (some 139)), .inl x4, .inl x5, .inl x6] [] (mI h I) else Go 315 1393 [.inr (.inl (some 0)), .inr (.inl (some 1)), .inr (.inl (some 94)), .inr (.inl (some 139)), .inl x4, .inl x5, .inl x6] [] (mI h I) := by
  refine (Go_iload (h := mI h I) (y := 315) (ip := 1391) (a := 0) (b := 5) (c := 0) (by decide +kernel) rfl).trans ?_
  refine (Go_ifne (y := 315) (ip := 1392) (a := 0) (c := 1402) (by decide +kernel)).trans ?_
  rfl

theorem b315_1393 {h : HP} {I : Nat → Int → Int} {x4 : Int} {x5 : Int} {x6 : Int} (p0 : hK h 139 = (2, 1)) : Go 315 1393 [.inr (.inl (some 0)), .inr (.inl (some 1)), .inr (.inl (some 94)), .inr (.inl (some 139)), .inl x4, .inl x5, .inl x6] [] (mI h I) = if (if I 139 0 < x6 then -1 else if I 139 0 = x6 then 0 else 1 : Int) = 0 then Go 315 1402 [.inr (.inl (some 0)), .inr (.inl (some 1)), .inr (.inl (some 94)), .inr (.inl (some 139)), .inl x4, .inl x5, .inl x6] [] (mI h I) else Go 315 1400 [.inr (.inl (some 0)), .inr (.inl (some 1)), .inr (.inl (some 94)), .inr (.inl (some 139)), .inl x4, .inl x5, .inl x6] [] (mI h I) := by
  refine (Go_aload (h := mI h I) (y := 315) (ip := 1393) (a := 0) (b := 3) (c := 0) (by decide +kernel) rfl).trans ?_
  refine (Go_const (h := mI h I) (y := 315) (ip := 1394) (a := 0) (b := 0) (c := 0) (by decide +kernel)).trans ?_
  refine (Go_ldl (h := mI h I) (y := 315) (ip := 1395) (a := 0) (c := 0) (by decide +kernel) (p0) (by decide)).trans ?_
  refine (Go_iload (h := mI h I) (y := 315) (ip := 1396) (a := 0) (b := 6) (c := 0) (by decide +kernel) rfl).trans ?_
  refine (Go_i2l (h := mI h I) (y := 315) (ip := 1397) (a := 0) (b := 0) (c := 0) (by decide +kernel)).trans ?_
  refine (Go_lcmp (h := mI h I) (y := 315) (ip := 1398) (a := 0) (b := 0) (c := 0) (by decide +kernel)).trans ?_
  refine (Go_ifeq (y := 315) (ip := 1399) (a := 0) (c := 1402) (by decide +kernel)).trans ?_
  rfl

theorem b315_1400 {h : HP} {I : Nat → Int → Int} {x4 : Int} {x5 : Int} {x6 : Int} : Go 315 1400 [.inr (.inl (some 0)), .inr (.inl (some 1)), .inr (.inl (some 94)), .inr (.inl (some 139)), .inl x4, .inl x5, .inl x6] [] (mI h I) = some (mI h I, .inl (some (.inl 0))) := by
  refine (Go_const (h := mI h I) (y := 315) (ip := 1400) (a := 0) (b := 0) (c := 0) (by decide +kernel)).trans ?_
  refine (Go_iret (h := mI h I) (y := 315) (ip := 1401) (a := 0) (b := 0) (c := 0) (by decide +kernel) (Or.inr ⟨rfl, by decide⟩)).trans ?_
  rfl

theorem b315_1402 {h : HP} {I : Nat → Int → Int} {x4 : Int} {x5 : Int} {x6 : Int} : Go 315 1402 [.inr (.inl (some 0)), .inr (.inl (some 1)), .inr (.inl (some 94)), .inr (.inl (some 139)), .inl x4, .inl x5, .inl x6] [] (mI h I) = Go 315 1826 [.inr (.inl (some 0)), .inr (.inl (some 1)), .inr (.inl (some 94)), .inr (.inl (some 139)), .inl x4, .inl x5, .inl x6] [] (mI h I) := by
  refine (Go_goto (h := mI h I) (y := 315) (ip := 1402) (a := 0) (b := 0) (c := 1826) (by decide +kernel)).trans ?_
  rfl

theorem b315_1403 {h : HP} {I : Nat → Int → Int} {x4 : Int} {v5 : MV} {v6 : MV} {L : Int} (p0 : -2147483648 ≤ x4 + 1 ∧ x4 + 1 < 2147483648) (p1 : hK h 0 = (6, L)) (p2 : 0 ≤ x4 + 1 ∧ x4 + 1 < L) (p3 : -2147483648 ≤ x4 + 2 ∧ x4 + 2 < 2147483648) (p4 : 0 ≤ x4 + 2 ∧ x4 + 2 < L) (p5 : -2147483648 ≤ x4 + 3 ∧ x4 + 3 < 2147483648) (p6 : 0 ≤ x4 + 3 ∧ x4 + 3 < L) : Go 315 1403 [.inr (.inl (some 0)), .inr (.inl (some 1)), .inr (.inl (some 94)), .inr (.inl (some 139)), .inl x4, v5, v6] [] (mI h I) = caln 315 [.inr (.inl (some 0)), .inr (.inl (some 1)), .inr (.inl (some 94)), .inr (.inl (some 139)), .inl x4, v5, v6] [] 1421 (Go 306 0 [.inr (.inl (some 1)), .inl (I 0 (x4 + 1)), .inl (I 0 (x4 + 2)), .inl (I 0 (x4 + 3)), .inr (.inl (some 139)), vU] [] (mI h I)) := by
  refine (Go_aload (h := mI h I) (y := 315) (ip := 1403) (a := 0) (b := 1) (c := 0) (by decide +kernel) rfl).trans ?_
  refine (Go_aload (h := mI h I) (y := 315) (ip := 1404) (a := 0) (b := 0) (c := 0) (by decide +kernel) rfl).trans ?_
  refine (Go_iload (h := mI h I) (y := 315) (ip := 1405) (a := 0) (b := 4) (c := 0) (by decide +kernel) rfl).trans ?_
  refine (Go_const (h := mI h I) (y := 315) (ip := 1406) (a := 1) (b := 0) (c := 0) (by decide +kernel)).trans ?_
  refine (Go_ar (op := 4) (x := x4 + 1) (h := mI h I) (y := 315) (ip := 1407) (a := 0) (b := 0) (c := 0) (by decide +kernel) rfl (zar4 p0)).trans ?_
  refine (Go_ald (h := mI h I) (y := 315) (ip := 1408) (a := 0) (b := 0) (c := 0) (by decide +kernel) rfl (p1) rfl p2).trans ?_
  refine (Go_aload (h := mI h I) (y := 315) (ip := 1409) (a := 0) (b := 0) (c := 0) (by decide +kernel) rfl).trans ?_
  refine (Go_iload (h := mI h I) (y := 315) (ip := 1410) (a := 0) (b := 4) (c := 0) (by decide +kernel) rfl).trans ?_
  refine (Go_const (h := mI h I) (y := 315) (ip := 1411) (a := 2) (b := 0) (c := 0) (by decide +kernel)).trans ?_
  refine (Go_ar (op := 4) (x := x4 + 2) (h := mI h I) (y := 315) (ip := 1412) (a := 0) (b := 0) (c := 0) (by decide +kernel) rfl (zar4 p3)).trans ?_
  refine (Go_ald (h := mI h I) (y := 315) (ip := 1413) (a := 0) (b := 0) (c := 0) (by decide +kernel) rfl (p1) rfl p4).trans ?_
  refine (Go_aload (h := mI h I) (y := 315) (ip := 1414) (a := 0) (b := 0) (c := 0) (by decide +kernel) rfl).trans ?_
  refine (Go_iload (h := mI h I) (y := 315) (ip := 1415) (a := 0) (b := 4) (c := 0) (by decide +kernel) rfl).trans ?_
  refine (Go_const (h := mI h I) (y := 315) (ip := 1416) (a := 3) (b := 0) (c := 0) (by decide +kernel)).trans ?_
  refine (Go_ar (op := 4) (x := x4 + 3) (h := mI h I) (y := 315) (ip := 1417) (a := 0) (b := 0) (c := 0) (by decide +kernel) rfl (zar4 p5)).trans ?_
  refine (Go_ald (h := mI h I) (y := 315) (ip := 1418) (a := 0) (b := 0) (c := 0) (by decide +kernel) rfl (p1) rfl p6).trans ?_
  refine (Go_aload (h := mI h I) (y := 315) (ip := 1419) (a := 0) (b := 3) (c := 0) (by decide +kernel) rfl).trans ?_
  refine (Go_call2 (h := mI h I) (y := 315) (ip := 1420) (a := 341) (z := 306) (c := 1) (as := [.inr (.inl (some 1)), .inl (I 0 (x4 + 1)), .inl (I 0 (x4 + 2)), .inl (I 0 (x4 + 3)), .inr (.inl (some 139))]) (rest := []) (by decide +kernel) (by decide +kernel) rfl rfl rfl rfl).trans ?_
  rfl

theorem b315_1421 {h : HP} {I : Nat → Int → Int} {x4 : Int} {v5 : MV} {v6 : MV} {sx0 : Int} {L : Int} (p0 : -2147483648 ≤ x4 + 1 ∧ x4 + 1 < 2147483648) (p1 : hK h 0 = (6, L)) (p2 : 0 ≤ x4 + 1 ∧ x4 + 1 < L) (p3 : -2147483648 ≤ x4 + 2 ∧ x4 + 2 < 2147483648) (p4 : 0 ≤ x4 + 2 ∧ x4 + 2 < L) (p5 : -2147483648 ≤ x4 + 3 ∧ x4 + 3 < 2147483648) (p6 : 0 ≤ x4 + 3 ∧ x4 + 3 < L) (p7 : LX 11 h 94) : Go 315 1421 [.inr (.inl (some 0)), .inr (.inl (some 1)), .inr (.inl (some 94)), .inr (.inl (some 139)), .inl x4, v5, v6] [.inl sx0] (mI h I) = caln 315 [.inr (.inl (some 0)), .inr (.inl (some 1)), .inr (.inl (some 94)), .inr (.inl (some 139)), .inl x4, .inl sx0, v6] [] 1439 (Go 254 0 [.inr (.inl (some 94)), .inl (I 0 (x4 + 1)), .inl (I 0 (x4 + 2)), .inl (I 0 (x4 + 3)), vU, vU] [] (mI h I)) := by
  refine (Go_istore (h := mI h I) (y := 315) (ip := 1421) (a := 0) (b := 5) (c := 0) (by decide +kernel) rfl).trans ?_
  refine (Go_aload (h := mI h I) (y := 315) (ip := 1422) (a := 0) (b := 2) (c := 0) (by decide +kernel) rfl).trans ?_
  refine (Go_aload (h := mI h I) (y := 315) (ip := 1423) (a := 0) (b := 0) (c := 0) (by decide +kernel) rfl).trans ?_
  refine (Go_iload (h := mI h I) (y := 315) (ip := 1424) (a := 0) (b := 4) (c := 0) (by decide +kernel) rfl).trans ?_
  refine (Go_const (h := mI h I) (y := 315) (ip := 1425) (a := 1) (b := 0) (c := 0) (by decide +kernel)).trans ?_
  refine (Go_ar (op := 4) (x := x4 + 1) (h := mI h I) (y := 315) (ip := 1426) (a := 0) (b := 0) (c := 0) (by decide +kernel) rfl (zar4 p0)).trans ?_
  refine (Go_ald (h := mI h I) (y := 315) (ip := 1427) (a := 0) (b := 0) (c := 0) (by decide +kernel) rfl (p1) rfl p2).trans ?_
  refine (Go_aload (h := mI h I) (y := 315) (ip := 1428) (a := 0) (b := 0) (c := 0) (by decide +kernel) rfl).trans ?_
  refine (Go_iload (h := mI h I) (y := 315) (ip := 1429) (a := 0) (b := 4) (c := 0) (by decide +kernel) rfl).trans ?_
  refine (Go_const (h := mI h I) (y := 315) (ip := 1430) (a := 2) (b := 0) (c := 0) (by decide +kernel)).trans ?_
  refine (Go_ar (op := 4) (x := x4 + 2) (h := mI h I) (y := 315) (ip := 1431) (a := 0) (b := 0) (c := 0) (by decide +kernel) rfl (zar4 p3)).trans ?_
  refine (Go_ald (h := mI h I) (y := 315) (ip := 1432) (a := 0) (b := 0) (c := 0) (by decide +kernel) rfl (p1) rfl p4).trans ?_
  refine (Go_aload (h := mI h I) (y := 315) (ip := 1433) (a := 0) (b := 0) (c := 0) (by decide +kernel) rfl).trans ?_
  refine (Go_iload (h := mI h I) (y := 315) (ip := 1434) (a := 0) (b := 4) (c := 0) (by decide +kernel) rfl).trans ?_
  refine (Go_const (h := mI h I) (y := 315) (ip := 1435) (a := 3) (b := 0) (c := 0) (by decide +kernel)).trans ?_
  refine (Go_ar (op := 4) (x := x4 + 3) (h := mI h I) (y := 315) (ip := 1436) (a := 0) (b := 0) (c := 0) (by decide +kernel) rfl (zar4 p5)).trans ?_
  refine (Go_ald (h := mI h I) (y := 315) (ip := 1437) (a := 0) (b := 0) (c := 0) (by decide +kernel) rfl (p1) rfl p6).trans ?_
  refine (Go_call2 (h := mI h I) (y := 315) (ip := 1438) (a := 342) (z := 254) (c := 0) (as := [.inr (.inl (some 94)), .inl (I 0 (x4 + 1)), .inl (I 0 (x4 + 2)), .inl (I 0 (x4 + 3))]) (rest := []) (by decide +kernel) (by decide +kernel) rfl rfl (zrecv_v rfl (LX_t p7)) rfl).trans ?_
  rfl

theorem b315_1439 {h : HP} {I : Nat → Int → Int} {x4 : Int} {x5 : Int} {v6 : MV} {sx0 : Int} (p0 : LX 11 h 94) : Go 315 1439 [.inr (.inl (some 0)), .inr (.inl (some 1)), .inr (.inl (some 94)), .inr (.inl (some 139)), .inl x4, .inl x5, v6] [.inl sx0] (mI h I) = caln 315 [.inr (.inl (some 0)), .inr (.inl (some 1)), .inr (.inl (some 94)), .inr (.inl (some 139)), .inl x4, .inl x5, .inl sx0] [] 1442 (Go 162 0 [.inr (.inl (some 94))] [] (mI h I)) := by
  refine (Go_istore (h := mI h I) (y := 315) (ip := 1439) (a := 0) (b := 6) (c := 0) (by decide +kernel) rfl).trans ?_
  refine (Go_aload (h := mI h I) (y := 315) (ip := 1440) (a := 0) (b := 2) (c := 0) (by decide +kernel) rfl).trans ?_
  refine (Go_call2 (h := mI h I) (y := 315) (ip := 1441) (a := 276) (z := 162) (c := 0) (as := [.inr (.inl (some 94))]) (rest := []) (by decide +kernel) (by decide +kernel) rfl rfl (zrecv_v rfl (LX_t p0)) rfl).trans ?_
  rfl

theorem b315_1442 {h : HP} {I : Nat → Int → Int} {x4 : Int} {x5 : Int} {x6 : Int} {sx0 : Int} : Go 315 1442 [.inr (.inl (some 0)), .inr (.inl (some 1)), .inr (.inl (some 94)), .inr (.inl (some 139)), .inl x4, .inl x5, .inl x6] [.inl sx0] (mI h I) = if sx0 = x5 then Go 315 1446 [.inr (.inl (some 0)), .inr (.inl (some 1)), .inr (.inl (some 94)), .inr (.inl (some 139)), .inl x4, .inl x5, .inl x6] [] (mI h I) else Go 315 1444 [.inr (.inl (some 0)), .inr (.inl (some 1)), .inr (.inl (some 94)), .inr (.inl (some 139)), .inl x4, .inl x5, .inl x6] [] (mI h I) := by
  refine (Go_iload (h := mI h I) (y := 315) (ip := 1442) (a := 0) (b := 5) (c := 0) (by decide +kernel) rfl).trans ?_
  refine (Go_cmpeq (y := 315) (ip := 1443) (a := 0) (c := 1446) (by decide +kernel)).trans ?_
  rfl

theorem b315_1444 {h : HP} {I : Nat → Int → Int} {x4 : Int} {x5 : Int} {x6 : Int} : Go 315 1444 [.inr (.inl (some 0)), .inr (.inl (some 1)), .inr (.inl (some 94)), .inr (.inl (some 139)), .inl x4, .inl x5, .inl x6] [] (mI h I) = some (mI h I, .inl (some (.inl 0))) := by
  refine (Go_const (h := mI h I) (y := 315) (ip := 1444) (a := 0) (b := 0) (c := 0) (by decide +kernel)).trans ?_
  refine (Go_iret (h := mI h I) (y := 315) (ip := 1445) (a := 0) (b := 0) (c := 0) (by decide +kernel) (Or.inr ⟨rfl, by decide⟩)).trans ?_
  rfl

theorem b315_1446 {h : HP} {I : Nat → Int → Int} {x4 : Int} {x5 : Int} {x6 : Int} : Go 315 1446 [.inr (.inl (some 0)), .inr (.inl (some 1)), .inr (.inl (some 94)), .inr (.inl (some 139)), .inl x4, .inl x5, .inl x6] [] (mI h I) = if x5 ≠ 0 then Go 315 1457 [.inr (.inl (some 0)), .inr (.inl (some 1)), .inr (.inl (some 94)), .inr (.inl (some 139)), .inl x4, .inl x5, .inl x6] [] (mI h I) else Go 315 1448 [.inr (.inl (some 0)), .inr (.inl (some 1)), .inr (.inl (some 94)), .inr (.inl (some 139)), .inl x4, .inl x5, .inl x6] [] (mI h I) := by
  refine (Go_iload (h := mI h I) (y := 315) (ip := 1446) (a := 0) (b := 5) (c := 0) (by decide +kernel) rfl).trans ?_
  refine (Go_ifne (y := 315) (ip := 1447) (a := 0) (c := 1457) (by decide +kernel)).trans ?_
  rfl

theorem b315_1448 {h : HP} {I : Nat → Int → Int} {x4 : Int} {x5 : Int} {x6 : Int} (p0 : hK h 139 = (2, 1)) : Go 315 1448 [.inr (.inl (some 0)), .inr (.inl (some 1)), .inr (.inl (some 94)), .inr (.inl (some 139)), .inl x4, .inl x5, .inl x6] [] (mI h I) = if (if I 139 0 < x6 then -1 else if I 139 0 = x6 then 0 else 1 : Int) = 0 then Go 315 1457 [.inr (.inl (some 0)), .inr (.inl (some 1)), .inr (.inl (some 94)), .inr (.inl (some 139)), .inl x4, .inl x5, .inl x6] [] (mI h I) else Go 315 1455 [.inr (.inl (some 0)), .inr (.inl (some 1)), .inr (.inl (some 94)), .inr (.inl (some 139)), .inl x4, .inl x5, .inl x6] [] (mI h I) := by
  refine (Go_aload (h := mI h I) (y := 315) (ip := 1448) (a := 0) (b := 3) (c := 0) (by decide +kernel) rfl).trans ?_
  refine (Go_const (h := mI h I) (y := 315) (ip := 1449) (a := 0) (b := 0) (c := 0) (by decide +kernel)).trans ?_
  refine (Go_ldl (h := mI h I) (y := 315) (ip := 1450) (a := 0) (c := 0) (by decide +kernel) (p0) (by decide)).trans ?_
  refine (Go_iload (h := mI h I) (y := 315) (ip := 1451) (a := 0) (b := 6) (c := 0) (by decide +kernel) rfl).trans ?_
  refine (Go_i2l (h := mI h I) (y := 315) (ip := 1452) (a := 0) (b := 0) (c := 0) (by decide +kernel)).trans ?_
  refine (Go_lcmp (h := mI h I) (y := 315) (ip := 1453) (a := 0) (b := 0) (c := 0) (by decide +kernel)).trans ?_
  refine (Go_ifeq (y := 315) (ip := 1454) (a := 0) (c := 1457) (by decide +kernel)).trans ?_
  rfl

theorem b315_1455 {h : HP} {I : Nat → Int → Int} {x4 : Int} {x5 : Int} {x6 : Int} : Go 315 1455 [.inr (.inl (some 0)), .inr (.inl (some 1)), .inr (.inl (some 94)), .inr (.inl (some 139)), .inl x4, .inl x5, .inl x6] [] (mI h I) = some (mI h I, .inl (some (.inl 0))) := by
  refine (Go_const (h := mI h I) (y := 315) (ip := 1455) (a := 0) (b := 0) (c := 0) (by decide +kernel)).trans ?_
  refine (Go_iret (h := mI h I) (y := 315) (ip := 1456) (a := 0) (b := 0) (c := 0) (by decide +kernel) (Or.inr ⟨rfl, by decide⟩)).trans ?_
  rfl

theorem b315_1457 {h : HP} {I : Nat → Int → Int} {x4 : Int} {x5 : Int} {x6 : Int} : Go 315 1457 [.inr (.inl (some 0)), .inr (.inl (some 1)), .inr (.inl (some 94)), .inr (.inl (some 139)), .inl x4, .inl x5, .inl x6] [] (mI h I) = Go 315 1826 [.inr (.inl (some 0)), .inr (.inl (some 1)), .inr (.inl (some 94)), .inr (.inl (some 139)), .inl x4, .inl x5, .inl x6] [] (mI h I) := by
  refine (Go_goto (h := mI h I) (y := 315) (ip := 1457) (a := 0) (b := 0) (c := 1826) (by decide +kernel)).trans ?_
  rfl

theorem b315_1458 {h : HP} {I : Nat → Int → Int} {x4 : Int} {v5 : MV} {v6 : MV} {L : Int} (p0 : -2147483648 ≤ x4 + 1 ∧ x4 + 1 < 2147483648) (p1 : hK h 0 = (6, L)) (p2 : 0 ≤ x4 + 1 ∧ x4 + 1 < L) (p3 : -2147483648 ≤ x4 + 2 ∧ x4 + 2 < 2147483648) (p4 : 0 ≤ x4 + 2 ∧ x4 + 2 < L) : Go 315 1458 [.inr (.inl (some 0)), .inr (.inl (some 1)), .inr (.inl (some 94)), .inr (.inl (some 139)), .inl x4, v5, v6] [] (mI h I) = caln 315 [.inr (.inl (some 0)), .inr (.inl (some 1)), .inr (.inl (some 94)), .inr (.inl (some 139)), .inl x4, v5, v6] [] 1471 (Go 307 0 [.inr (.inl (some 1)), .inl (I 0 (x4 + 1)), .inl (I 0 (x4 + 2)), .inr (.inl (some 139)), vU] [] (mI h I)) := by
  refine (Go_aload (h := mI h I) (y := 315) (ip := 1458) (a := 0) (b := 1) (c := 0) (by decide +kernel) rfl).trans ?_
  refine (Go_aload (h := mI h I) (y := 315) (ip := 1459) (a := 0) (b := 0) (c := 0) (by decide +kernel) rfl).trans ?_
  refine (Go_iload (h := mI h I) (y := 315) (ip := 1460) (a := 0) (b := 4) (c := 0) (by decide +kernel) rfl).trans ?_
  refine (Go_const (h := mI h I) (y := 315) (ip := 1461) (a := 1) (b := 0) (c := 0) (by decide +kernel)).trans ?_
  refine (Go_ar (op := 4) (x := x4 + 1) (h := mI h I) (y := 315) (ip := 1462) (a := 0) (b := 0) (c := 0) (by decide +kernel) rfl (zar4 p0)).trans ?_
  refine (Go_ald (h := mI h I) (y := 315) (ip := 1463) (a := 0) (b := 0) (c := 0) (by decide +kernel) rfl (p1) rfl p2).trans ?_
  refine (Go_aload (h := mI h I) (y := 315) (ip := 1464) (a := 0) (b := 0) (c := 0) (by decide +kernel) rfl).trans ?_
  refine (Go_iload (h := mI h I) (y := 315) (ip := 1465) (a := 0) (b := 4) (c := 0) (by decide +kernel) rfl).trans ?_
  refine (Go_const (h := mI h I) (y := 315) (ip := 1466) (a := 2) (b := 0) (c := 0) (by decide +kernel)).trans ?_
  refine (Go_ar (op := 4) (x := x4 + 2) (h := mI h I) (y := 315) (ip := 1467) (a := 0) (b := 0) (c := 0) (by decide +kernel) rfl (zar4 p3)).trans ?_
  refine (Go_ald (h := mI h I) (y := 315) (ip := 1468) (a := 0) (b := 0) (c := 0) (by decide +kernel) rfl (p1) rfl p4).trans ?_
  refine (Go_aload (h := mI h I) (y := 315) (ip := 1469) (a := 0) (b := 3) (c := 0) (by decide +kernel) rfl).trans ?_
  refine (Go_call2 (h := mI h I) (y := 315) (ip := 1470) (a := 343) (z := 307) (c := 1) (as := [.inr (.inl (some 1)), .inl (I 0 (x4 + 1)), .inl (I 0 (x4 + 2)), .inr (.inl (some 139))]) (rest := []) (by decide +kernel) (by decide +kernel) rfl rfl rfl rfl).trans ?_
  rfl

theorem b315_1471 {h : HP} {I : Nat → Int → Int} {x4 : Int} {v5 : MV} {v6 : MV} {sx0 : Int} {L : Int} (p0 : -2147483648 ≤ x4 + 1 ∧ x4 + 1 < 2147483648) (p1 : hK h 0 = (6, L)) (p2 : 0 ≤ x4 + 1 ∧ x4 + 1 < L) (p3 : -2147483648 ≤ x4 + 2 ∧ x4 + 2 < 2147483648) (p4 : 0 ≤ x4 + 2 ∧ x4 + 2 < L) (p5 : LX 11 h 94) : Go 315 1471 [.inr (.inl (some 0)), .inr (.inl (some 1)), .inr (.inl (some 94)), .inr (.inl (some 139)), .inl x4, v5, v6] [.inl sx0] (mI h I) = caln 315 [.inr (.inl (some 0)), .inr (.inl (some 1)), .inr (.inl (some 94)), .inr (.inl (some 139)), .inl x4, .inl sx0, v6] [] 1484 (Go 255 0 [.inr (.inl (some 94)), .inl (I 0 (x4 + 1)), .inl (I 0 (x4 + 2)), vU] [] (mI h I)) := by
  refine (Go_istore (h := mI h I) (y := 315) (ip := 1471) (a := 0) (b := 5) (c := 0) (by decide +kernel) rfl).trans ?_
  refine (Go_aload (h := mI h I) (y := 315) (ip := 1472) (a := 0) (b := 2) (c := 0) (by decide +kernel) rfl).trans ?_
  refine (Go_aload (h := mI h I) (y := 315) (ip := 1473) (a := 0) (b := 0) (c := 0) (by decide +kernel) rfl).trans ?_
  refine (Go_iload (h := mI h I) (y := 315) (ip := 1474) (a := 0) (b := 4) (c := 0) (by decide +kernel) rfl).trans ?_
  refine (Go_const (h := mI h I) (y := 315) (ip := 1475) (a := 1) (b := 0) (c := 0) (by decide +kernel)).trans ?_
  refine (Go_ar (op := 4) (x := x4 + 1) (h := mI h I) (y := 315) (ip := 1476) (a := 0) (b := 0) (c := 0) (by decide +kernel) rfl (zar4 p0)).trans ?_
  refine (Go_ald (h := mI h I) (y := 315) (ip := 1477) (a := 0) (b := 0) (c := 0) (by decide +kernel) rfl (p1) rfl p2).trans ?_
  refine (Go_aload (h := mI h I) (y := 315) (ip := 1478) (a := 0) (b := 0) (c := 0) (by decide +kernel) rfl).trans ?_
  refine (Go_iload (h := mI h I) (y := 315) (ip := 1479) (a := 0) (b := 4) (c := 0) (by decide +kernel) rfl).trans ?_
  refine (Go_const (h := mI h I) (y := 315) (ip := 1480) (a := 2) (b := 0) (c := 0) (by decide +kernel)).trans ?_
  refine (Go_ar (op := 4) (x := x4 + 2) (h := mI h I) (y := 315) (ip := 1481) (a := 0) (b := 0) (c := 0) (by decide +kernel) rfl (zar4 p3)).trans ?_
  refine (Go_ald (h := mI h I) (y := 315) (ip := 1482) (a := 0) (b := 0) (c := 0) (by decide +kernel) rfl (p1) rfl p4).trans ?_
  refine (Go_call2 (h := mI h I) (y := 315) (ip := 1483) (a := 344) (z := 255) (c := 0) (as := [.inr (.inl (some 94)), .inl (I 0 (x4 + 1)), .inl (I 0 (x4 + 2))]) (rest := []) (by decide +kernel) (by decide +kernel) rfl rfl (zrecv_v rfl (LX_t p5)) rfl).trans ?_
  rfl

theorem b315_1484 {h : HP} {I : Nat → Int → Int} {x4 : Int} {x5 : Int} {v6 : MV} {sx0 : Int} (p0 : LX 11 h 94) : Go 315 1484 [.inr (.inl (some 0)), .inr (.inl (some 1)), .inr (.inl (some 94)), .inr (.inl (some 139)), .inl x4, .inl x5, v6] [.inl sx0] (mI h I) = caln 315 [.inr (.inl (some 0)), .inr (.inl (some 1)), .inr (.inl (some 94)), .inr (.inl (some 139)), .inl x4, .inl x5, .inl sx0] [] 1487 (Go 162 0 [.inr (.inl (some 94))] [] (mI h I)) := by
  refine (Go_istore (h := mI h I) (y := 315) (ip := 1484) (a := 0) (b := 6) (c := 0) (by decide +kernel) rfl).trans ?_
  refine (Go_aload (h := mI h I) (y := 315) (ip := 1485) (a := 0) (b := 2) (c := 0) (by decide +kernel) rfl).trans ?_
  refine (Go_call2 (h := mI h I) (y := 315) (ip := 1486) (a := 276) (z := 162) (c := 0) (as := [.inr (.inl (some 94))]) (rest := []) (by decide +kernel) (by decide +kernel) rfl rfl (zrecv_v rfl (LX_t p0)) rfl).trans ?_
  rfl

theorem b315_1487 {h : HP} {I : Nat → Int → Int} {x4 : Int} {x5 : Int} {x6 : Int} {sx0 : Int} : Go 315 1487 [.inr (.inl (some 0)), .inr (.inl (some 1)), .inr (.inl (some 94)), .inr (.inl (some 139)), .inl x4, .inl x5, .inl x6] [.inl sx0] (mI h I) = if sx0 = x5 then Go 315 1491 [.inr (.inl (some 0)), .inr (.inl (some 1)), .inr (.inl (some 94)), .inr (.inl (some 139)), .inl x4, .inl x5, .inl x6] [] (mI h I) else Go 315 1489 [.inr (.inl (some 0)), .inr (.inl (some 1)), .inr (.inl (some 94)), .inr (.inl (some 139)), .inl x4, .inl x5, .inl x6] [] (mI h I) := by
  refine (Go_iload (h := mI h I) (y := 315) (ip := 1487) (a := 0) (b := 5) (c := 0) (by decide +kernel) rfl).trans ?_
  refine (Go_cmpeq (y := 315) (ip := 1488) (a := 0) (c := 1491) (by decide +kernel)).trans ?_
  rfl

theorem b315_1489 {h : HP} {I : Nat → Int → Int} {x4 : Int} {x5 : Int} {x6 : Int} : Go 315 1489 [.inr (.inl (some 0)), .inr (.inl (some 1)), .inr (.inl (some 94)), .inr (.inl (some 139)), .inl x4, .inl x5, .inl x6] [] (mI h I) = some (mI h I, .inl (some (.inl 0))) := by
  refine (Go_const (h := mI h I) (y := 315) (ip := 1489) (a := 0) (b := 0) (c := 0) (by decide +kernel)).trans ?_
  refine (Go_iret (h := mI h I) (y := 315) (ip := 1490) (a := 0) (b := 0) (c := 0) (by decide +kernel) (Or.inr ⟨rfl, by decide⟩)).trans ?_
  rfl

theorem b315_1491 {h : HP} {I : Nat → Int → Int} {x4 : Int} {x5 : Int} {x6 : Int} : Go 315 1491 [.inr (.inl (some 0)), .inr (.inl (some 1)), .inr (.inl (some 94)), .inr (.inl (some 139)), .inl x4, .inl x5, .inl x6] [] (mI h I) = if x5 ≠ 0 then Go 315 1505 [.inr (.inl (some 0)), .inr (.inl (some 1)), .inr (.inl (some 94)), .inr (.inl (some 139)), .inl x4, .inl x5, .inl x6] [] (mI h I) else Go 315 1493 [.inr (.inl (some 0)), .inr (.inl (some 1)), .inr (.inl (some 94)), .inr (.inl (some 139)), .inl x4, .inl x5, .inl x6] [] (mI h I) := by
  refine (Go_iload (h := mI h I) (y := 315) (ip := 1491) (a := 0) (b := 5) (c := 0) (by decide +kernel) rfl).trans ?_
  refine (Go_ifne (y := 315) (ip := 1492) (a := 0) (c := 1505) (by decide +kernel)).trans ?_
  rfl

theorem b315_1493 {h : HP} {I : Nat → Int → Int} {x4 : Int} {x5 : Int} {x6 : Int} (p0 : hK h 139 = (2, 1)) : Go 315 1493 [.inr (.inl (some 0)), .inr (.inl (some 1)), .inr (.inl (some 94)), .inr (.inl (some 139)), .inl x4, .inl x5, .inl x6] [] (mI h I) = if x6 = 0 then Go 315 1500 [.inr (.inl (some 0)), .inr (.inl (some 1)), .inr (.inl (some 94)), .inr (.inl (some 139)), .inl x4, .inl x5, .inl x6] [.inr (.inr (I 139 0))] (mI h I) else Go 315 1498 [.inr (.inl (some 0)), .inr (.inl (some 1)), .inr (.inl (some 94)), .inr (.inl (some 139)), .inl x4, .inl x5, .inl x6] [.inr (.inr (I 139 0))] (mI h I) := by
  refine (Go_aload (h := mI h I) (y := 315) (ip := 1493) (a := 0) (b := 3) (c := 0) (by decide +kernel) rfl).trans ?_
  refine (Go_const (h := mI h I) (y := 315) (ip := 1494) (a := 0) (b := 0) (c := 0) (by decide +kernel)).trans ?_
  refine (Go_ldl (h := mI h I) (y := 315) (ip := 1495) (a := 0) (c := 0) (by decide +kernel) (p0) (by decide)).trans ?_
  refine (Go_iload (h := mI h I) (y := 315) (ip := 1496) (a := 0) (b := 6) (c := 0) (by decide +kernel) rfl).trans ?_
  refine (Go_ifeq (y := 315) (ip := 1497) (a := 0) (c := 1500) (by decide +kernel)).trans ?_
  rfl

theorem b315_1498 {h : HP} {I : Nat → Int → Int} {x4 : Int} {x5 : Int} {x6 : Int} {sw0 : Int} : Go 315 1498 [.inr (.inl (some 0)), .inr (.inl (some 1)), .inr (.inl (some 94)), .inr (.inl (some 139)), .inl x4, .inl x5, .inl x6] [.inr (.inr sw0)] (mI h I) = Go 315 1501 [.inr (.inl (some 0)), .inr (.inl (some 1)), .inr (.inl (some 94)), .inr (.inl (some 139)), .inl x4, .inl x5, .inl x6] [.inr (.inr 1), .inr (.inr sw0)] (mI h I) := by
  refine (Go_lconst (h := mI h I) (y := 315) (ip := 1498) (a := 1) (b := 0) (c := 0) (by decide +kernel)).trans ?_
  refine (Go_goto (h := mI h I) (y := 315) (ip := 1499) (a := 0) (b := 0) (c := 1501) (by decide +kernel)).trans ?_
  rfl

theorem b315_1500 {h : HP} {I : Nat → Int → Int} {x4 : Int} {x5 : Int} {x6 : Int} {sw0 : Int} : Go 315 1500 [.inr (.inl (some 0)), .inr (.inl (some 1)), .inr (.inl (some 94)), .inr (.inl (some 139)), .inl x4, .inl x5, .inl x6] [.inr (.inr sw0)] (mI h I) = Go 315 1501 [.inr (.inl (some 0)), .inr (.inl (some 1)), .inr (.inl (some 94)), .inr (.inl (some 139)), .inl x4, .inl x5, .inl x6] [.inr (.inr 0), .inr (.inr sw0)] (mI h I) := by
  refine (Go_lconst (h := mI h I) (y := 315) (ip := 1500) (a := 0) (b := 0) (c := 0) (by decide +kernel)).trans ?_
  rfl

theorem b315_1501 {h : HP} {I : Nat → Int → Int} {x4 : Int} {x5 : Int} {x6 : Int} {sw0 : Int} {sw1 : Int} : Go 315 1501 [.inr (.inl (some 0)), .inr (.inl (some 1)), .inr (.inl (some 94)), .inr (.inl (some 139)), .inl x4, .inl x5, .inl x6] [.inr (.inr sw1), .inr (.inr sw0)] (mI h I) = if (if sw0 < sw1 then -1 else if sw0 = sw1 then 0 else 1 : Int) = 0 then Go 315 1505 [.inr (.inl (some 0)), .inr (.inl (some 1)), .inr (.inl (some 94)), .inr (.inl (some 139)), .inl x4, .inl x5, .inl x6] [] (mI h I) else Go 315 1503 [.inr (.inl (some 0)), .inr (.inl (some 1)), .inr (.inl (some 94)), .inr (.inl (some 139)), .inl x4, .inl x5, .inl x6] [] (mI h I) := by
  refine (Go_lcmp (h := mI h I) (y := 315) (ip := 1501) (a := 0) (b := 0) (c := 0) (by decide +kernel)).trans ?_
  refine (Go_ifeq (y := 315) (ip := 1502) (a := 0) (c := 1505) (by decide +kernel)).trans ?_
  rfl

theorem b315_1503 {h : HP} {I : Nat → Int → Int} {x4 : Int} {x5 : Int} {x6 : Int} : Go 315 1503 [.inr (.inl (some 0)), .inr (.inl (some 1)), .inr (.inl (some 94)), .inr (.inl (some 139)), .inl x4, .inl x5, .inl x6] [] (mI h I) = some (mI h I, .inl (some (.inl 0))) := by
  refine (Go_const (h := mI h I) (y := 315) (ip := 1503) (a := 0) (b := 0) (c := 0) (by decide +kernel)).trans ?_
  refine (Go_iret (h := mI h I) (y := 315) (ip := 1504) (a := 0) (b := 0) (c := 0) (by decide +kernel) (Or.inr ⟨rfl, by decide⟩)).trans ?_
  rfl

theorem b315_1505 {h : HP} {I : Nat → Int → Int} {x4 : Int} {x5 : Int} {x6 : Int} : Go 315 1505 [.inr (.inl (some 0)), .inr (.inl (some 1)), .inr (.inl (some 94)), .inr (.inl (some 139)), .inl x4, .inl x5, .inl x6] [] (mI h I) = Go 315 1826 [.inr (.inl (some 0)), .inr (.inl (some 1)), .inr (.inl (some 94)), .inr (.inl (some 139)), .inl x4, .inl x5, .inl x6] [] (mI h I) := by
  refine (Go_goto (h := mI h I) (y := 315) (ip := 1505) (a := 0) (b := 0) (c := 1826) (by decide +kernel)).trans ?_
  rfl

theorem b315_1506 {h : HP} {I : Nat → Int → Int} {x4 : Int} {v5 : MV} {v6 : MV} {L : Int} (p0 : -2147483648 ≤ x4 + 1 ∧ x4 + 1 < 2147483648) (p1 : hK h 0 = (6, L)) (p2 : 0 ≤ x4 + 1 ∧ x4 + 1 < L) : Go 315 1506 [.inr (.inl (some 0)), .inr (.inl (some 1)), .inr (.inl (some 94)), .inr (.inl (some 139)), .inl x4, v5, v6] [] (mI h I) = caln 315 [.inr (.inl (some 0)), .inr (.inl (some 1)), .inr (.inl (some 94)), .inr (.inl (some 139)), .inl x4, v5, v6] [] 1514 (Go 308 0 [.inr (.inl (some 1)), .inl (I 0 (x4 + 1)), .inr (.inl (some 139)), vU] [] (mI h I)) := by
  refine (Go_aload (h := mI h I) (y := 315) (ip := 1506) (a := 0) (b := 1) (c := 0) (by decide +kernel) rfl).trans ?_
  refine (Go_aload (h := mI h I) (y := 315) (ip := 1507) (a := 0) (b := 0) (c := 0) (by decide +kernel) rfl).trans ?_
  refine (Go_iload (h := mI h I) (y := 315) (ip := 1508) (a := 0) (b := 4) (c := 0) (by decide +kernel) rfl).trans ?_
  refine (Go_const (h := mI h I) (y := 315) (ip := 1509) (a := 1) (b := 0) (c := 0) (by decide +kernel)).trans ?_
  refine (Go_ar (op := 4) (x := x4 + 1) (h := mI h I) (y := 315) (ip := 1510) (a := 0) (b := 0) (c := 0) (by decide +kernel) rfl (zar4 p0)).trans ?_
  refine (Go_ald (h := mI h I) (y := 315) (ip := 1511) (a := 0) (b := 0) (c := 0) (by decide +kernel) rfl (p1) rfl p2).trans ?_
  refine (Go_aload (h := mI h I) (y := 315) (ip := 1512) (a := 0) (b := 3) (c := 0) (by decide +kernel) rfl).trans ?_
  refine (Go_call2 (h := mI h I) (y := 315) (ip := 1513) (a := 345) (z := 308) (c := 1) (as := [.inr (.inl (some 1)), .inl (I 0 (x4 + 1)), .inr (.inl (some 139))]) (rest := []) (by decide +kernel) (by decide +kernel) rfl rfl rfl rfl).trans ?_
  rfl

theorem b315_1514 {h : HP} {I : Nat → Int → Int} {x4 : Int} {v5 : MV} {v6 : MV} {sx0 : Int} {L : Int} (p0 : -2147483648 ≤ x4 + 1 ∧ x4 + 1 < 2147483648) (p1 : hK h 0 = (6, L)) (p2 : 0 ≤ x4 + 1 ∧ x4 + 1 < L) (p3 : LX 11 h 94) : Go 315 1514 [.inr (.inl (some 0)), .inr (.inl (some 1)), .inr (.inl (some 94)), .inr (.inl (some 139)), .inl x4, v5, v6] [.inl sx0] (mI h I) = caln 315 [.inr (.inl (some 0)), .inr (.inl (some 1)), .inr (.inl (some 94)), .inr (.inl (some 139)), .inl x4, .inl sx0, v6] [] 1522 (Go 259 0 [.inr (.inl (some 94)), .inl (I 0 (x4 + 1)), vU, vU, vU, vU, vU] [] (mI h I)) := by
  refine (Go_istore (h := mI h I) (y := 315) (ip := 1514) (a := 0) (b := 5) (c := 0) (by decide +kernel) rfl).trans ?_
  refine (Go_aload (h := mI h I) (y := 315) (ip := 1515) (a := 0) (b := 2) (c := 0) (by decide +kernel) rfl).trans ?_
  refine (Go_aload (h := mI h I) (y := 315) (ip := 1516) (a := 0) (b := 0) (c := 0) (by decide +kernel) rfl).trans ?_
  refine (Go_iload (h := mI h I) (y := 315) (ip := 1517) (a := 0) (b := 4) (c := 0) (by decide +kernel) rfl).trans ?_
  refine (Go_const (h := mI h I) (y := 315) (ip := 1518) (a := 1) (b := 0) (c := 0) (by decide +kernel)).trans ?_
  refine (Go_ar (op := 4) (x := x4 + 1) (h := mI h I) (y := 315) (ip := 1519) (a := 0) (b := 0) (c := 0) (by decide +kernel) rfl (zar4 p0)).trans ?_
  refine (Go_ald (h := mI h I) (y := 315) (ip := 1520) (a := 0) (b := 0) (c := 0) (by decide +kernel) rfl (p1) rfl p2).trans ?_
  refine (Go_call2 (h := mI h I) (y := 315) (ip := 1521) (a := 346) (z := 259) (c := 0) (as := [.inr (.inl (some 94)), .inl (I 0 (x4 + 1))]) (rest := []) (by decide +kernel) (by decide +kernel) rfl rfl (zrecv_v rfl (LX_t p3)) rfl).trans ?_
  rfl

theorem b315_1522 {h : HP} {I : Nat → Int → Int} {x4 : Int} {x5 : Int} {v6 : MV} {sx0 : Int} (p0 : LX 11 h 94) : Go 315 1522 [.inr (.inl (some 0)), .inr (.inl (some 1)), .inr (.inl (some 94)), .inr (.inl (some 139)), .inl x4, .inl x5, v6] [.inl sx0] (mI h I) = caln 315 [.inr (.inl (some 0)), .inr (.inl (some 1)), .inr (.inl (some 94)), .inr (.inl (some 139)), .inl x4, .inl x5, .inl sx0] [] 1525 (Go 162 0 [.inr (.inl (some 94))] [] (mI h I)) := by
  refine (Go_istore (h := mI h I) (y := 315) (ip := 1522) (a := 0) (b := 6) (c := 0) (by decide +kernel) rfl).trans ?_
  refine (Go_aload (h := mI h I) (y := 315) (ip := 1523) (a := 0) (b := 2) (c := 0) (by decide +kernel) rfl).trans ?_
  refine (Go_call2 (h := mI h I) (y := 315) (ip := 1524) (a := 276) (z := 162) (c := 0) (as := [.inr (.inl (some 94))]) (rest := []) (by decide +kernel) (by decide +kernel) rfl rfl (zrecv_v rfl (LX_t p0)) rfl).trans ?_
  rfl

theorem b315_1525 {h : HP} {I : Nat → Int → Int} {x4 : Int} {x5 : Int} {x6 : Int} {sx0 : Int} : Go 315 1525 [.inr (.inl (some 0)), .inr (.inl (some 1)), .inr (.inl (some 94)), .inr (.inl (some 139)), .inl x4, .inl x5, .inl x6] [.inl sx0] (mI h I) = if sx0 = x5 then Go 315 1529 [.inr (.inl (some 0)), .inr (.inl (some 1)), .inr (.inl (some 94)), .inr (.inl (some 139)), .inl x4, .inl x5, .inl x6] [] (mI h I) else Go 315 1527 [.inr (.inl (some 0)), .inr (.inl (some 1)), .inr (.inl (some 94)), .inr (.inl (some 139)), .inl x4, .inl x5, .inl x6] [] (mI h I) := by
  refine (Go_iload (h := mI h I) (y := 315) (ip := 1525) (a := 0) (b := 5) (c := 0) (by decide +kernel) rfl).trans ?_
  refine (Go_cmpeq (y := 315) (ip := 1526) (a := 0) (c := 1529) (by decide +kernel)).trans ?_
  rfl

theorem b315_1527 {h : HP} {I : Nat → Int → Int} {x4 : Int} {x5 : Int} {x6 : Int} : Go 315 1527 [.inr (.inl (some 0)), .inr (.inl (some 1)), .inr (.inl (some 94)), .inr (.inl (some 139)), .inl x4, .inl x5, .inl x6] [] (mI h I) = some (mI h I, .inl (some (.inl 0))) := by
  refine (Go_const (h := mI h I) (y := 315) (ip := 1527) (a := 0) (b := 0) (c := 0) (by decide +kernel)).trans ?_
  refine (Go_iret (h := mI h I) (y := 315) (ip := 1528) (a := 0) (b := 0) (c := 0) (by decide +kernel) (Or.inr ⟨rfl, by decide⟩)).trans ?_
  rfl

theorem b315_1529 {h : HP} {I : Nat → Int → Int} {x4 : Int} {x5 : Int} {x6 : Int} : Go 315 1529 [.inr (.inl (some 0)), .inr (.inl (some 1)), .inr (.inl (some 94)), .inr (.inl (some 139)), .inl x4, .inl x5, .inl x6] [] (mI h I) = if x5 ≠ 0 then Go 315 1540 [.inr (.inl (some 0)), .inr (.inl (some 1)), .inr (.inl (some 94)), .inr (.inl (some 139)), .inl x4, .inl x5, .inl x6] [] (mI h I) else Go 315 1531 [.inr (.inl (some 0)), .inr (.inl (some 1)), .inr (.inl (some 94)), .inr (.inl (some 139)), .inl x4, .inl x5, .inl x6] [] (mI h I) := by
  refine (Go_iload (h := mI h I) (y := 315) (ip := 1529) (a := 0) (b := 5) (c := 0) (by decide +kernel) rfl).trans ?_
  refine (Go_ifne (y := 315) (ip := 1530) (a := 0) (c := 1540) (by decide +kernel)).trans ?_
  rfl

theorem b315_1531 {h : HP} {I : Nat → Int → Int} {x4 : Int} {x5 : Int} {x6 : Int} (p0 : hK h 139 = (2, 1)) : Go 315 1531 [.inr (.inl (some 0)), .inr (.inl (some 1)), .inr (.inl (some 94)), .inr (.inl (some 139)), .inl x4, .inl x5, .inl x6] [] (mI h I) = if (if I 139 0 < x6 then -1 else if I 139 0 = x6 then 0 else 1 : Int) = 0 then Go 315 1540 [.inr (.inl (some 0)), .inr (.inl (some 1)), .inr (.inl (some 94)), .inr (.inl (some 139)), .inl x4, .inl x5, .inl x6] [] (mI h I) else Go 315 1538 [.inr (.inl (some 0)), .inr (.inl (some 1)), .inr (.inl (some 94)), .inr (.inl (some 139)), .inl x4, .inl x5, .inl x6] [] (mI h I) := by
  refine (Go_aload (h := mI h I) (y := 315) (ip := 1531) (a := 0) (b := 3) (c := 0) (by decide +kernel) rfl).trans ?_
  refine (Go_const (h := mI h I) (y := 315) (ip := 1532) (a := 0) (b := 0) (c := 0) (by decide +kernel)).trans ?_
  refine (Go_ldl (h := mI h I) (y := 315) (ip := 1533) (a := 0) (c := 0) (by decide +kernel) (p0) (by decide)).trans ?_
  refine (Go_iload (h := mI h I) (y := 315) (ip := 1534) (a := 0) (b := 6) (c := 0) (by decide +kernel) rfl).trans ?_
  refine (Go_i2l (h := mI h I) (y := 315) (ip := 1535) (a := 0) (b := 0) (c := 0) (by decide +kernel)).trans ?_
  refine (Go_lcmp (h := mI h I) (y := 315) (ip := 1536) (a := 0) (b := 0) (c := 0) (by decide +kernel)).trans ?_
  refine (Go_ifeq (y := 315) (ip := 1537) (a := 0) (c := 1540) (by decide +kernel)).trans ?_
  rfl

theorem b315_1538 {h : HP} {I : Nat → Int → Int} {x4 : Int} {x5 : Int} {x6 : Int} : Go 315 1538 [.inr (.inl (some 0)), .inr (.inl (some 1)), .inr (.inl (some 94)), .inr (.inl (some 139)), .inl x4, .inl x5, .inl x6] [] (mI h I) = some (mI h I, .inl (some (.inl 0))) := by
  refine (Go_const (h := mI h I) (y := 315) (ip := 1538) (a := 0) (b := 0) (c := 0) (by decide +kernel)).trans ?_
  refine (Go_iret (h := mI h I) (y := 315) (ip := 1539) (a := 0) (b := 0) (c := 0) (by decide +kernel) (Or.inr ⟨rfl, by decide⟩)).trans ?_
  rfl

theorem b315_1540 {h : HP} {I : Nat → Int → Int} {x4 : Int} {x5 : Int} {x6 : Int} : Go 315 1540 [.inr (.inl (some 0)), .inr (.inl (some 1)), .inr (.inl (some 94)), .inr (.inl (some 139)), .inl x4, .inl x5, .inl x6] [] (mI h I) = Go 315 1826 [.inr (.inl (some 0)), .inr (.inl (some 1)), .inr (.inl (some 94)), .inr (.inl (some 139)), .inl x4, .inl x5, .inl x6] [] (mI h I) := by
  refine (Go_goto (h := mI h I) (y := 315) (ip := 1540) (a := 0) (b := 0) (c := 1826) (by decide +kernel)).trans ?_
  rfl

theorem b315_1541 {h : HP} {I : Nat → Int → Int} {x4 : Int} {v5 : MV} {v6 : MV} (p0 : LX 10 h 1) : Go 315 1541 [.inr (.inl (some 0)), .inr (.inl (some 1)), .inr (.inl (some 94)), .inr (.inl (some 139)), .inl x4, v5, v6] [] (mI h I) = caln 315 [.inr (.inl (some 0)), .inr (.inl (some 1)), .inr (.inl (some 94)), .inr (.inl (some 139)), .inl x4, v5, v6] [] 1543 (Go 135 0 [.inr (.inl (some 1))] [] (mI h I)) := by
  refine (Go_aload (h := mI h I) (y := 315) (ip := 1541) (a := 0) (b := 1) (c := 0) (by decide +kernel) rfl).trans ?_
  refine (Go_call2 (h := mI h I) (y := 315) (ip := 1542) (a := 347) (z := 135) (c := 0) (as := [.inr (.inl (some 1))]) (rest := []) (by decide +kernel) (by decide +kernel) rfl rfl (zrecv_v rfl (LX_t p0)) rfl).trans ?_
  rfl

theorem b315_1543 {h : HP} {I : Nat → Int → Int} {x4 : Int} {v5 : MV} {v6 : MV} {sx0 : Int} (p0 : LX 11 h 94) : Go 315 1543 [.inr (.inl (some 0)), .inr (.inl (some 1)), .inr (.inl (some 94)), .inr (.inl (some 139)), .inl x4, v5, v6] [.inl sx0] (mI h I) = caln 315 [.inr (.inl (some 0)), .inr (.inl (some 1)), .inr (.inl (some 94)), .inr (.inl (some 139)), .inl x4, v5, v6] [.inl sx0] 1545 (Go 260 0 [.inr (.inl (some 94))] [] (mI h I)) := by
  refine (Go_aload (h := mI h I) (y := 315) (ip := 1543) (a := 0) (b := 2) (c := 0) (by decide +kernel) rfl).trans ?_
  refine (Go_call2 (h := mI h I) (y := 315) (ip := 1544) (a := 348) (z := 260) (c := 0) (as := [.inr (.inl (some 94))]) (rest := [.inl sx0]) (by decide +kernel) (by decide +kernel) rfl rfl (zrecv_v rfl (LX_t p0)) rfl).trans ?_
  rfl

theorem b315_1545 {h : HP} {I : Nat → Int → Int} {x4 : Int} {v5 : MV} {v6 : MV} {sx0 : Int} {sx1 : Int} : Go 315 1545 [.inr (.inl (some 0)), .inr (.inl (some 1)), .inr (.inl (some 94)), .inr (.inl (some 139)), .inl x4, v5, v6] [.inl sx1, .inl sx0] (mI h I) = if sx0 = sx1 then Go 315 1826 [.inr (.inl (some 0)), .inr (.inl (some 1)), .inr (.inl (some 94)), .inr (.inl (some 139)), .inl x4, v5, v6] [] (mI h I) else Go 315 1546 [.inr (.inl (some 0)), .inr (.inl (some 1)), .inr (.inl (some 94)), .inr (.inl (some 139)), .inl x4, v5, v6] [] (mI h I) := by
  refine (Go_cmpeq (y := 315) (ip := 1545) (a := 0) (c := 1826) (by decide +kernel)).trans ?_
  rfl

theorem b315_1546 {h : HP} {I : Nat → Int → Int} {x4 : Int} {v5 : MV} {v6 : MV} : Go 315 1546 [.inr (.inl (some 0)), .inr (.inl (some 1)), .inr (.inl (some 94)), .inr (.inl (some 139)), .inl x4, v5, v6] [] (mI h I) = some (mI h I, .inl (some (.inl 0))) := by
  refine (Go_const (h := mI h I) (y := 315) (ip := 1546) (a := 0) (b := 0) (c := 0) (by decide +kernel)).trans ?_
  refine (Go_iret (h := mI h I) (y := 315) (ip := 1547) (a := 0) (b := 0) (c := 0) (by decide +kernel) (Or.inr ⟨rfl, by decide⟩)).trans ?_
  rfl

theorem b315_1548 {h : HP} {I : Nat → Int → Int} {x4 : Int} {v5 : MV} {v6 : MV} {L : Int} (p0 : -2147483648 ≤ x4 + 1 ∧ x4 + 1 < 2147483648) (p1 : hK h 0 = (6, L)) (p2 : 0 ≤ x4 + 1 ∧ x4 + 1 < L) (p3 : -2147483648 ≤ x4 + 2 ∧ x4 + 2 < 2147483648) (p4 : 0 ≤ x4 + 2 ∧ x4 + 2 < L) (p5 : -2147483648 ≤ x4 + 3 ∧ x4 + 3 < 2147483648) (p6 : 0 ≤ x4 + 3 ∧ x4 + 3 < L) (p7 : -2147483648 ≤ x4 + 4 ∧ x4 + 4 < 2147483648) (p8 : 0 ≤ x4 + 4 ∧ x4 + 4 < L) : Go 315 1548 [.inr (.inl (some 0)), .inr (.inl (some 1)), .inr (.inl (some 94)), .inr (.inl (some 139)), .inl x4, v5, v6] [] (mI h I) = if I 0 (x4 + 4) = 0 then Go 315 1572 [.inr (.inl (some 0)), .inr (.inl (some 1)), .inr (.inl (some 94)), .inr (.inl (some 139)), .inl x4, v5, v6] [.inl (I 0 (x4 + 3)), .inl (I 0 (x4 + 2)), .inl (I 0 (x4 + 1)), .inr (.inl (some 1))] (mI h I) else Go 315 1570 [.inr (.inl (some 0)), .inr (.inl (some 1)), .inr (.inl (some 94)), .inr (.inl (some 139)), .inl x4, v5, v6] [.inl (I 0 (x4 + 3)), .inl (I 0 (x4 + 2)), .inl (I 0 (x4 + 1)), .inr (.inl (some 1))] (mI h I) := by
  refine (Go_aload (h := mI h I) (y := 315) (ip := 1548) (a := 0) (b := 1) (c := 0) (by decide +kernel) rfl).trans ?_
  refine (Go_aload (h := mI h I) (y := 315) (ip := 1549) (a := 0) (b := 0) (c := 0) (by decide +kernel) rfl).trans ?_
  refine (Go_iload (h := mI h I) (y := 315) (ip := 1550) (a := 0) (b := 4) (c := 0) (by decide +kernel) rfl).trans ?_
  refine (Go_const (h := mI h I) (y := 315) (ip := 1551) (a := 1) (b := 0) (c := 0) (by decide +kernel)).trans ?_
  refine (Go_ar (op := 4) (x := x4 + 1) (h := mI h I) (y := 315) (ip := 1552) (a := 0) (b := 0) (c := 0) (by decide +kernel) rfl (zar4 p0)).trans ?_
  refine (Go_ald (h := mI h I) (y := 315) (ip := 1553) (a := 0) (b := 0) (c := 0) (by decide +kernel) rfl (p1) rfl p2).trans ?_
  refine (Go_aload (h := mI h I) (y := 315) (ip := 1554) (a := 0) (b := 0) (c := 0) (by decide +kernel) rfl).trans ?_
  refine (Go_iload (h := mI h I) (y := 315) (ip := 1555) (a := 0) (b := 4) (c := 0) (by decide +kernel) rfl).trans ?_
  refine (Go_const (h := mI h I) (y := 315) (ip := 1556) (a := 2) (b := 0) (c := 0) (by decide +kernel)).trans ?_
  refine (Go_ar (op := 4) (x := x4 + 2) (h := mI h I) (y := 315) (ip := 1557) (a := 0) (b := 0) (c := 0) (by decide +kernel) rfl (zar4 p3)).trans ?_
  refine (Go_ald (h := mI h I) (y := 315) (ip := 1558) (a := 0) (b := 0) (c := 0) (by decide +kernel) rfl (p1) rfl p4).trans ?_
  refine (Go_aload (h := mI h I) (y := 315) (ip := 1559) (a := 0) (b := 0) (c := 0) (by decide +kernel) rfl).trans ?_
  refine (Go_iload (h := mI h I) (y := 315) (ip := 1560) (a := 0) (b := 4) (c := 0) (by decide +kernel) rfl).trans ?_
  refine (Go_const (h := mI h I) (y := 315) (ip := 1561) (a := 3) (b := 0) (c := 0) (by decide +kernel)).trans ?_
  refine (Go_ar (op := 4) (x := x4 + 3) (h := mI h I) (y := 315) (ip := 1562) (a := 0) (b := 0) (c := 0) (by decide +kernel) rfl (zar4 p5)).trans ?_
  refine (Go_ald (h := mI h I) (y := 315) (ip := 1563) (a := 0) (b := 0) (c := 0) (by decide +kernel) rfl (p1) rfl p6).trans ?_
  refine (Go_aload (h := mI h I) (y := 315) (ip := 1564) (a := 0) (b := 0) (c := 0) (by decide +kernel) rfl).trans ?_
  refine (Go_iload (h := mI h I) (y := 315) (ip := 1565) (a := 0) (b := 4) (c := 0) (by decide +kernel) rfl).trans ?_
  refine (Go_const (h := mI h I) (y := 315) (ip := 1566) (a := 4) (b := 0) (c := 0) (by decide +kernel)).trans ?_
  refine (Go_ar (op := 4) (x := x4 + 4) (h := mI h I) (y := 315) (ip := 1567) (a := 0) (b := 0) (c := 0) (by decide +kernel) rfl (zar4 p7)).trans ?_
  refine (Go_ald (h := mI h I) (y := 315) (ip := 1568) (a := 0) (b := 0) (c := 0) (by decide +kernel) rfl (p1) rfl p8).trans ?_
  refine (Go_ifeq (y := 315) (ip := 1569) (a := 0) (c := 1572) (by decide +kernel)).trans ?_
  rfl

theorem b315_1570 {h : HP} {I : Nat → Int → Int} {x4 : Int} {v5 : MV} {v6 : MV} {sx1 : Int} {sx2 : Int} {sx3 : Int} : Go 315 1570 [.inr (.inl (some 0)), .inr (.inl (some 1)), .inr (.inl (some 94)), .inr (.inl (some 139)), .inl x4, v5, v6] [.inl sx3, .inl sx2, .inl sx1, .inr (.inl (some 1))] (mI h I) = Go 315 1573 [.inr (.inl (some 0)), .inr (.inl (some 1)), .inr (.inl (some 94)), .inr (.inl (some 139)), .inl x4, v5, v6] [.inl 1, .inl sx3, .inl sx2, .inl sx1, .inr (.inl (some 1))] (mI h I) := by
  refine (Go_const (h := mI h I) (y := 315) (ip := 1570) (a := 1) (b := 0) (c := 0) (by decide +kernel)).trans ?_
  refine (Go_goto (h := mI h I) (y := 315) (ip := 1571) (a := 0) (b := 0) (c := 1573) (by decide +kernel)).trans ?_
  rfl

theorem b315_1572 {h : HP} {I : Nat → Int → Int} {x4 : Int} {v5 : MV} {v6 : MV} {sx1 : Int} {sx2 : Int} {sx3 : Int} : Go 315 1572 [.inr (.inl (some 0)), .inr (.inl (some 1)), .inr (.inl (some 94)), .inr (.inl (some 139)), .inl x4, v5, v6] [.inl sx3, .inl sx2, .inl sx1, .inr (.inl (some 1))] (mI h I) = Go 315 1573 [.inr (.inl (some 0)), .inr (.inl (some 1)), .inr (.inl (some 94)), .inr (.inl (some 139)), .inl x4, v5, v6] [.inl 0, .inl sx3, .inl sx2, .inl sx1, .inr (.inl (some 1))] (mI h I) := by
  refine (Go_const (h := mI h I) (y := 315) (ip := 1572) (a := 0) (b := 0) (c := 0) (by decide +kernel)).trans ?_
  rfl

theorem b315_1573 {h : HP} {I : Nat → Int → Int} {x4 : Int} {v5 : MV} {v6 : MV} {sx1 : Int} {sx2 : Int} {sx3 : Int} {sx4 : Int} : Go 315 1573 [.inr (.inl (some 0)), .inr (.inl (some 1)), .inr (.inl (some 94)), .inr (.inl (some 139)), .inl x4, v5, v6] [.inl sx4, .inl sx3, .inl sx2, .inl sx1, .inr (.inl (some 1))] (mI h I) = caln 315 [.inr (.inl (some 0)), .inr (.inl (some 1)), .inr (.inl (some 94)), .inr (.inl (some 139)), .inl x4, v5, v6] [] 1575 (Go 309 0 [.inr (.inl (some 1)), .inl sx1, .inl sx2, .inl sx3, .inl sx4, .inr (.inl (some 139)), vU] [] (mI h I)) := by
  refine (Go_aload (h := mI h I) (y := 315) (ip := 1573) (a := 0) (b := 3) (c := 0) (by decide +kernel) rfl).trans ?_
  refine (Go_call2 (h := mI h I) (y := 315) (ip := 1574) (a := 349) (z := 309) (c := 1) (as := [.inr (.inl (some 1)), .inl sx1, .inl sx2, .inl sx3, .inl sx4, .inr (.inl (some 139))]) (rest := []) (by decide +kernel) (by decide +kernel) rfl rfl rfl rfl).trans ?_
  rfl

theorem b315_1575 {h : HP} {I : Nat → Int → Int} {x4 : Int} {v5 : MV} {v6 : MV} {sx0 : Int} {L : Int} (p0 : -2147483648 ≤ x4 + 1 ∧ x4 + 1 < 2147483648) (p1 : hK h 0 = (6, L)) (p2 : 0 ≤ x4 + 1 ∧ x4 + 1 < L) (p3 : -2147483648 ≤ x4 + 2 ∧ x4 + 2 < 2147483648) (p4 : 0 ≤ x4 + 2 ∧ x4 + 2 < L) (p5 : -2147483648 ≤ x4 + 3 ∧ x4 + 3 < 2147483648) (p6 : 0 ≤ x4 + 3 ∧ x4 + 3 < L) (p7 : -2147483648 ≤ x4 + 4 ∧ x4 + 4 < 2147483648) (p8 : 0 ≤ x4 + 4 ∧ x4 + 4 < L) : Go 315 1575 [.inr (.inl (some 0)), .inr (.inl (some 1)), .inr (.inl (some 94)), .inr (.inl (some 139)), .inl x4, v5, v6] [.inl sx0] (mI h I) = if I 0 (x4 + 4) = 0 then Go 315 1600 [.inr (.inl (some 0)), .inr (.inl (some 1)), .inr (.inl (some 94)), .inr (.inl (some 139)), .inl x4, .inl sx0, v6] [.inl (I 0 (x4 + 3)), .inl (I 0 (x4 + 2)), .inl (I 0 (x4 + 1)), .inr (.inl (some 94))] (mI h I) else Go 315 1598 [.inr (.inl (some 0)), .inr (.inl (some 1)), .inr (.inl (some 94)), .inr (.inl (some 139)), .inl x4, .inl sx0, v6] [.inl (I 0 (x4 + 3)), .inl (I 0 (x4 + 2)), .inl (I 0 (x4 + 1)), .inr (.inl (some 94))] (mI h I) := by
  refine (Go_istore (h := mI h I) (y := 315) (ip := 1575) (a := 0) (b := 5) (c := 0) (by decide +kernel) rfl).trans ?_
  refine (Go_aload (h := mI h I) (y := 315) (ip := 1576) (a := 0) (b := 2) (c := 0) (by decide +kernel) rfl).trans ?_
  refine (Go_aload (h := mI h I) (y := 315) (ip := 1577) (a := 0) (b := 0) (c := 0) (by decide +kernel) rfl).trans ?_
  refine (Go_iload (h := mI h I) (y := 315) (ip := 1578) (a := 0) (b := 4) (c := 0) (by decide +kernel) rfl).trans ?_
  refine (Go_const (h := mI h I) (y := 315) (ip := 1579) (a := 1) (b := 0) (c := 0) (by decide +kernel)).trans ?_
  refine (Go_ar (op := 4) (x := x4 + 1) (h := mI h I) (y := 315) (ip := 1580) (a := 0) (b := 0) (c := 0) (by decide +kernel) rfl (zar4 p0)).trans ?_
  refine (Go_ald (h := mI h I) (y := 315) (ip := 1581) (a := 0) (b := 0) (c := 0) (by decide +kernel) rfl (p1) rfl p2).trans ?_
  refine (Go_aload (h := mI h I) (y := 315) (ip := 1582) (a := 0) (b := 0) (c := 0) (by decide +kernel) rfl).trans ?_
  refine (Go_iload (h := mI h I) (y := 315) (ip := 1583) (a := 0) (b := 4) (c := 0) (by decide +kernel) rfl).trans ?_
  refine (Go_const (h := mI h I) (y := 315) (ip := 1584) (a := 2) (b := 0) (c := 0) (by decide +kernel)).trans ?_
  refine (Go_ar (op := 4) (x := x4 + 2) (h := mI h I) (y := 315) (ip := 1585) (a := 0) (b := 0) (c := 0) (by decide +kernel) rfl (zar4 p3)).trans ?_
  refine (Go_ald (h := mI h I) (y := 315) (ip := 1586) (a := 0) (b := 0) (c := 0) (by decide +kernel) rfl (p1) rfl p4).trans ?_
  refine (Go_aload (h := mI h I) (y := 315) (ip := 1587) (a := 0) (b := 0) (c := 0) (by decide +kernel) rfl).trans ?_
  refine (Go_iload (h := mI h I) (y := 315) (ip := 1588) (a := 0) (b := 4) (c := 0) (by decide +kernel) rfl).trans ?_
  refine (Go_const (h := mI h I) (y := 315) (ip := 1589) (a := 3) (b := 0) (c := 0) (by decide +kernel)).trans ?_
  refine (Go_ar (op := 4) (x := x4 + 3) (h := mI h I) (y := 315) (ip := 1590) (a := 0) (b := 0) (c := 0) (by decide +kernel) rfl (zar4 p5)).trans ?_
  refine (Go_ald (h := mI h I) (y := 315) (ip := 1591) (a := 0) (b := 0) (c := 0) (by decide +kernel) rfl (p1) rfl p6).trans ?_
  refine (Go_aload (h := mI h I) (y := 315) (ip := 1592) (a := 0) (b := 0) (c := 0) (by decide +kernel) rfl).trans ?_
  refine (Go_iload (h := mI h I) (y := 315) (ip := 1593) (a := 0) (b := 4) (c := 0) (by decide +kernel) rfl).trans ?_
  refine (Go_const (h := mI h I) (y := 315) (ip := 1594) (a := 4) (b := 0) (c := 0) (by decide +kernel)).trans ?_
  refine (Go_ar (op := 4) (x := x4 + 4) (h := mI h I) (y := 315) (ip := 1595) (a := 0) (b := 0) (c := 0) (by decide +kernel) rfl (zar4 p7)).trans ?_
  refine (Go_ald (h := mI h I) (y := 315) (ip := 1596) (a := 0) (b := 0) (c := 0) (by decide +kernel) rfl (p1) rfl p8).trans ?_
  refine (Go_ifeq (y := 315) (ip := 1597) (a := 0) (c := 1600) (by decide +kernel)).trans ?_
  rfl

theorem b315_1598 {h : HP} {I : Nat → Int → Int} {x4 : Int} {x5 : Int} {v6 : MV} {sx1 : Int} {sx2 : Int} {sx3 : Int} : Go 315 1598 [.inr (.inl (some 0)), .inr (.inl (some 1)), .inr (.inl (some 94)), .inr (.inl (some 139)), .inl x4, .inl x5, v6] [.inl sx3, .inl sx2, .inl sx1, .inr (.inl (some 94))] (mI h I) = Go 315 1601 [.inr (.inl (some 0)), .inr (.inl (some 1)), .inr (.inl (some 94)), .inr (.inl (some 139)), .inl x4, .inl x5, v6] [.inl 1, .inl sx3, .inl sx2, .inl sx1, .inr (.inl (some 94))] (mI h I) := by
  refine (Go_const (h := mI h I) (y := 315) (ip := 1598) (a := 1) (b := 0) (c := 0) (by decide +kernel)).trans ?_
  refine (Go_goto (h := mI h I) (y := 315) (ip := 1599) (a := 0) (b := 0) (c := 1601) (by decide +kernel)).trans ?_
  rfl

theorem b315_1600 {h : HP} {I : Nat → Int → Int} {x4 : Int} {x5 : Int} {v6 : MV} {sx1 : Int} {sx2 : Int} {sx3 : Int} : Go 315 1600 [.inr (.inl (some 0)), .inr (.inl (some 1)), .inr (.inl (some 94)), .inr (.inl (some 139)), .inl x4, .inl x5, v6] [.inl sx3, .inl sx2, .inl sx1, .inr (.inl (some 94))] (mI h I) = Go 315 1601 [.inr (.inl (some 0)), .inr (.inl (some 1)), .inr (.inl (some 94)), .inr (.inl (some 139)), .inl x4, .inl x5, v6] [.inl 0, .inl sx3, .inl sx2, .inl sx1, .inr (.inl (some 94))] (mI h I) := by
  refine (Go_const (h := mI h I) (y := 315) (ip := 1600) (a := 0) (b := 0) (c := 0) (by decide +kernel)).trans ?_
  rfl

theorem b315_1601 {h : HP} {I : Nat → Int → Int} {x4 : Int} {x5 : Int} {v6 : MV} {sx1 : Int} {sx2 : Int} {sx3 : Int} {sx4 : Int} (p0 : LX 11 h 94) : Go 315 1601 [.inr (.inl (some 0)), .inr (.inl (some 1)), .inr (.inl (some 94)), .inr (.inl (some 139)), .inl x4, .inl x5, v6] [.inl sx4, .inl sx3, .inl sx2, .inl sx1, .inr (.inl (some 94))] (mI h I) = caln 315 [.inr (.inl (some 0)), .inr (.inl (some 1)), .inr (.inl (some 94)), .inr (.inl (some 139)), .inl x4, .inl x5, v6] [] 1602 (Go 266 0 [.inr (.inl (some 94)), .inl sx1, .inl sx2, .inl sx3, .inl sx4] [] (mI h I)) := by
  refine (Go_call2 (h := mI h I) (y := 315) (ip := 1601) (a := 350) (z := 266) (c := 0) (as := [.inr (.inl (some 94)), .inl sx1, .inl sx2, .inl sx3, .inl sx4]) (rest := []) (by decide +kernel) (by decide +kernel) rfl rfl (zrecv_v rfl (LX_t p0)) rfl).trans ?_
  rfl

theorem b315_1602 {h : HP} {I : Nat → Int → Int} {x4 : Int} {x5 : Int} {v6 : MV} {sx0 : Int} (p0 : LX 11 h 94) : Go 315 1602 [.inr (.inl (some 0)), .inr (.inl (some 1)), .inr (.inl (some 94)), .inr (.inl (some 139)), .inl x4, .inl x5, v6] [.inl sx0] (mI h I) = caln 315 [.inr (.inl (some 0)), .inr (.inl (some 1)), .inr (.inl (some 94)), .inr (.inl (some 139)), .inl x4, .inl x5, .inl sx0] [] 1605 (Go 162 0 [.inr (.inl (some 94))] [] (mI h I)) := by
  refine (Go_istore (h := mI h I) (y := 315) (ip := 1602) (a := 0) (b := 6) (c := 0) (by decide +kernel) rfl).trans ?_
  refine (Go_aload (h := mI h I) (y := 315) (ip := 1603) (a := 0) (b := 2) (c := 0) (by decide +kernel) rfl).trans ?_
  refine (Go_call2 (h := mI h I) (y := 315) (ip := 1604) (a := 276) (z := 162) (c := 0) (as := [.inr (.inl (some 94))]) (rest := []) (by decide +kernel) (by decide +kernel) rfl rfl (zrecv_v rfl (LX_t p0)) rfl).trans ?_
  rfl

theorem b315_1605 {h : HP} {I : Nat → Int → Int} {x4 : Int} {x5 : Int} {x6 : Int} {sx0 : Int} : Go 315 1605 [.inr (.inl (some 0)), .inr (.inl (some 1)), .inr (.inl (some 94)), .inr (.inl (some 139)), .inl x4, .inl x5, .inl x6] [.inl sx0] (mI h I) = if sx0 = x5 then Go 315 1609 [.inr (.inl (some 0)), .inr (.inl (some 1)), .inr (.inl (some 94)), .inr (.inl (some 139)), .inl x4, .inl x5, .inl x6] [] (mI h I) else Go 315 1607 [.inr (.inl (some 0)), .inr (.inl (some 1)), .inr (.inl (some 94)), .inr (.inl (some 139)), .inl x4, .inl x5, .inl x6] [] (mI h I) := by
  refine (Go_iload (h := mI h I) (y := 315) (ip := 1605) (a := 0) (b := 5) (c := 0) (by decide +kernel) rfl).trans ?_
  refine (Go_cmpeq (y := 315) (ip := 1606) (a := 0) (c := 1609) (by decide +kernel)).trans ?_
  rfl

theorem b315_1607 {h : HP} {I : Nat → Int → Int} {x4 : Int} {x5 : Int} {x6 : Int} : Go 315 1607 [.inr (.inl (some 0)), .inr (.inl (some 1)), .inr (.inl (some 94)), .inr (.inl (some 139)), .inl x4, .inl x5, .inl x6] [] (mI h I) = some (mI h I, .inl (some (.inl 0))) := by
  refine (Go_const (h := mI h I) (y := 315) (ip := 1607) (a := 0) (b := 0) (c := 0) (by decide +kernel)).trans ?_
  refine (Go_iret (h := mI h I) (y := 315) (ip := 1608) (a := 0) (b := 0) (c := 0) (by decide +kernel) (Or.inr ⟨rfl, by decide⟩)).trans ?_
  rfl

theorem b315_1609 {h : HP} {I : Nat → Int → Int} {x4 : Int} {x5 : Int} {x6 : Int} : Go 315 1609 [.inr (.inl (some 0)), .inr (.inl (some 1)), .inr (.inl (some 94)), .inr (.inl (some 139)), .inl x4, .inl x5, .inl x6] [] (mI h I) = if x5 ≠ 0 then Go 315 1620 [.inr (.inl (some 0)), .inr (.inl (some 1)), .inr (.inl (some 94)), .inr (.inl (some 139)), .inl x4, .inl x5, .inl x6] [] (mI h I) else Go 315 1611 [.inr (.inl (some 0)), .inr (.inl (some 1)), .inr (.inl (some 94)), .inr (.inl (some 139)), .inl x4, .inl x5, .inl x6] [] (mI h I) := by
  refine (Go_iload (h := mI h I) (y := 315) (ip := 1609) (a := 0) (b := 5) (c := 0) (by decide +kernel) rfl).trans ?_
  refine (Go_ifne (y := 315) (ip := 1610) (a := 0) (c := 1620) (by decide +kernel)).trans ?_
  rfl

theorem b315_1611 {h : HP} {I : Nat → Int → Int} {x4 : Int} {x5 : Int} {x6 : Int} (p0 : hK h 139 = (2, 1)) : Go 315 1611 [.inr (.inl (some 0)), .inr (.inl (some 1)), .inr (.inl (some 94)), .inr (.inl (some 139)), .inl x4, .inl x5, .inl x6] [] (mI h I) = if (if I 139 0 < x6 then -1 else if I 139 0 = x6 then 0 else 1 : Int) = 0 then Go 315 1620 [.inr (.inl (some 0)), .inr (.inl (some 1)), .inr (.inl (some 94)), .inr (.inl (some 139)), .inl x4, .inl x5, .inl x6] [] (mI h I) else Go 315 1618 [.inr (.inl (some 0)), .inr (.inl (some 1)), .inr (.inl (some 94)), .inr (.inl (some 139)), .inl x4, .inl x5, .inl x6] [] (mI h I) := by
  refine (Go_aload (h := mI h I) (y := 315) (ip := 1611) (a := 0) (b := 3) (c := 0) (by decide +kernel) rfl).trans ?_
  refine (Go_const (h := mI h I) (y := 315) (ip := 1612) (a := 0) (b := 0) (c := 0) (by decide +kernel)).trans ?_
  refine (Go_ldl (h := mI h I) (y := 315) (ip := 1613) (a := 0) (c := 0) (by decide +kernel) (p0) (by decide)).trans ?_
  refine (Go_iload (h := mI h I) (y := 315) (ip := 1614) (a := 0) (b := 6) (c := 0) (by decide +kernel) rfl).trans ?_
  refine (Go_i2l (h := mI h I) (y := 315) (ip := 1615) (a := 0) (b := 0) (c := 0) (by decide +kernel)).trans ?_
  refine (Go_lcmp (h := mI h I) (y := 315) (ip := 1616) (a := 0) (b := 0) (c := 0) (by decide +kernel)).trans ?_
  refine (Go_ifeq (y := 315) (ip := 1617) (a := 0) (c := 1620) (by decide +kernel)).trans ?_
  rfl

theorem b315_1618 {h : HP} {I : Nat → Int → Int} {x4 : Int} {x5 : Int} {x6 : Int} : Go 315 1618 [.inr (.inl (some 0)), .inr (.inl (some 1)), .inr (.inl (some 94)), .inr (.inl (some 139)), .inl x4, .inl x5, .inl x6] [] (mI h I) = some (mI h I, .inl (some (.inl 0))) := by
  refine (Go_const (h := mI h I) (y := 315) (ip := 1618) (a := 0) (b := 0) (c := 0) (by decide +kernel)).trans ?_
  refine (Go_iret (h := mI h I) (y := 315) (ip := 1619) (a := 0) (b := 0) (c := 0) (by decide +kernel) (Or.inr ⟨rfl, by decide⟩)).trans ?_
  rfl

theorem b315_1620 {h : HP} {I : Nat → Int → Int} {x4 : Int} {x5 : Int} {x6 : Int} : Go 315 1620 [.inr (.inl (some 0)), .inr (.inl (some 1)), .inr (.inl (some 94)), .inr (.inl (some 139)), .inl x4, .inl x5, .inl x6] [] (mI h I) = Go 315 1826 [.inr (.inl (some 0)), .inr (.inl (some 1)), .inr (.inl (some 94)), .inr (.inl (some 139)), .inl x4, .inl x5, .inl x6] [] (mI h I) := by
  refine (Go_goto (h := mI h I) (y := 315) (ip := 1620) (a := 0) (b := 0) (c := 1826) (by decide +kernel)).trans ?_
  rfl

theorem b315_1621 {h : HP} {I : Nat → Int → Int} {x4 : Int} {v5 : MV} {v6 : MV} {L : Int} (p0 : -2147483648 ≤ x4 + 1 ∧ x4 + 1 < 2147483648) (p1 : hK h 0 = (6, L)) (p2 : 0 ≤ x4 + 1 ∧ x4 + 1 < L) (p3 : -2147483648 ≤ x4 + 2 ∧ x4 + 2 < 2147483648) (p4 : 0 ≤ x4 + 2 ∧ x4 + 2 < L) : Go 315 1621 [.inr (.inl (some 0)), .inr (.inl (some 1)), .inr (.inl (some 94)), .inr (.inl (some 139)), .inl x4, v5, v6] [] (mI h I) = caln 315 [.inr (.inl (some 0)), .inr (.inl (some 1)), .inr (.inl (some 94)), .inr (.inl (some 139)), .inl x4, v5, v6] [] 1634 (Go 310 0 [.inr (.inl (some 1)), .inl (I 0 (x4 + 1)), .inl (I 0 (x4 + 2)), .inr (.inl (some 139)), vU] [] (mI h I)) := by
  refine (Go_aload (h := mI h I) (y := 315) (ip := 1621) (a := 0) (b := 1) (c := 0) (by decide +kernel) rfl).trans ?_
  refine (Go_aload (h := mI h I) (y := 315) (ip := 1622) (a := 0) (b := 0) (c := 0) (by decide +kernel) rfl).trans ?_
  refine (Go_iload (h := mI h I) (y := 315) (ip := 1623) (a := 0) (b := 4) (c := 0) (by decide +kernel) rfl).trans ?_
  refine (Go_const (h := mI h I) (y := 315) (ip := 1624) (a := 1) (b := 0) (c := 0) (by decide +kernel)).trans ?_
  refine (Go_ar (op := 4) (x := x4 + 1) (h := mI h I) (y := 315) (ip := 1625) (a := 0) (b := 0) (c := 0) (by decide +kernel) rfl (zar4 p0)).trans ?_
  refine (Go_ald (h := mI h I) (y := 315) (ip := 1626) (a := 0) (b := 0) (c := 0) (by decide +kernel) rfl (p1) rfl p2).trans ?_
  refine (Go_aload (h := mI h I) (y := 315) (ip := 1627) (a := 0) (b := 0) (c := 0) (by decide +kernel) rfl).trans ?_
  refine (Go_iload (h := mI h I) (y := 315) (ip := 1628) (a := 0) (b := 4) (c := 0) (by decide +kernel) rfl).trans ?_
  refine (Go_const (h := mI h I) (y := 315) (ip := 1629) (a := 2) (b := 0) (c := 0) (by decide +kernel)).trans ?_
  refine (Go_ar (op := 4) (x := x4 + 2) (h := mI h I) (y := 315) (ip := 1630) (a := 0) (b := 0) (c := 0) (by decide +kernel) rfl (zar4 p3)).trans ?_
  refine (Go_ald (h := mI h I) (y := 315) (ip := 1631) (a := 0) (b := 0) (c := 0) (by decide +kernel) rfl (p1) rfl p4).trans ?_
  refine (Go_aload (h := mI h I) (y := 315) (ip := 1632) (a := 0) (b := 3) (c := 0) (by decide +kernel) rfl).trans ?_
  refine (Go_call2 (h := mI h I) (y := 315) (ip := 1633) (a := 351) (z := 310) (c := 1) (as := [.inr (.inl (some 1)), .inl (I 0 (x4 + 1)), .inl (I 0 (x4 + 2)), .inr (.inl (some 139))]) (rest := []) (by decide +kernel) (by decide +kernel) rfl rfl rfl rfl).trans ?_
  rfl

theorem b315_1634 {h : HP} {I : Nat → Int → Int} {x4 : Int} {v5 : MV} {v6 : MV} {sx0 : Int} {L : Int} (p0 : -2147483648 ≤ x4 + 1 ∧ x4 + 1 < 2147483648) (p1 : hK h 0 = (6, L)) (p2 : 0 ≤ x4 + 1 ∧ x4 + 1 < L) (p3 : -2147483648 ≤ x4 + 2 ∧ x4 + 2 < 2147483648) (p4 : 0 ≤ x4 + 2 ∧ x4 + 2 < L) (p5 : LX 11 h 94) : Go 315 1634 [.inr (.inl (some 0)), .inr (.inl (some 1)), .inr (.inl (some 94)), .inr (.inl (some 139)), .inl x4, v5, v6] [.inl sx0] (mI h I) = caln 315 [.inr (.inl (some 0)), .inr (.inl (some 1)), .inr (.inl (some 94)), .inr (.inl (some 139)), .inl x4, .inl sx0, v6] [] 1647 (Go 267 0 [.inr (.inl (some 94)), .inl (I 0 (x4 + 1)), .inl (I 0 (x4 + 2))] [] (mI h I)) := by
  refine (Go_istore (h := mI h I) (y := 315) (ip := 1634) (a := 0) (b := 5) (c := 0) (by decide +kernel) rfl).trans ?_
  refine (Go_aload (h := mI h I) (y := 315) (ip := 1635) (a := 0) (b := 2) (c := 0) (by decide +kernel) rfl).trans ?_
  refine (Go_aload (h := mI h I) (y := 315) (ip := 1636) (a := 0) (b := 0) (c := 0) (by decide +kernel) rfl).trans ?_
  refine (Go_iload (h := mI h I) (y := 315) (ip := 1637) (a := 0) (b := 4) (c := 0) (by decide +kernel) rfl).trans ?_
  refine (Go_const (h := mI h I) (y := 315) (ip := 1638) (a := 1) (b := 0) (c := 0) (by decide +kernel)).trans ?_
  refine (Go_ar (op := 4) (x := x4 + 1) (h := mI h I) (y := 315) (ip := 1639) (a := 0) (b := 0) (c := 0) (by decide +kernel) rfl (zar4 p0)).trans ?_
  refine (Go_ald (h := mI h I) (y := 315) (ip := 1640) (a := 0) (b := 0) (c := 0) (by decide +kernel) rfl (p1) rfl p2).trans ?_
  refine (Go_aload (h := mI h I) (y := 315) (ip := 1641) (a := 0) (b := 0) (c := 0) (by decide +kernel) rfl).trans ?_
  refine (Go_iload (h := mI h I) (y := 315) (ip := 1642) (a := 0) (b := 4) (c := 0) (by decide +kernel) rfl).trans ?_
  refine (Go_const (h := mI h I) (y := 315) (ip := 1643) (a := 2) (b := 0) (c := 0) (by decide +kernel)).trans ?_
  refine (Go_ar (op := 4) (x := x4 + 2) (h := mI h I) (y := 315) (ip := 1644) (a := 0) (b := 0) (c := 0) (by decide +kernel) rfl (zar4 p3)).trans ?_
  refine (Go_ald (h := mI h I) (y := 315) (ip := 1645) (a := 0) (b := 0) (c := 0) (by decide +kernel) rfl (p1) rfl p4).trans ?_
  refine (Go_call2 (h := mI h I) (y := 315) (ip := 1646) (a := 352) (z := 267) (c := 0) (as := [.inr (.inl (some 94)), .inl (I 0 (x4 + 1)), .inl (I 0 (x4 + 2))]) (rest := []) (by decide +kernel) (by decide +kernel) rfl rfl (zrecv_v rfl (LX_t p5)) rfl).trans ?_
  rfl

theorem b315_1647 {h : HP} {I : Nat → Int → Int} {x4 : Int} {x5 : Int} {v6 : MV} {sx0 : Int} (p0 : LX 11 h 94) : Go 315 1647 [.inr (.inl (some 0)), .inr (.inl (some 1)), .inr (.inl (some 94)), .inr (.inl (some 139)), .inl x4, .inl x5, v6] [.inl sx0] (mI h I) = caln 315 [.inr (.inl (some 0)), .inr (.inl (some 1)), .inr (.inl (some 94)), .inr (.inl (some 139)), .inl x4, .inl x5, .inl sx0] [] 1650 (Go 162 0 [.inr (.inl (some 94))] [] (mI h I)) := by
  refine (Go_istore (h := mI h I) (y := 315) (ip := 1647) (a := 0) (b := 6) (c := 0) (by decide +kernel) rfl).trans ?_
  refine (Go_aload (h := mI h I) (y := 315) (ip := 1648) (a := 0) (b := 2) (c := 0) (by decide +kernel) rfl).trans ?_
  refine (Go_call2 (h := mI h I) (y := 315) (ip := 1649) (a := 276) (z := 162) (c := 0) (as := [.inr (.inl (some 94))]) (rest := []) (by decide +kernel) (by decide +kernel) rfl rfl (zrecv_v rfl (LX_t p0)) rfl).trans ?_
  rfl

theorem b315_1650 {h : HP} {I : Nat → Int → Int} {x4 : Int} {x5 : Int} {x6 : Int} {sx0 : Int} : Go 315 1650 [.inr (.inl (some 0)), .inr (.inl (some 1)), .inr (.inl (some 94)), .inr (.inl (some 139)), .inl x4, .inl x5, .inl x6] [.inl sx0] (mI h I) = if sx0 = x5 then Go 315 1654 [.inr (.inl (some 0)), .inr (.inl (some 1)), .inr (.inl (some 94)), .inr (.inl (some 139)), .inl x4, .inl x5, .inl x6] [] (mI h I) else Go 315 1652 [.inr (.inl (some 0)), .inr (.inl (some 1)), .inr (.inl (some 94)), .inr (.inl (some 139)), .inl x4, .inl x5, .inl x6] [] (mI h I) := by
  refine (Go_iload (h := mI h I) (y := 315) (ip := 1650) (a := 0) (b := 5) (c := 0) (by decide +kernel) rfl).trans ?_
  refine (Go_cmpeq (y := 315) (ip := 1651) (a := 0) (c := 1654) (by decide +kernel)).trans ?_
  rfl

theorem b315_1652 {h : HP} {I : Nat → Int → Int} {x4 : Int} {x5 : Int} {x6 : Int} : Go 315 1652 [.inr (.inl (some 0)), .inr (.inl (some 1)), .inr (.inl (some 94)), .inr (.inl (some 139)), .inl x4, .inl x5, .inl x6] [] (mI h I) = some (mI h I, .inl (some (.inl 0))) := by
  refine (Go_const (h := mI h I) (y := 315) (ip := 1652) (a := 0) (b := 0) (c := 0) (by decide +kernel)).trans ?_
  refine (Go_iret (h := mI h I) (y := 315) (ip := 1653) (a := 0) (b := 0) (c := 0) (by decide +kernel) (Or.inr ⟨rfl, by decide⟩)).trans ?_
  rfl

theorem b315_1654 {h : HP} {I : Nat → Int → Int} {x4 : Int} {x5 : Int} {x6 : Int} : Go 315 1654 [.inr (.inl (some 0)), .inr (.inl (some 1)), .inr (.inl (some 94)), .inr (.inl (some 139)), .inl x4, .inl x5, .inl x6] [] (mI h I) = if x5 ≠ 0 then Go 315 1665 [.inr (.inl (some 0)), .inr (.inl (some 1)), .inr (.inl (some 94)), .inr (.inl (some 139)), .inl x4, .inl x5, .inl x6] [] (mI h I) else Go 315 1656 [.inr (.inl (some 0)), .inr (.inl (some 1)), .inr (.inl (some 94)), .inr (.inl (some 139)), .inl x4, .inl x5, .inl x6] [] (mI h I) := by
  refine (Go_iload (h := mI h I) (y := 315) (ip := 1654) (a := 0) (b := 5) (c := 0) (by decide +kernel) rfl).trans ?_
  refine (Go_ifne (y := 315) (ip := 1655) (a := 0) (c := 1665) (by decide +kernel)).trans ?_
  rfl

theorem b315_1656 {h : HP} {I : Nat → Int → Int} {x4 : Int} {x5 : Int} {x6 : Int} (p0 : hK h 139 = (2, 1)) : Go 315 1656 [.inr (.inl (some 0)), .inr (.inl (some 1)), .inr (.inl (some 94)), .inr (.inl (some 139)), .inl x4, .inl x5, .inl x6] [] (mI h I) = if (if I 139 0 < x6 then -1 else if I 139 0 = x6 then 0 else 1 : Int) = 0 then Go 315 1665 [.inr (.inl (some 0)), .inr (.inl (some 1)), .inr (.inl (some 94)), .inr (.inl (some 139)), .inl x4, .inl x5, .inl x6] [] (mI h I) else Go 315 1663 [.inr (.inl (some 0)), .inr (.inl (some 1)), .inr (.inl (some 94)), .inr (.inl (some 139)), .inl x4, .inl x5, .inl x6] [] (mI h I) := by
  refine (Go_aload (h := mI h I) (y := 315) (ip := 1656) (a := 0) (b := 3) (c := 0) (by decide +kernel) rfl).trans ?_
  refine (Go_const (h := mI h I) (y := 315) (ip := 1657) (a := 0) (b := 0) (c := 0) (by decide +kernel)).trans ?_
  refine (Go_ldl (h := mI h I) (y := 315) (ip := 1658) (a := 0) (c := 0) (by decide +kernel) (p0) (by decide)).trans ?_
  refine (Go_iload (h := mI h I) (y := 315) (ip := 1659) (a := 0) (b := 6) (c := 0) (by decide +kernel) rfl).trans ?_
  refine (Go_i2l (h := mI h I) (y := 315) (ip := 1660) (a := 0) (b := 0) (c := 0) (by decide +kernel)).trans ?_
  refine (Go_lcmp (h := mI h I) (y := 315) (ip := 1661) (a := 0) (b := 0) (c := 0) (by decide +kernel)).trans ?_
  refine (Go_ifeq (y := 315) (ip := 1662) (a := 0) (c := 1665) (by decide +kernel)).trans ?_
  rfl

theorem b315_1663 {h : HP} {I : Nat → Int → Int} {x4 : Int} {x5 : Int} {x6 : Int} : Go 315 1663 [.inr (.inl (some 0)), .inr (.inl (some 1)), .inr (.inl (some 94)), .inr (.inl (some 139)), .inl x4, .inl x5, .inl x6] [] (mI h I) = some (mI h I, .inl (some (.inl 0))) := by
  refine (Go_const (h := mI h I) (y := 315) (ip := 1663) (a := 0) (b := 0) (c := 0) (by decide +kernel)).trans ?_
  refine (Go_iret (h := mI h I) (y := 315) (ip := 1664) (a := 0) (b := 0) (c := 0) (by decide +kernel) (Or.inr ⟨rfl, by decide⟩)).trans ?_
  rfl

theorem b315_1665 {h : HP} {I : Nat → Int → Int} {x4 : Int} {x5 : Int} {x6 : Int} : Go 315 1665 [.inr (.inl (some 0)), .inr (.inl (some 1)), .inr (.inl (some 94)), .inr (.inl (some 139)), .inl x4, .inl x5, .inl x6] [] (mI h I) = Go 315 1826 [.inr (.inl (some 0)), .inr (.inl (some 1)), .inr (.inl (some 94)), .inr (.inl (some 139)), .inl x4, .inl x5, .inl x6] [] (mI h I) := by
  refine (Go_goto (h := mI h I) (y := 315) (ip := 1665) (a := 0) (b := 0) (c := 1826) (by decide +kernel)).trans ?_
  rfl

theorem b315_1666 {h : HP} {I : Nat → Int → Int} {x4 : Int} {v5 : MV} {v6 : MV} {L : Int} (p0 : -2147483648 ≤ x4 + 1 ∧ x4 + 1 < 2147483648) (p1 : hK h 0 = (6, L)) (p2 : 0 ≤ x4 + 1 ∧ x4 + 1 < L) (p3 : -2147483648 ≤ x4 + 2 ∧ x4 + 2 < 2147483648) (p4 : 0 ≤ x4 + 2 ∧ x4 + 2 < L) : Go 315 1666 [.inr (.inl (some 0)), .inr (.inl (some 1)), .inr (.inl (some 94)), .inr (.inl (some 139)), .inl x4, v5, v6] [] (mI h I) = caln 315 [.inr (.inl (some 0)), .inr (.inl (some 1)), .inr (.inl (some 94)), .inr (.inl (some 139)), .inl x4, v5, v6] [] 1679 (Go 311 0 [.inr (.inl (some 1)), .inl (I 0 (x4 + 1)), .inl (I 0 (x4 + 2)), .inr (.inl (some 139)), vU] [] (mI h I)) := by
  refine (Go_aload (h := mI h I) (y := 315) (ip := 1666) (a := 0) (b := 1) (c := 0) (by decide +kernel) rfl).trans ?_
  refine (Go_aload (h := mI h I) (y := 315) (ip := 1667) (a := 0) (b := 0) (c := 0) (by decide +kernel) rfl).trans ?_
  refine (Go_iload (h := mI h I) (y := 315) (ip := 1668) (a := 0) (b := 4) (c := 0) (by decide +kernel) rfl).trans ?_
  refine (Go_const (h := mI h I) (y := 315) (ip := 1669) (a := 1) (b := 0) (c := 0) (by decide +kernel)).trans ?_
  refine (Go_ar (op := 4) (x := x4 + 1) (h := mI h I) (y := 315) (ip := 1670) (a := 0) (b := 0) (c := 0) (by decide +kernel) rfl (zar4 p0)).trans ?_
  refine (Go_ald (h := mI h I) (y := 315) (ip := 1671) (a := 0) (b := 0) (c := 0) (by decide +kernel) rfl (p1) rfl p2).trans ?_
  refine (Go_aload (h := mI h I) (y := 315) (ip := 1672) (a := 0) (b := 0) (c := 0) (by decide +kernel) rfl).trans ?_
  refine (Go_iload (h := mI h I) (y := 315) (ip := 1673) (a := 0) (b := 4) (c := 0) (by decide +kernel) rfl).trans ?_
  refine (Go_const (h := mI h I) (y := 315) (ip := 1674) (a := 2) (b := 0) (c := 0) (by decide +kernel)).trans ?_
  refine (Go_ar (op := 4) (x := x4 + 2) (h := mI h I) (y := 315) (ip := 1675) (a := 0) (b := 0) (c := 0) (by decide +kernel) rfl (zar4 p3)).trans ?_
  refine (Go_ald (h := mI h I) (y := 315) (ip := 1676) (a := 0) (b := 0) (c := 0) (by decide +kernel) rfl (p1) rfl p4).trans ?_
  refine (Go_aload (h := mI h I) (y := 315) (ip := 1677) (a := 0) (b := 3) (c := 0) (by decide +kernel) rfl).trans ?_
  refine (Go_call2 (h := mI h I) (y := 315) (ip := 1678) (a := 353) (z := 311) (c := 1) (as := [.inr (.inl (some 1)), .inl (I 0 (x4 + 1)), .inl (I 0 (x4 + 2)), .inr (.inl (some 139))]) (rest := []) (by decide +kernel) (by decide +kernel) rfl rfl rfl rfl).trans ?_
  rfl

theorem b315_1679 {h : HP} {I : Nat → Int → Int} {x4 : Int} {v5 : MV} {v6 : MV} {sx0 : Int} {L : Int} (p0 : -2147483648 ≤ x4 + 1 ∧ x4 + 1 < 2147483648) (p1 : hK h 0 = (6, L)) (p2 : 0 ≤ x4 + 1 ∧ x4 + 1 < L) (p3 : -2147483648 ≤ x4 + 2 ∧ x4 + 2 < 2147483648) (p4 : 0 ≤ x4 + 2 ∧ x4 + 2 < L) (p5 : LX 11 h 94) : Go 315 1679 [.inr (.inl (some 0)), .inr (.inl (some 1)), .inr (.inl (some 94)), .inr (.inl (some 139)), .inl x4, v5, v6] [.inl sx0] (mI h I) = caln 315 [.inr (.inl (some 0)), .inr (.inl (some 1)), .inr (.inl (some 94)), .inr (.inl (some 139)), .inl x4, .inl sx0, v6] [] 1692 (Go 268 0 [.inr (.inl (some 94)), .inl (I 0 (x4 + 1)), .inl (I 0 (x4 + 2)), vU, vU, vU, vU, vU, vU] [] (mI h I)) := by
  refine (Go_istore (h := mI h I) (y := 315) (ip := 1679) (a := 0) (b := 5) (c := 0) (by decide +kernel) rfl).trans ?_
  refine (Go_aload (h := mI h I) (y := 315) (ip := 1680) (a := 0) (b := 2) (c := 0) (by decide +kernel) rfl).trans ?_
  refine (Go_aload (h := mI h I) (y := 315) (ip := 1681) (a := 0) (b := 0) (c := 0) (by decide +kernel) rfl).trans ?_
  refine (Go_iload (h := mI h I) (y := 315) (ip := 1682) (a := 0) (b := 4) (c := 0) (by decide +kernel) rfl).trans ?_
  refine (Go_const (h := mI h I) (y := 315) (ip := 1683) (a := 1) (b := 0) (c := 0) (by decide +kernel)).trans ?_
  refine (Go_ar (op := 4) (x := x4 + 1) (h := mI h I) (y := 315) (ip := 1684) (a := 0) (b := 0) (c := 0) (by decide +kernel) rfl (zar4 p0)).trans ?_
  refine (Go_ald (h := mI h I) (y := 315) (ip := 1685) (a := 0) (b := 0) (c := 0) (by decide +kernel) rfl (p1) rfl p2).trans ?_
  refine (Go_aload (h := mI h I) (y := 315) (ip := 1686) (a := 0) (b := 0) (c := 0) (by decide +kernel) rfl).trans ?_
  refine (Go_iload (h := mI h I) (y := 315) (ip := 1687) (a := 0) (b := 4) (c := 0) (by decide +kernel) rfl).trans ?_
  refine (Go_const (h := mI h I) (y := 315) (ip := 1688) (a := 2) (b := 0) (c := 0) (by decide +kernel)).trans ?_
  refine (Go_ar (op := 4) (x := x4 + 2) (h := mI h I) (y := 315) (ip := 1689) (a := 0) (b := 0) (c := 0) (by decide +kernel) rfl (zar4 p3)).trans ?_
  refine (Go_ald (h := mI h I) (y := 315) (ip := 1690) (a := 0) (b := 0) (c := 0) (by decide +kernel) rfl (p1) rfl p4).trans ?_
  refine (Go_call2 (h := mI h I) (y := 315) (ip := 1691) (a := 354) (z := 268) (c := 0) (as := [.inr (.inl (some 94)), .inl (I 0 (x4 + 1)), .inl (I 0 (x4 + 2))]) (rest := []) (by decide +kernel) (by decide +kernel) rfl rfl (zrecv_v rfl (LX_t p5)) rfl).trans ?_
  rfl

theorem b315_1692 {h : HP} {I : Nat → Int → Int} {x4 : Int} {x5 : Int} {v6 : MV} {sx0 : Int} (p0 : LX 11 h 94) : Go 315 1692 [.inr (.inl (some 0)), .inr (.inl (some 1)), .inr (.inl (some 94)), .inr (.inl (some 139)), .inl x4, .inl x5, v6] [.inl sx0] (mI h I) = caln 315 [.inr (.inl (some 0)), .inr (.inl (some 1)), .inr (.inl (some 94)), .inr (.inl (some 139)), .inl x4, .inl x5, .inl sx0] [] 1695 (Go 162 0 [.inr (.inl (some 94))] [] (mI h I)) := by
  refine (Go_istore (h := mI h I) (y := 315) (ip := 1692) (a := 0) (b := 6) (c := 0) (by decide +kernel) rfl).trans ?_
  refine (Go_aload (h := mI h I) (y := 315) (ip := 1693) (a := 0) (b := 2) (c := 0) (by decide +kernel) rfl).trans ?_
  refine (Go_call2 (h := mI h I) (y := 315) (ip := 1694) (a := 276) (z := 162) (c := 0) (as := [.inr (.inl (some 94))]) (rest := []) (by decide +kernel) (by decide +kernel) rfl rfl (zrecv_v rfl (LX_t p0)) rfl).trans ?_
  rfl

theorem b315_1695 {h : HP} {I : Nat → Int → Int} {x4 : Int} {x5 : Int} {x6 : Int} {sx0 : Int} : Go 315 1695 [.inr (.inl (some 0)), .inr (.inl (some 1)), .inr (.inl (some 94)), .inr (.inl (some 139)), .inl x4, .inl x5, .inl x6] [.inl sx0] (mI h I) = if sx0 = x5 then Go 315 1699 [.inr (.inl (some 0)), .inr (.inl (some 1)), .inr (.inl (some 94)), .inr (.inl (some 139)), .inl x4, .inl x5, .inl x6] [] (mI h I) else Go 315 1697 [.inr (.inl (some 0)), .inr (.inl (some 1)), .inr (.inl (some 94)), .inr (.inl (some 139)), .inl x4, .inl x5, .inl x6] [] (mI h I) := by
  refine (Go_iload (h := mI h I) (y := 315) (ip := 1695) (a := 0) (b := 5) (c := 0) (by decide +kernel) rfl).trans ?_
  refine (Go_cmpeq (y := 315) (ip := 1696) (a := 0) (c := 1699) (by decide +kernel)).trans ?_
  rfl

theorem b315_1697 {h : HP} {I : Nat → Int → Int} {x4 : Int} {x5 : Int} {x6 : Int} : Go 315 1697 [.inr (.inl (some 0)), .inr (.inl (some 1)), .inr (.inl (some 94)), .inr (.inl (some 139)), .inl x4, .inl x5, .inl x6] [] (mI h I) = some (mI h I, .inl (some (.inl 0))) := by
  refine (Go_const (h := mI h I) (y := 315) (ip := 1697) (a := 0) (b := 0) (c := 0) (by decide +kernel)).trans ?_
  refine (Go_iret (h := mI h I) (y := 315) (ip := 1698) (a := 0) (b := 0) (c := 0) (by decide +kernel) (Or.inr ⟨rfl, by decide⟩)).trans ?_
  rfl

theorem b315_1699 {h : HP} {I : Nat → Int → Int} {x4 : Int} {x5 : Int} {x6 : Int} : Go 315 1699 [.inr (.inl (some 0)), .inr (.inl (some 1)), .inr (.inl (some 94)), .inr (.inl (some 139)), .inl x4, .inl x5, .inl x6] [] (mI h I) = if x5 ≠ 0 then Go 315 1710 [.inr (.inl (some 0)), .inr (.inl (some 1)), .inr (.inl (some 94)), .inr (.inl (some 139)), .inl x4, .inl x5, .inl x6] [] (mI h I) else Go 315 1701 [.inr (.inl (some 0)), .inr (.inl (some 1)), .inr (.inl (some 94)), .inr (.inl (some 139)), .inl x4, .inl x5, .inl x6] [] (mI h I) := by
  refine (Go_iload (h := mI h I) (y := 315) (ip := 1699) (a := 0) (b := 5) (c := 0) (by decide +kernel) rfl).trans ?_
  refine (Go_ifne (y := 315) (ip := 1700) (a := 0) (c := 1710) (by decide +kernel)).trans ?_
  rfl

theorem b315_1701 {h : HP} {I : Nat → Int → Int} {x4 : Int} {x5 : Int} {x6 : Int} (p0 : hK h 139 = (2, 1)) : Go 315 1701 [.inr (.inl (some 0)), .inr (.inl (some 1)), .inr (.inl (some 94)), .inr (.inl (some 139)), .inl x4, .inl x5, .inl x6] [] (mI h I) = if (if I 139 0 < x6 then -1 else if I 139 0 = x6 then 0 else 1 : Int) = 0 then Go 315 1710 [.inr (.inl (some 0)), .inr (.inl (some 1)), .inr (.inl (some 94)), .inr (.inl (some 139)), .inl x4, .inl x5, .inl x6] [] (mI h I) else Go 315 1708 [.inr (.inl (some 0)), .inr (.inl (some 1)), .inr (.inl (some 94)), .inr (.inl (some 139)), .inl x4, .inl x5, .inl x6] [] (mI h I) := by
  refine (Go_aload (h := mI h I) (y := 315) (ip := 1701) (a := 0) (b := 3) (c := 0) (by decide +kernel) rfl).trans ?_
  refine (Go_const (h := mI h I) (y := 315) (ip := 1702) (a := 0) (b := 0) (c := 0) (by decide +kernel)).trans ?_
  refine (Go_ldl (h := mI h I) (y := 315) (ip := 1703) (a := 0) (c := 0) (by decide +kernel) (p0) (by decide)).trans ?_
  refine (Go_iload (h := mI h I) (y := 315) (ip := 1704) (a := 0) (b := 6) (c := 0) (by decide +kernel) rfl).trans ?_
  refine (Go_i2l (h := mI h I) (y := 315) (ip := 1705) (a := 0) (b := 0) (c := 0) (by decide +kernel)).trans ?_
  refine (Go_lcmp (h := mI h I) (y := 315) (ip := 1706) (a := 0) (b := 0) (c := 0) (by decide +kernel)).trans ?_
  refine (Go_ifeq (y := 315) (ip := 1707) (a := 0) (c := 1710) (by decide +kernel)).trans ?_
  rfl

theorem b315_1708 {h : HP} {I : Nat → Int → Int} {x4 : Int} {x5 : Int} {x6 : Int} : Go 315 1708 [.inr (.inl (some 0)), .inr (.inl (some 1)), .inr (.inl (some 94)), .inr (.inl (some 139)), .inl x4, .inl x5, .inl x6] [] (mI h I) = some (mI h I, .inl (some (.inl 0))) := by
  refine (Go_const (h := mI h I) (y := 315) (ip := 1708) (a := 0) (b := 0) (c := 0) (by decide +kernel)).trans ?_
  refine (Go_iret (h := mI h I) (y := 315) (ip := 1709) (a := 0) (b := 0) (c := 0) (by decide +kernel) (Or.inr ⟨rfl, by decide⟩)).trans ?_
  rfl

theorem b315_1710 {h : HP} {I : Nat → Int → Int} {x4 : Int} {x5 : Int} {x6 : Int} : Go 315 1710 [.inr (.inl (some 0)), .inr (.inl (some 1)), .inr (.inl (some 94)), .inr (.inl (some 139)), .inl x4, .inl x5, .inl x6] [] (mI h I) = Go 315 1826 [.inr (.inl (some 0)), .inr (.inl (some 1)), .inr (.inl (some 94)), .inr (.inl (some 139)), .inl x4, .inl x5, .inl x6] [] (mI h I) := by
  refine (Go_goto (h := mI h I) (y := 315) (ip := 1710) (a := 0) (b := 0) (c := 1826) (by decide +kernel)).trans ?_
  rfl

theorem b315_1711 {h : HP} {I : Nat → Int → Int} {x4 : Int} {v5 : MV} {v6 : MV} {L : Int} (p0 : -2147483648 ≤ x4 + 1 ∧ x4 + 1 < 2147483648) (p1 : hK h 0 = (6, L)) (p2 : 0 ≤ x4 + 1 ∧ x4 + 1 < L) : Go 315 1711 [.inr (.inl (some 0)), .inr (.inl (some 1)), .inr (.inl (some 94)), .inr (.inl (some 139)), .inl x4, v5, v6] [] (mI h I) = caln 315 [.inr (.inl (some 0)), .inr (.inl (some 1)), .inr (.inl (some 94)), .inr (.inl (some 139)), .inl x4, v5, v6] [] 1719 (Go 312 0 [.inr (.inl (some 1)), .inl (I 0 (x4 + 1)), .inr (.inl (some 139)), vU] [] (mI h I)) := by
  refine (Go_aload (h := mI h I) (y := 315) (ip := 1711) (a := 0) (b := 1) (c := 0) (by decide +kernel) rfl).trans ?_
  refine (Go_aload (h := mI h I) (y := 315) (ip := 1712) (a := 0) (b := 0) (c := 0) (by decide +kernel) rfl).trans ?_
  refine (Go_iload (h := mI h I) (y := 315) (ip := 1713) (a := 0) (b := 4) (c := 0) (by decide +kernel) rfl).trans ?_
  refine (Go_const (h := mI h I) (y := 315) (ip := 1714) (a := 1) (b := 0) (c := 0) (by decide +kernel)).trans ?_
  refine (Go_ar (op := 4) (x := x4 + 1) (h := mI h I) (y := 315) (ip := 1715) (a := 0) (b := 0) (c := 0) (by decide +kernel) rfl (zar4 p0)).trans ?_
  refine (Go_ald (h := mI h I) (y := 315) (ip := 1716) (a := 0) (b := 0) (c := 0) (by decide +kernel) rfl (p1) rfl p2).trans ?_
  refine (Go_aload (h := mI h I) (y := 315) (ip := 1717) (a := 0) (b := 3) (c := 0) (by decide +kernel) rfl).trans ?_
  refine (Go_call2 (h := mI h I) (y := 315) (ip := 1718) (a := 355) (z := 312) (c := 1) (as := [.inr (.inl (some 1)), .inl (I 0 (x4 + 1)), .inr (.inl (some 139))]) (rest := []) (by decide +kernel) (by decide +kernel) rfl rfl rfl rfl).trans ?_
  rfl

theorem b315_1719 {h : HP} {I : Nat → Int → Int} {x4 : Int} {v5 : MV} {v6 : MV} {sx0 : Int} {L : Int} (p0 : -2147483648 ≤ x4 + 1 ∧ x4 + 1 < 2147483648) (p1 : hK h 0 = (6, L)) (p2 : 0 ≤ x4 + 1 ∧ x4 + 1 < L) (p3 : LX 11 h 94) : Go 315 1719 [.inr (.inl (some 0)), .inr (.inl (some 1)), .inr (.inl (some 94)), .inr (.inl (some 139)), .inl x4, v5, v6] [.inl sx0] (mI h I) = caln 315 [.inr (.inl (some 0)), .inr (.inl (some 1)), .inr (.inl (some 94)), .inr (.inl (some 139)), .inl x4, .inl sx0, v6] [] 1727 (Go 270 0 [.inr (.inl (some 94)), .inl (I 0 (x4 + 1))] [] (mI h I)) := by
  refine (Go_istore (h := mI h I) (y := 315) (ip := 1719) (a := 0) (b := 5) (c := 0) (by decide +kernel) rfl).trans ?_
  refine (Go_aload (h := mI h I) (y := 315) (ip := 1720) (a := 0) (b := 2) (c := 0) (by decide +kernel) rfl).trans ?_
  refine (Go_aload (h := mI h I) (y := 315) (ip := 1721) (a := 0) (b := 0) (c := 0) (by decide +kernel) rfl).trans ?_
  refine (Go_iload (h := mI h I) (y := 315) (ip := 1722) (a := 0) (b := 4) (c := 0) (by decide +kernel) rfl).trans ?_
  refine (Go_const (h := mI h I) (y := 315) (ip := 1723) (a := 1) (b := 0) (c := 0) (by decide +kernel)).trans ?_
  refine (Go_ar (op := 4) (x := x4 + 1) (h := mI h I) (y := 315) (ip := 1724) (a := 0) (b := 0) (c := 0) (by decide +kernel) rfl (zar4 p0)).trans ?_
  refine (Go_ald (h := mI h I) (y := 315) (ip := 1725) (a := 0) (b := 0) (c := 0) (by decide +kernel) rfl (p1) rfl p2).trans ?_
  refine (Go_call2 (h := mI h I) (y := 315) (ip := 1726) (a := 356) (z := 270) (c := 0) (as := [.inr (.inl (some 94)), .inl (I 0 (x4 + 1))]) (rest := []) (by decide +kernel) (by decide +kernel) rfl rfl (zrecv_v rfl (LX_t p3)) rfl).trans ?_
  rfl

theorem b315_1727 {h : HP} {I : Nat → Int → Int} {x4 : Int} {x5 : Int} {v6 : MV} {sx0 : Int} (p0 : LX 11 h 94) : Go 315 1727 [.inr (.inl (some 0)), .inr (.inl (some 1)), .inr (.inl (some 94)), .inr (.inl (some 139)), .inl x4, .inl x5, v6] [.inl sx0] (mI h I) = caln 315 [.inr (.inl (some 0)), .inr (.inl (some 1)), .inr (.inl (some 94)), .inr (.inl (some 139)), .inl x4, .inl x5, .inl sx0] [] 1730 (Go 162 0 [.inr (.inl (some 94))] [] (mI h I)) := by
  refine (Go_istore (h := mI h I) (y := 315) (ip := 1727) (a := 0) (b := 6) (c := 0) (by decide +kernel) rfl).trans ?_
  refine (Go_aload (h := mI h I) (y := 315) (ip := 1728) (a := 0) (b := 2) (c := 0) (by decide +kernel) rfl).trans ?_
  refine (Go_call2 (h := mI h I) (y := 315) (ip := 1729) (a := 276) (z := 162) (c := 0) (as := [.inr (.inl (some 94))]) (rest := []) (by decide +kernel) (by decide +kernel) rfl rfl (zrecv_v rfl (LX_t p0)) rfl).trans ?_
  rfl

theorem b315_1730 {h : HP} {I : Nat → Int → Int} {x4 : Int} {x5 : Int} {x6 : Int} {sx0 : Int} : Go 315 1730 [.inr (.inl (some 0)), .inr (.inl (some 1)), .inr (.inl (some 94)), .inr (.inl (some 139)), .inl x4, .inl x5, .inl x6] [.inl sx0] (mI h I) = if sx0 = x5 then Go 315 1734 [.inr (.inl (some 0)), .inr (.inl (some 1)), .inr (.inl (some 94)), .inr (.inl (some 139)), .inl x4, .inl x5, .inl x6] [] (mI h I) else Go 315 1732 [.inr (.inl (some 0)), .inr (.inl (some 1)), .inr (.inl (some 94)), .inr (.inl (some 139)), .inl x4, .inl x5, .inl x6] [] (mI h I) := by
  refine (Go_iload (h := mI h I) (y := 315) (ip := 1730) (a := 0) (b := 5) (c := 0) (by decide +kernel) rfl).trans ?_
  refine (Go_cmpeq (y := 315) (ip := 1731) (a := 0) (c := 1734) (by decide +kernel)).trans ?_
  rfl

theorem b315_1732 {h : HP} {I : Nat → Int → Int} {x4 : Int} {x5 : Int} {x6 : Int} : Go 315 1732 [.inr (.inl (some 0)), .inr (.inl (some 1)), .inr (.inl (some 94)), .inr (.inl (some 139)), .inl x4, .inl x5, .inl x6] [] (mI h I) = some (mI h I, .inl (some (.inl 0))) := by
  refine (Go_const (h := mI h I) (y := 315) (ip := 1732) (a := 0) (b := 0) (c := 0) (by decide +kernel)).trans ?_
  refine (Go_iret (h := mI h I) (y := 315) (ip := 1733) (a := 0) (b := 0) (c := 0) (by decide +kernel) (Or.inr ⟨rfl, by decide⟩)).trans ?_
  rfl

theorem b315_1734 {h : HP} {I : Nat → Int → Int} {x4 : Int} {x5 : Int} {x6 : Int} : Go 315 1734 [.inr (.inl (some 0)), .inr (.inl (some 1)), .inr (.inl (some 94)), .inr (.inl (some 139)), .inl x4, .inl x5, .inl x6] [] (mI h I) = if x5 ≠ 0 then Go 315 1745 [.inr (.inl (some 0)), .inr (.inl (some 1)), .inr (.inl (some 94)), .inr (.inl (some 139)), .inl x4, .inl x5, .inl x6] [] (mI h I) else Go 315 1736 [.inr (.inl (some 0)), .inr (.inl (some 1)), .inr (.inl (some 94)), .inr (.inl (some 139)), .inl x4, .inl x5, .inl x6] [] (mI h I) := by
  refine (Go_iload (h := mI h I) (y := 315) (ip := 1734) (a := 0) (b := 5) (c := 0) (by decide +kernel) rfl).trans ?_
  refine (Go_ifne (y := 315) (ip := 1735) (a := 0) (c := 1745) (by decide +kernel)).trans ?_
  rfl

theorem b315_1736 {h : HP} {I : Nat → Int → Int} {x4 : Int} {x5 : Int} {x6 : Int} (p0 : hK h 139 = (2, 1)) : Go 315 1736 [.inr (.inl (some 0)), .inr (.inl (some 1)), .inr (.inl (some 94)), .inr (.inl (some 139)), .inl x4, .inl x5, .inl x6] [] (mI h I) = if (if I 139 0 < x6 then -1 else if I 139 0 = x6 then 0 else 1 : Int) = 0 then Go 315 1745 [.inr (.inl (some 0)), .inr (.inl (some 1)), .inr (.inl (some 94)), .inr (.inl (some 139)), .inl x4, .inl x5, .inl x6] [] (mI h I) else Go 315 1743 [.inr (.inl (some 0)), .inr (.inl (some 1)), .inr (.inl (some 94)), .inr (.inl (some 139)), .inl x4, .inl x5, .inl x6] [] (mI h I) := by
  refine (Go_aload (h := mI h I) (y := 315) (ip := 1736) (a := 0) (b := 3) (c := 0) (by decide +kernel) rfl).trans ?_
  refine (Go_const (h := mI h I) (y := 315) (ip := 1737) (a := 0) (b := 0) (c := 0) (by decide +kernel)).trans ?_
  refine (Go_ldl (h := mI h I) (y := 315) (ip := 1738) (a := 0) (c := 0) (by decide +kernel) (p0) (by decide)).trans ?_
  refine (Go_iload (h := mI h I) (y := 315) (ip := 1739) (a := 0) (b := 6) (c := 0) (by decide +kernel) rfl).trans ?_
  refine (Go_i2l (h := mI h I) (y := 315) (ip := 1740) (a := 0) (b := 0) (c := 0) (by decide +kernel)).trans ?_
  refine (Go_lcmp (h := mI h I) (y := 315) (ip := 1741) (a := 0) (b := 0) (c := 0) (by decide +kernel)).trans ?_
  refine (Go_ifeq (y := 315) (ip := 1742) (a := 0) (c := 1745) (by decide +kernel)).trans ?_
  rfl

theorem b315_1743 {h : HP} {I : Nat → Int → Int} {x4 : Int} {x5 : Int} {x6 : Int} : Go 315 1743 [.inr (.inl (some 0)), .inr (.inl (some 1)), .inr (.inl (some 94)), .inr (.inl (some 139)), .inl x4, .inl x5, .inl x6] [] (mI h I) = some (mI h I, .inl (some (.inl 0))) := by
  refine (Go_const (h := mI h I) (y := 315) (ip := 1743) (a := 0) (b := 0) (c := 0) (by decide +kernel)).trans ?_
  refine (Go_iret (h := mI h I) (y := 315) (ip := 1744) (a := 0) (b := 0) (c := 0) (by decide +kernel) (Or.inr ⟨rfl, by decide⟩)).trans ?_
  rfl

theorem b315_1745 {h : HP} {I : Nat → Int → Int} {x4 : Int} {x5 : Int} {x6 : Int} : Go 315 1745 [.inr (.inl (some 0)), .inr (.inl (some 1)), .inr (.inl (some 94)), .inr (.inl (some 139)), .inl x4, .inl x5, .inl x6] [] (mI h I) = Go 315 1826 [.inr (.inl (some 0)), .inr (.inl (some 1)), .inr (.inl (some 94)), .inr (.inl (some 139)), .inl x4, .inl x5, .inl x6] [] (mI h I) := by
  refine (Go_goto (h := mI h I) (y := 315) (ip := 1745) (a := 0) (b := 0) (c := 1826) (by decide +kernel)).trans ?_
  rfl

theorem b315_1746 {h : HP} {I : Nat → Int → Int} {x4 : Int} {v5 : MV} {v6 : MV} {L : Int} (p0 : -2147483648 ≤ x4 + 1 ∧ x4 + 1 < 2147483648) (p1 : hK h 0 = (6, L)) (p2 : 0 ≤ x4 + 1 ∧ x4 + 1 < L) (p3 : -2147483648 ≤ x4 + 2 ∧ x4 + 2 < 2147483648) (p4 : 0 ≤ x4 + 2 ∧ x4 + 2 < L) : Go 315 1746 [.inr (.inl (some 0)), .inr (.inl (some 1)), .inr (.inl (some 94)), .inr (.inl (some 139)), .inl x4, v5, v6] [] (mI h I) = caln 315 [.inr (.inl (some 0)), .inr (.inl (some 1)), .inr (.inl (some 94)), .inr (.inl (some 139)), .inl x4, v5, v6] [] 1759 (Go 313 0 [.inr (.inl (some 1)), .inl (I 0 (x4 + 1)), .inl (I 0 (x4 + 2)), .inr (.inl (some 139)), vU] [] (mI h I)) := by
  refine (Go_aload (h := mI h I) (y := 315) (ip := 1746) (a := 0) (b := 1) (c := 0) (by decide +kernel) rfl).trans ?_
  refine (Go_aload (h := mI h I) (y := 315) (ip := 1747) (a := 0) (b := 0) (c := 0) (by decide +kernel) rfl).trans ?_
  refine (Go_iload (h := mI h I) (y := 315) (ip := 1748) (a := 0) (b := 4) (c := 0) (by decide +kernel) rfl).trans ?_
  refine (Go_const (h := mI h I) (y := 315) (ip := 1749) (a := 1) (b := 0) (c := 0) (by decide +kernel)).trans ?_
  refine (Go_ar (op := 4) (x := x4 + 1) (h := mI h I) (y := 315) (ip := 1750) (a := 0) (b := 0) (c := 0) (by decide +kernel) rfl (zar4 p0)).trans ?_
  refine (Go_ald (h := mI h I) (y := 315) (ip := 1751) (a := 0) (b := 0) (c := 0) (by decide +kernel) rfl (p1) rfl p2).trans ?_
  refine (Go_aload (h := mI h I) (y := 315) (ip := 1752) (a := 0) (b := 0) (c := 0) (by decide +kernel) rfl).trans ?_
  refine (Go_iload (h := mI h I) (y := 315) (ip := 1753) (a := 0) (b := 4) (c := 0) (by decide +kernel) rfl).trans ?_
  refine (Go_const (h := mI h I) (y := 315) (ip := 1754) (a := 2) (b := 0) (c := 0) (by decide +kernel)).trans ?_
  refine (Go_ar (op := 4) (x := x4 + 2) (h := mI h I) (y := 315) (ip := 1755) (a := 0) (b := 0) (c := 0) (by decide +kernel) rfl (zar4 p3)).trans ?_
  refine (Go_ald (h := mI h I) (y := 315) (ip := 1756) (a := 0) (b := 0) (c := 0) (by decide +kernel) rfl (p1) rfl p4).trans ?_
  refine (Go_aload (h := mI h I) (y := 315) (ip := 1757) (a := 0) (b := 3) (c := 0) (by decide +kernel) rfl).trans ?_
  refine (Go_call2 (h := mI h I) (y := 315) (ip := 1758) (a := 357) (z := 313) (c := 1) (as := [.inr (.inl (some 1)), .inl (I 0 (x4 + 1)), .inl (I 0 (x4 + 2)), .inr (.inl (some 139))]) (rest := []) (by decide +kernel) (by decide +kernel) rfl rfl rfl rfl).trans ?_
  rfl

theorem b315_1759 {h : HP} {I : Nat → Int → Int} {x4 : Int} {v5 : MV} {v6 : MV} {sx0 : Int} {L : Int} (p0 : -2147483648 ≤ x4 + 1 ∧ x4 + 1 < 2147483648) (p1 : hK h 0 = (6, L)) (p2 : 0 ≤ x4 + 1 ∧ x4 + 1 < L) (p3 : -2147483648 ≤ x4 + 2 ∧ x4 + 2 < 2147483648) (p4 : 0 ≤ x4 + 2 ∧ x4 + 2 < L) (p5 : LX 11 h 94) : Go 315 1759 [.inr (.inl (some 0)), .inr (.inl (some 1)), .inr (.inl (some 94)), .inr (.inl (some 139)), .inl x4, v5, v6] [.inl sx0] (mI h I) = caln 315 [.inr (.inl (some 0)), .inr (.inl (some 1)), .inr (.inl (some 94)), .inr (.inl (some 139)), .inl x4, .inl sx0, v6] [] 1772 (Go 272 0 [.inr (.inl (some 94)), .inl (I 0 (x4 + 1)), .inl (I 0 (x4 + 2)), vU] [] (mI h I)) := by
  refine (Go_istore (h := mI h I) (y := 315) (ip := 1759) (a := 0) (b := 5) (c := 0) (by decide +kernel) rfl).trans ?_
  refine (Go_aload (h := mI h I) (y := 315) (ip := 1760) (a := 0) (b := 2) (c := 0) (by decide +kernel) rfl).trans ?_
  refine (Go_aload (h := mI h I) (y := 315) (ip := 1761) (a := 0) (b := 0) (c := 0) (by decide +kernel) rfl).trans ?_
  refine (Go_iload (h := mI h I) (y := 315) (ip := 1762) (a := 0) (b := 4) (c := 0) (by decide +kernel) rfl).trans ?_
  refine (Go_const (h := mI h I) (y := 315) (ip := 1763) (a := 1) (b := 0) (c := 0) (by decide +kernel)).trans ?_
  refine (Go_ar (op := 4) (x := x4 + 1) (h := mI h I) (y := 315) (ip := 1764) (a := 0) (b := 0) (c := 0) (by decide +kernel) rfl (zar4 p0)).trans ?_
  refine (Go_ald (h := mI h I) (y := 315) (ip := 1765) (a := 0) (b := 0) (c := 0) (by decide +kernel) rfl (p1) rfl p2).trans ?_
  refine (Go_aload (h := mI h I) (y := 315) (ip := 1766) (a := 0) (b := 0) (c := 0) (by decide +kernel) rfl).trans ?_
  refine (Go_iload (h := mI h I) (y := 315) (ip := 1767) (a := 0) (b := 4) (c := 0) (by decide +kernel) rfl).trans ?_
  refine (Go_const (h := mI h I) (y := 315) (ip := 1768) (a := 2) (b := 0) (c := 0) (by decide +kernel)).trans ?_
  refine (Go_ar (op := 4) (x := x4 + 2) (h := mI h I) (y := 315) (ip := 1769) (a := 0) (b := 0) (c := 0) (by decide +kernel) rfl (zar4 p3)).trans ?_
  refine (Go_ald (h := mI h I) (y := 315) (ip := 1770) (a := 0) (b := 0) (c := 0) (by decide +kernel) rfl (p1) rfl p4).trans ?_
  refine (Go_call2 (h := mI h I) (y := 315) (ip := 1771) (a := 358) (z := 272) (c := 0) (as := [.inr (.inl (some 94)), .inl (I 0 (x4 + 1)), .inl (I 0 (x4 + 2))]) (rest := []) (by decide +kernel) (by decide +kernel) rfl rfl (zrecv_v rfl (LX_t p5)) rfl).trans ?_
  rfl

theorem b315_1772 {h : HP} {I : Nat → Int → Int} {x4 : Int} {x5 : Int} {v6 : MV} {sx0 : Int} (p0 : LX 11 h 94) : Go 315 1772 [.inr (.inl (some 0)), .inr (.inl (some 1)), .inr (.inl (some 94)), .inr (.inl (some 139)), .inl x4, .inl x5, v6] [.inl sx0] (mI h I) = caln 315 [.inr (.inl (some 0)), .inr (.inl (some 1)), .inr (.inl (some 94)), .inr (.inl (some 139)), .inl x4, .inl x5, .inl sx0] [] 1775 (Go 162 0 [.inr (.inl (some 94))] [] (mI h I)) := by
  refine (Go_istore (h := mI h I) (y := 315) (ip := 1772) (a := 0) (b := 6) (c := 0) (by decide +kernel) rfl).trans ?_
  refine (Go_aload (h := mI h I) (y := 315) (ip := 1773) (a := 0) (b := 2) (c := 0) (by decide +kernel) rfl).trans ?_
  refine (Go_call2 (h := mI h I) (y := 315) (ip := 1774) (a := 276) (z := 162) (c := 0) (as := [.inr (.inl (some 94))]) (rest := []) (by decide +kernel) (by decide +kernel) rfl rfl (zrecv_v rfl (LX_t p0)) rfl).trans ?_
  rfl

theorem b315_1775 {h : HP} {I : Nat → Int → Int} {x4 : Int} {x5 : Int} {x6 : Int} {sx0 : Int} : Go 315 1775 [.inr (.inl (some 0)), .inr (.inl (some 1)), .inr (.inl (some 94)), .inr (.inl (some 139)), .inl x4, .inl x5, .inl x6] [.inl sx0] (mI h I) = if sx0 = x5 then Go 315 1779 [.inr (.inl (some 0)), .inr (.inl (some 1)), .inr (.inl (some 94)), .inr (.inl (some 139)), .inl x4, .inl x5, .inl x6] [] (mI h I) else Go 315 1777 [.inr (.inl (some 0)), .inr (.inl (some 1)), .inr (.inl (some 94)), .inr (.inl (some 139)), .inl x4, .inl x5, .inl x6] [] (mI h I) := by
  refine (Go_iload (h := mI h I) (y := 315) (ip := 1775) (a := 0) (b := 5) (c := 0) (by decide +kernel) rfl).trans ?_
  refine (Go_cmpeq (y := 315) (ip := 1776) (a := 0) (c := 1779) (by decide +kernel)).trans ?_
  rfl

theorem b315_1777 {h : HP} {I : Nat → Int → Int} {x4 : Int} {x5 : Int} {x6 : Int} : Go 315 1777 [.inr (.inl (some 0)), .inr (.inl (some 1)), .inr (.inl (some 94)), .inr (.inl (some 139)), .inl x4, .inl x5, .inl x6] [] (mI h I) = some (mI h I, .inl (some (.inl 0))) := by
  refine (Go_const (h := mI h I) (y := 315) (ip := 1777) (a := 0) (b := 0) (c := 0) (by decide +kernel)).trans ?_
  refine (Go_iret (h := mI h I) (y := 315) (ip := 1778) (a := 0) (b := 0) (c := 0) (by decide +kernel) (Or.inr ⟨rfl, by decide⟩)).trans ?_
  rfl

theorem b315_1779 {h : HP} {I : Nat → Int → Int} {x4 : Int} {x5 : Int} {x6 : Int} : Go 315 1779 [.inr (.inl (some 0)), .inr (.inl (some 1)), .inr (.inl (some 94)), .inr (.inl (some 139)), .inl x4, .inl x5, .inl x6] [] (mI h I) = if x5 ≠ 0 then Go 315 1790 [.inr (.inl (some 0)), .inr (.inl (some 1)), .inr (.inl (some 94)), .inr (.inl (some 139)), .inl x4, .inl x5, .inl x6] [] (mI h I) else Go 315 1781 [.inr (.inl (some 0)), .inr (.inl (some 1)), .inr (.inl (some 94)), .inr (.inl (some 139)), .inl x4, .inl x5, .inl x6] [] (mI h I) := by
  refine (Go_iload (h := mI h I) (y := 315) (ip := 1779) (a := 0) (b := 5) (c := 0) (by decide +kernel) rfl).trans ?_
  refine (Go_ifne (y := 315) (ip := 1780) (a := 0) (c := 1790) (by decide +kernel)).trans ?_
  rfl

theorem b315_1781 {h : HP} {I : Nat → Int → Int} {x4 : Int} {x5 : Int} {x6 : Int} (p0 : hK h 139 = (2, 1)) : Go 315 1781 [.inr (.inl (some 0)), .inr (.inl (some 1)), .inr (.inl (some 94)), .inr (.inl (some 139)), .inl x4, .inl x5, .inl x6] [] (mI h I) = if (if I 139 0 < x6 then -1 else if I 139 0 = x6 then 0 else 1 : Int) = 0 then Go 315 1790 [.inr (.inl (some 0)), .inr (.inl (some 1)), .inr (.inl (some 94)), .inr (.inl (some 139)), .inl x4, .inl x5, .inl x6] [] (mI h I) else Go 315 1788 [.inr (.inl (some 0)), .inr (.inl (some 1)), .inr (.inl (some 94)), .inr (.inl (some 139)), .inl x4, .inl x5, .inl x6] [] (mI h I) := by
  refine (Go_aload (h := mI h I) (y := 315) (ip := 1781) (a := 0) (b := 3) (c := 0) (by decide +kernel) rfl).trans ?_
  refine (Go_const (h := mI h I) (y := 315) (ip := 1782) (a := 0) (b := 0) (c := 0) (by decide +kernel)).trans ?_
  refine (Go_ldl (h := mI h I) (y := 315) (ip := 1783) (a := 0) (c := 0) (by decide +kernel) (p0) (by decide)).trans ?_
  refine (Go_iload (h := mI h I) (y := 315) (ip := 1784) (a := 0) (b := 6) (c := 0) (by decide +kernel) rfl).trans ?_
  refine (Go_i2l (h := mI h I) (y := 315) (ip := 1785) (a := 0) (b := 0) (c := 0) (by decide +kernel)).trans ?_
  refine (Go_lcmp (h := mI h I) (y := 315) (ip := 1786) (a := 0) (b := 0) (c := 0) (by decide +kernel)).trans ?_
  refine (Go_ifeq (y := 315) (ip := 1787) (a := 0) (c := 1790) (by decide +kernel)).trans ?_
  rfl

theorem b315_1788 {h : HP} {I : Nat → Int → Int} {x4 : Int} {x5 : Int} {x6 : Int} : Go 315 1788 [.inr (.inl (some 0)), .inr (.inl (some 1)), .inr (.inl (some 94)), .inr (.inl (some 139)), .inl x4, .inl x5, .inl x6] [] (mI h I) = some (mI h I, .inl (some (.inl 0))) := by
  refine (Go_const (h := mI h I) (y := 315) (ip := 1788) (a := 0) (b := 0) (c := 0) (by decide +kernel)).trans ?_
  refine (Go_iret (h := mI h I) (y := 315) (ip := 1789) (a := 0) (b := 0) (c := 0) (by decide +kernel) (Or.inr ⟨rfl, by decide⟩)).trans ?_
  rfl

theorem b315_1790 {h : HP} {I : Nat → Int → Int} {x4 : Int} {x5 : Int} {x6 : Int} : Go 315 1790 [.inr (.inl (some 0)), .inr (.inl (some 1)), .inr (.inl (some 94)), .inr (.inl (some 139)), .inl x4, .inl x5, .inl x6] [] (mI h I) = Go 315 1826 [.inr (.inl (some 0)), .inr (.inl (some 1)), .inr (.inl (some 94)), .inr (.inl (some 139)), .inl x4, .inl x5, .inl x6] [] (mI h I) := by
  refine (Go_goto (h := mI h I) (y := 315) (ip := 1790) (a := 0) (b := 0) (c := 1826) (by decide +kernel)).trans ?_
  rfl

theorem b315_1791 {h : HP} {I : Nat → Int → Int} {x4 : Int} {v5 : MV} {v6 : MV} {L : Int} (p0 : -2147483648 ≤ x4 + 1 ∧ x4 + 1 < 2147483648) (p1 : hK h 0 = (6, L)) (p2 : 0 ≤ x4 + 1 ∧ x4 + 1 < L) : Go 315 1791 [.inr (.inl (some 0)), .inr (.inl (some 1)), .inr (.inl (some 94)), .inr (.inl (some 139)), .inl x4, v5, v6] [] (mI h I) = caln 315 [.inr (.inl (some 0)), .inr (.inl (some 1)), .inr (.inl (some 94)), .inr (.inl (some 139)), .inl x4, v5, v6] [] 1799 (Go 314 0 [.inr (.inl (some 1)), .inl (I 0 (x4 + 1)), .inr (.inl (some 139)), vU] [] (mI h I)) := by
  refine (Go_aload (h := mI h I) (y := 315) (ip := 1791) (a := 0) (b := 1) (c := 0) (by decide +kernel) rfl).trans ?_
  refine (Go_aload (h := mI h I) (y := 315) (ip := 1792) (a := 0) (b := 0) (c := 0) (by decide +kernel) rfl).trans ?_
  refine (Go_iload (h := mI h I) (y := 315) (ip := 1793) (a := 0) (b := 4) (c := 0) (by decide +kernel) rfl).trans ?_
  refine (Go_const (h := mI h I) (y := 315) (ip := 1794) (a := 1) (b := 0) (c := 0) (by decide +kernel)).trans ?_
  refine (Go_ar (op := 4) (x := x4 + 1) (h := mI h I) (y := 315) (ip := 1795) (a := 0) (b := 0) (c := 0) (by decide +kernel) rfl (zar4 p0)).trans ?_
  refine (Go_ald (h := mI h I) (y := 315) (ip := 1796) (a := 0) (b := 0) (c := 0) (by decide +kernel) rfl (p1) rfl p2).trans ?_
  refine (Go_aload (h := mI h I) (y := 315) (ip := 1797) (a := 0) (b := 3) (c := 0) (by decide +kernel) rfl).trans ?_
  refine (Go_call2 (h := mI h I) (y := 315) (ip := 1798) (a := 359) (z := 314) (c := 1) (as := [.inr (.inl (some 1)), .inl (I 0 (x4 + 1)), .inr (.inl (some 139))]) (rest := []) (by decide +kernel) (by decide +kernel) rfl rfl rfl rfl).trans ?_
  rfl

theorem b315_1799 {h : HP} {I : Nat → Int → Int} {x4 : Int} {v5 : MV} {v6 : MV} {sx0 : Int} {L : Int} (p0 : -2147483648 ≤ x4 + 1 ∧ x4 + 1 < 2147483648) (p1 : hK h 0 = (6, L)) (p2 : 0 ≤ x4 + 1 ∧ x4 + 1 < L) (p3 : LX 11 h 94) : Go 315 1799 [.inr (.inl (some 0)), .inr (.inl (some 1)), .inr (.inl (some 94)), .inr (.inl (some 139)), .inl x4, v5, v6] [.inl sx0] (mI h I) = caln 315 [.inr (.inl (some 0)), .inr (.inl (some 1)), .inr (.inl (some 94)), .inr (.inl (some 139)), .inl x4, .inl sx0, v6] [] 1807 (Go 273 0 [.inr (.inl (some 94)), .inl (I 0 (x4 + 1)), vU, vU] [] (mI h I)) := by
  refine (Go_istore (h := mI h I) (y := 315) (ip := 1799) (a := 0) (b := 5) (c := 0) (by decide +kernel) rfl).trans ?_
  refine (Go_aload (h := mI h I) (y := 315) (ip := 1800) (a := 0) (b := 2) (c := 0) (by decide +kernel) rfl).trans ?_
  refine (Go_aload (h := mI h I) (y := 315) (ip := 1801) (a := 0) (b := 0) (c := 0) (by decide +kernel) rfl).trans ?_
  refine (Go_iload (h := mI h I) (y := 315) (ip := 1802) (a := 0) (b := 4) (c := 0) (by decide +kernel) rfl).trans ?_
  refine (Go_const (h := mI h I) (y := 315) (ip := 1803) (a := 1) (b := 0) (c := 0) (by decide +kernel)).trans ?_
  refine (Go_ar (op := 4) (x := x4 + 1) (h := mI h I) (y := 315) (ip := 1804) (a := 0) (b := 0) (c := 0) (by decide +kernel) rfl (zar4 p0)).trans ?_
  refine (Go_ald (h := mI h I) (y := 315) (ip := 1805) (a := 0) (b := 0) (c := 0) (by decide +kernel) rfl (p1) rfl p2).trans ?_
  refine (Go_call2 (h := mI h I) (y := 315) (ip := 1806) (a := 360) (z := 273) (c := 0) (as := [.inr (.inl (some 94)), .inl (I 0 (x4 + 1))]) (rest := []) (by decide +kernel) (by decide +kernel) rfl rfl (zrecv_v rfl (LX_t p3)) rfl).trans ?_
  rfl

theorem b315_1807 {h : HP} {I : Nat → Int → Int} {x4 : Int} {x5 : Int} {v6 : MV} {sx0 : Int} (p0 : LX 11 h 94) : Go 315 1807 [.inr (.inl (some 0)), .inr (.inl (some 1)), .inr (.inl (some 94)), .inr (.inl (some 139)), .inl x4, .inl x5, v6] [.inl sx0] (mI h I) = caln 315 [.inr (.inl (some 0)), .inr (.inl (some 1)), .inr (.inl (some 94)), .inr (.inl (some 139)), .inl x4, .inl x5, .inl sx0] [] 1810 (Go 162 0 [.inr (.inl (some 94))] [] (mI h I)) := by
  refine (Go_istore (h := mI h I) (y := 315) (ip := 1807) (a := 0) (b := 6) (c := 0) (by decide +kernel) rfl).trans ?_
  refine (Go_aload (h := mI h I) (y := 315) (ip := 1808) (a := 0) (b := 2) (c := 0) (by decide +kernel) rfl).trans ?_
  refine (Go_call2 (h := mI h I) (y := 315) (ip := 1809) (a := 276) (z := 162) (c := 0) (as := [.inr (.inl (some 94))]) (rest := []) (by decide +kernel) (by decide +kernel) rfl rfl (zrecv_v rfl (LX_t p0)) rfl).trans ?_
  rfl

theorem b315_1810 {h : HP} {I : Nat → Int → Int} {x4 : Int} {x5 : Int} {x6 : Int} {sx0 : Int} : Go 315 1810 [.inr (.inl (some 0)), .inr (.inl (some 1)), .inr (.inl (some 94)), .inr (.inl (some 139)), .inl x4, .inl x5, .inl x6] [.inl sx0] (mI h I) = if sx0 = x5 then Go 315 1814 [.inr (.inl (some 0)), .inr (.inl (some 1)), .inr (.inl (some 94)), .inr (.inl (some 139)), .inl x4, .inl x5, .inl x6] [] (mI h I) else Go 315 1812 [.inr (.inl (some 0)), .inr (.inl (some 1)), .inr (.inl (some 94)), .inr (.inl (some 139)), .inl x4, .inl x5, .inl x6] [] (mI h I) := by
  refine (Go_iload (h := mI h I) (y := 315) (ip := 1810) (a := 0) (b := 5) (c := 0) (by decide +kernel) rfl).trans ?_
  refine (Go_cmpeq (y := 315) (ip := 1811) (a := 0) (c := 1814) (by decide +kernel)).trans ?_
  rfl

theorem b315_1812 {h : HP} {I : Nat → Int → Int} {x4 : Int} {x5 : Int} {x6 : Int} : Go 315 1812 [.inr (.inl (some 0)), .inr (.inl (some 1)), .inr (.inl (some 94)), .inr (.inl (some 139)), .inl x4, .inl x5, .inl x6] [] (mI h I) = some (mI h I, .inl (some (.inl 0))) := by
  refine (Go_const (h := mI h I) (y := 315) (ip := 1812) (a := 0) (b := 0) (c := 0) (by decide +kernel)).trans ?_
  refine (Go_iret (h := mI h I) (y := 315) (ip := 1813) (a := 0) (b := 0) (c := 0) (by decide +kernel) (Or.inr ⟨rfl, by decide⟩)).trans ?_
  rfl

theorem b315_1814 {h : HP} {I : Nat → Int → Int} {x4 : Int} {x5 : Int} {x6 : Int} : Go 315 1814 [.inr (.inl (some 0)), .inr (.inl (some 1)), .inr (.inl (some 94)), .inr (.inl (some 139)), .inl x4, .inl x5, .inl x6] [] (mI h I) = if x5 ≠ 0 then Go 315 1825 [.inr (.inl (some 0)), .inr (.inl (some 1)), .inr (.inl (some 94)), .inr (.inl (some 139)), .inl x4, .inl x5, .inl x6] [] (mI h I) else Go 315 1816 [.inr (.inl (some 0)), .inr (.inl (some 1)), .inr (.inl (some 94)), .inr (.inl (some 139)), .inl x4, .inl x5, .inl x6] [] (mI h I) := by
  refine (Go_iload (h := mI h I) (y := 315) (ip := 1814) (a := 0) (b := 5) (c := 0) (by decide +kernel) rfl).trans ?_
  refine (Go_ifne (y := 315) (ip := 1815) (a := 0) (c := 1825) (by decide +kernel)).trans ?_
  rfl

theorem b315_1816 {h : HP} {I : Nat → Int → Int} {x4 : Int} {x5 : Int} {x6 : Int} (p0 : hK h 139 = (2, 1)) : Go 315 1816 [.inr (.inl (some 0)), .inr (.inl (some 1)), .inr (.inl (some 94)), .inr (.inl (some 139)), .inl x4, .inl x5, .inl x6] [] (mI h I) = if (if I 139 0 < x6 then -1 else if I 139 0 = x6 then 0 else 1 : Int) = 0 then Go 315 1825 [.inr (.inl (some 0)), .inr (.inl (some 1)), .inr (.inl (some 94)), .inr (.inl (some 139)), .inl x4, .inl x5, .inl x6] [] (mI h I) else Go 315 1823 [.inr (.inl (some 0)), .inr (.inl (some 1)), .inr (.inl (some 94)), .inr (.inl (some 139)), .inl x4, .inl x5, .inl x6] [] (mI h I) := by
  refine (Go_aload (h := mI h I) (y := 315) (ip := 1816) (a := 0) (b := 3) (c := 0) (by decide +kernel) rfl).trans ?_
  refine (Go_const (h := mI h I) (y := 315) (ip := 1817) (a := 0) (b := 0) (c := 0) (by decide +kernel)).trans ?_
  refine (Go_ldl (h := mI h I) (y := 315) (ip := 1818) (a := 0) (c := 0) (by decide +kernel) (p0) (by decide)).trans ?_
  refine (Go_iload (h := mI h I) (y := 315) (ip := 1819) (a := 0) (b := 6) (c := 0) (by decide +kernel) rfl).trans ?_
  refine (Go_i2l (h := mI h I) (y := 315) (ip := 1820) (a := 0) (b := 0) (c := 0) (by decide +kernel)).trans ?_
  refine (Go_lcmp (h := mI h I) (y := 315) (ip := 1821) (a := 0) (b := 0) (c := 0) (by decide +kernel)).trans ?_
  refine (Go_ifeq (y := 315) (ip := 1822) (a := 0) (c := 1825) (by decide +kernel)).trans ?_
  rfl

theorem b315_1823 {h : HP} {I : Nat → Int → Int} {x4 : Int} {x5 : Int} {x6 : Int} : Go 315 1823 [.inr (.inl (some 0)), .inr (.inl (some 1)), .inr (.inl (some 94)), .inr (.inl (some 139)), .inl x4, .inl x5, .inl x6] [] (mI h I) = some (mI h I, .inl (some (.inl 0))) := by
  refine (Go_const (h := mI h I) (y := 315) (ip := 1823) (a := 0) (b := 0) (c := 0) (by decide +kernel)).trans ?_
  refine (Go_iret (h := mI h I) (y := 315) (ip := 1824) (a := 0) (b := 0) (c := 0) (by decide +kernel) (Or.inr ⟨rfl, by decide⟩)).trans ?_
  rfl

theorem b315_1825 {h : HP} {I : Nat → Int → Int} {x4 : Int} {x5 : Int} {x6 : Int} : Go 315 1825 [.inr (.inl (some 0)), .inr (.inl (some 1)), .inr (.inl (some 94)), .inr (.inl (some 139)), .inl x4, .inl x5, .inl x6] [] (mI h I) = Go 315 1826 [.inr (.inl (some 0)), .inr (.inl (some 1)), .inr (.inl (some 94)), .inr (.inl (some 139)), .inl x4, .inl x5, .inl x6] [] (mI h I) := by
  refine (Go_goto (h := mI h I) (y := 315) (ip := 1825) (a := 0) (b := 0) (c := 1826) (by decide +kernel)).trans ?_
  rfl

theorem b315_1826 {h : HP} {I : Nat → Int → Int} {x4 : Int} {v5 : MV} {v6 : MV} (p0 : -2147483648 ≤ x4 + 6 ∧ x4 + 6 < 2147483648) : Go 315 1826 [.inr (.inl (some 0)), .inr (.inl (some 1)), .inr (.inl (some 94)), .inr (.inl (some 139)), .inl x4, v5, v6] [] (mI h I) = Go 315 13 [.inr (.inl (some 0)), .inr (.inl (some 1)), .inr (.inl (some 94)), .inr (.inl (some 139)), .inl (x4 + 6), v5, v6] [] (mI h I) := by
  refine (Go_iinc (h := mI h I) (y := 315) (ip := 1826) (a := 6) (b := 4) (c := 0) (by decide +kernel) rfl p0).trans ?_
  refine (Go_goto (h := mI h I) (y := 315) (ip := 1827) (a := 0) (b := 0) (c := 13) (by decide +kernel)).trans ?_
  rfl

theorem b315_1828 {h : HP} {I : Nat → Int → Int} {x4 : Int} {v5 : MV} {v6 : MV} : Go 315 1828 [.inr (.inl (some 0)), .inr (.inl (some 1)), .inr (.inl (some 94)), .inr (.inl (some 139)), .inl x4, v5, v6] [] (mI h I) = some (mI h I, .inl (some (.inl 1))) := by
  refine (Go_const (h := mI h I) (y := 315) (ip := 1828) (a := 1) (b := 0) (c := 0) (by decide +kernel)).trans ?_
  refine (Go_iret (h := mI h I) (y := 315) (ip := 1829) (a := 0) (b := 0) (c := 0) (by decide +kernel) (Or.inr ⟨rfl, by decide⟩)).trans ?_
  rfl

