/-! ===== the small machine: whole numbers, references by number, one step a row; what it answers, the real one answers (part 06 ..) ===== -/
abbrev MV : Type := Int ⊕ (Option Nat ⊕ Int)
/-- how many objects, cells and slots spent; kinds with lengths; numbers; references -/
abbrev HP : Type := (Nat × Nat × Nat) × (Nat → Nat × Int) × (Nat → Int → Int) × (Nat → Int → Option Nat)
abbrev OUT : Type := Option MV ⊕ Nat
abbrev ST : Type := Nat × List MV × List MV × HP
def qpc (v : Nat) : Nat := v % 4096
def qop (v : Nat) : Nat := v / 4096 % 64
def qb (v : Nat) : Nat := v / 262144 % 1024
def qc (v : Nat) : Nat := v / 268435456 % 4096
def qa (v : Nat) : Int := (v / 1099511627776 : Nat) - 4096
def zM (y : Nat) : MethodName × ByteArray × Nat × Option FieldType × List (Nat × Nat × Nat × Nat) := zMt.getD y (⟨"", "", ""⟩, ⟨#[]⟩, 0, none, [])
def zY (y : Nat) : MethodName := (zM y).1
def zB (y : Nat) : ByteArray := (zM y).2.1
def zL (y : Nat) : Nat := (zM y).2.2.1
def zR (y : Nat) : Option FieldType := (zM y).2.2.2.1
def zH (y : Nat) : List (Nat × Nat × Nat × Nat) := (zM y).2.2.2.2
def zn (y : Nat) : Nat × Nat × Nat × Nat × Nat × Nat × Nat × Nat × Nat × Nat := zNt.getD y (0, 0, 0, 0, 0, 0, 0, 0, 0, 0)
def zO (y : Nat) : Nat := (zn y).1
def zKd (y : Nat) : Nat := (zn y).2.1
def zNa (y : Nat) : Nat := (zn y).2.2.1
def zFr (y : Nat) : Nat := (zn y).2.2.2.1
def zLo (y : Nat) : Nat := (zn y).2.2.2.2.1
def zRs (y : Nat) : Nat := (zn y).2.2.2.2.2.2.2.2.2
def zPc (y ip : Nat) : Nat := qpc ((zK y).getD ip 0)
abbrev rgI (x : Int) : Prop := -2147483648 ≤ x ∧ x < 2147483648
def zup {α : Type} (f : Nat → α) (a : Nat) (v : α) : Nat → α := fun i => if i = a then v else f i
def zu2 {α : Type} (f : Nat → Int → α) (a : Nat) (k : Int) (v : α) : Nat → Int → α := fun i j => if i = a ∧ j = k then v else f i j
def hN (h : HP) : Nat := h.1.1
def hK (h : HP) : Nat → Nat × Int := h.2.1
def hI (h : HP) : Nat → Int → Int := h.2.2.1
def hR (h : HP) : Nat → Int → Option Nat := h.2.2.2
/-- a cell more -/
def hNew (h : HP) (t : Nat) (len : Int) (s : Nat) : HP := ((h.1.1 + 1, h.1.2.1 + 1, h.1.2.2 + s), zup h.2.1 h.1.1 (t, len), zup h.2.2.1 h.1.1 (fun _ => 0), zup h.2.2.2 h.1.1 (fun _ => none))
/-- a caught exception is an object of which nothing is known -/
def hOpq (h : HP) : HP := ((h.1.1 + 1, h.1.2.1, h.1.2.2), zup h.2.1 h.1.1 (5, 0), h.2.2.1, h.2.2.2)
def hThr (h : HP) : HP := ((h.1.1, h.1.2.1 + 1, h.1.2.2 + 6), h.2.1, h.2.2.1, h.2.2.2)
def hSI (h : HP) (a : Nat) (k : Int) (x : Int) : HP := (h.1, h.2.1, zu2 h.2.2.1 a k x, h.2.2.2)
def hSR (h : HP) (a : Nat) (k : Int) (r : Option Nat) : HP := (h.1, h.2.1, h.2.2.1, zu2 h.2.2.2 a k r)
def zcond (b : Nat) (x y : Int) : Bool := match b with
  | 0 => decide (x = y)
  | 1 => decide (x ≠ y)
  | 2 => decide (x < y)
  | 3 => decide (y ≤ x)
  | 4 => decide (y < x)
  | _ => decide (x ≤ y)
def zcls (t : Nat) : Nat := if t = 3 then 5 else 4
def zarith (op : Nat) (x y : Int) : Option Int := match op with
  | 4 => if rgI (x + y) then some (x + y) else none
  | 5 => if rgI (x - y) then some (x - y) else none
  | 6 => if rgI (x * y) then some (x * y) else none
  | 7 => if 0 ≤ x ∧ 0 < y then some (x / y) else none
  | 8 => if 0 ≤ x ∧ 0 < y then some (x % y) else none
  | 9 => if 0 ≤ x ∧ 0 ≤ y ∧ y < 31 then some (x / 2 ^ y.toNat) else none
  | 10 => some (Int32.ofInt x &&& Int32.ofInt y).toInt
  | 11 => some (Int32.ofInt x ||| Int32.ofInt y).toInt
  | _ => none
abbrev vI (x : Int) : MV := .inl x
abbrev vR (r : Option Nat) : MV := .inr (.inl r)
abbrev vL (x : Int) : MV := .inr (.inr x)
def zgo (ip : Nat) (ls st : List MV) (h : HP) : Option (ST ⊕ (HP × OUT)) := some (.inl (ip, ls, st, h))
def zout (h : HP) (o : OUT) : Option (ST ⊕ (HP × OUT)) := some (.inr (h, o))
/-- locals and stack alone -/
def zs1 (op : Nat) (a : Int) (b : Nat) (ip : Nat) (ls : List MV) (h : HP) : List MV → Option (ST ⊕ (HP × OUT)) := fun st => match op, st with
  | 0, st => zgo (ip + 1) ls (.inl a :: st) h
  | 41, st => zgo (ip + 1) ls (.inl a :: st) h
  | 38, st => zgo (ip + 1) ls (.inr (.inr a) :: st) h
  | 33, st => zgo (ip + 1) ls (.inr (.inl none) :: st) h
  | 1, st => match ls[b]? with
    | some (.inl x) => zgo (ip + 1) ls (.inl x :: st) h
    | _ => none
  | 42, st => match ls[b]? with
    | some (.inr (.inl r)) => zgo (ip + 1) ls (.inr (.inl r) :: st) h
    | _ => none
  | 2, .inl x :: st => if b < ls.length then zgo (ip + 1) (ls.set b (.inl x)) st h else none
  | 43, .inr (.inl r) :: st => if b < ls.length then zgo (ip + 1) (ls.set b (.inr (.inl r))) st h else none
  | 3, st => match ls[b]? with
    | some (.inl x) => if rgI (x + a) then zgo (ip + 1) (ls.set b (.inl (x + a))) st h else none
    | _ => none
  | 27, .inl x :: st => zgo (ip + 1) ls (.inl x :: .inl x :: st) h
  | 27, .inr (.inl r) :: st => zgo (ip + 1) ls (.inr (.inl r) :: .inr (.inl r) :: st) h
  | 28, .inl x :: .inr (.inl r) :: st => zgo (ip + 1) ls (.inl x :: .inr (.inl r) :: .inl x :: .inr (.inl r) :: st) h
  | 29, .inl _ :: st => zgo (ip + 1) ls st h
  | 29, .inr (.inl _) :: st => zgo (ip + 1) ls st h
  | 36, .inl x :: st => zgo (ip + 1) ls (.inr (.inr x) :: st) h
  | 37, .inr (.inr y) :: .inr (.inr x) :: st => zgo (ip + 1) ls (.inl (if x < y then -1 else if x = y then 0 else 1) :: st) h
  | 40, .inr (.inl (some _)) :: st => if st.length ≤ 4 then zgo (ip + 1) ls st h else none
  | _, _ => none
/-- jumps -/
def zs2 (op b c : Nat) (ip : Nat) (ls : List MV) (h : HP) : List MV → Option (ST ⊕ (HP × OUT)) := fun st => match op, st with
  | 12, .inl x :: st => zgo (if zcond b x 0 then c else ip + 1) ls st h
  | 13, .inl y :: .inl x :: st => zgo (if zcond b x y then c else ip + 1) ls st h
  | 14, st => zgo c ls st h
  | 15, .inl x :: st => zgo (if 0 ≤ x ∧ x < ((zsw.getD b []).length : Int) then (zsw.getD b []).getD x.toNat 0 else c) ls st h
  | 34, .inr (.inl r) :: st => zgo (if r = none then c else ip + 1) ls st h
  | 35, .inr (.inl r) :: st => zgo (if r = none then ip + 1 else c) ls st h
  | _, _ => none
/-- the heap -/
def zs3 (op b c : Nat) (ip : Nat) (ls : List MV) (h : HP) : List MV → Option (ST ⊕ (HP × OUT)) := fun st => match op, st with
  | 16, .inr (.inl (some i)) :: st => if (hK h i).1 = 10 + b then zgo (ip + 1) ls ((if zSh b c = 2 then .inr (.inl (hR h i c)) else .inl (hI h i c)) :: st) h else none
  | 17, .inl x :: .inr (.inl (some i)) :: st => if (hK h i).1 = 10 + b ∧ (zSh b c = 0 ∨ zSh b c = 1 ∧ (x = 0 ∨ x = 1)) then zgo (ip + 1) ls st (hSI h i c x) else none
  | 17, .inr (.inl r) :: .inr (.inl (some i)) :: st => if (hK h i).1 = 10 + b ∧ zSh b c = 2 then zgo (ip + 1) ls st (hSR h i c r) else none
  | 19, st => zgo (ip + 1) ls (.inr (.inl (some (hN h))) :: st) (hNew h (10 + b) 0 (zNF b))
  | 20, .inl n :: st => if 0 ≤ n ∧ n ≤ 10000 then zgo (ip + 1) ls (.inr (.inl (some (hN h))) :: st) (hNew h b n n.toNat) else none
  | 21, .inl n :: st => if 0 ≤ n ∧ n ≤ 10000 then zgo (ip + 1) ls (.inr (.inl (some (hN h))) :: st) (hNew h b n n.toNat) else none
  | 22, .inr (.inl (some i)) :: st => if (hK h i).1 ≤ 6 ∧ (hK h i).1 ≠ 5 then zgo (ip + 1) ls (.inl (hK h i).2 :: st) h else none
  | 23, .inl j :: .inr (.inl (some i)) :: st => if ((hK h i).1 = b ∨ b = 0 ∧ (hK h i).1 = 6) ∧ 0 ≤ j ∧ j < (hK h i).2 then zgo (ip + 1) ls ((if b = 2 then .inr (.inr (hI h i j)) else .inl (hI h i j)) :: st) h else none
  | 24, .inl x :: .inl j :: .inr (.inl (some i)) :: st => if (hK h i).1 = b ∧ 0 ≤ j ∧ j < (hK h i).2 ∧ (b = 0 ∨ b = 1 ∧ (x = 0 ∨ x = 1)) then zgo (ip + 1) ls st (hSI h i j x) else none
  | 24, .inr (.inr x) :: .inl j :: .inr (.inl (some i)) :: st => if (hK h i).1 = b ∧ 0 ≤ j ∧ j < (hK h i).2 ∧ b = 2 then zgo (ip + 1) ls st (hSI h i j x) else none
  | 25, .inl j :: .inr (.inl (some i)) :: st => if ((hK h i).1 = 3 ∨ (hK h i).1 = 4) ∧ 0 ≤ j ∧ j < (hK h i).2 then zgo (ip + 1) ls (.inr (.inl (hR h i j)) :: st) h else none
  | 26, .inr (.inl (some v)) :: .inl j :: .inr (.inl (some i)) :: st => if ((hK h i).1 = 3 ∨ (hK h i).1 = 4) ∧ 0 ≤ j ∧ j < (hK h i).2 ∧ (hK h v).1 = 10 + zcls (hK h i).1 then zgo (ip + 1) ls st (hSR h i j (some v)) else none
  | _, _ => none
/-- ends -/
def zs4 (y op b : Nat) (h : HP) : List MV → Option (ST ⊕ (HP × OUT)) := fun st => match op, st with
  | 30, [.inl x] => if zRs y = 0 ∨ zRs y = 1 ∧ (x = 0 ∨ x = 1) then zout h (.inl (some (.inl x))) else none
  | 39, [.inr (.inl r)] => if zRs y = 2 then zout h (.inl (some (.inr (.inl r)))) else none
  | 31, [] => if zRs y = 3 then zout h (.inl none) else none
  | 32, st => if st.length ≤ 4 then zout (hThr h) (.inr b) else none
  | _, _ => none
def zs5 (op : Nat) (ip : Nat) (ls : List MV) (h : HP) : List MV → Option (ST ⊕ (HP × OUT)) := fun st => match st with
  | .inl y :: .inl x :: st => match zarith op x y with
    | some r => zgo (ip + 1) ls (.inl r :: st) h
    | none => none
  | _ => none
/-- which of the five -/
def zfam (op : Nat) : Nat := [1, 1, 1, 1, 5, 5, 5, 5, 5, 5, 5, 5, 2, 2, 2, 2, 3, 3, 0, 3, 3, 3, 3, 3, 3, 3, 3, 1, 1, 1, 4, 4, 4, 1, 2, 2, 1, 1, 1, 4, 1, 1, 1, 1].getD op 0
def zstep (y v ip : Nat) (ls st : List MV) (h : HP) : Option (ST ⊕ (HP × OUT)) := match zfam (qop v) with
  | 1 => zs1 (qop v) (qa v) (qb v) ip ls h st
  | 2 => zs2 (qop v) (qb v) (qc v) ip ls h st
  | 3 => zs3 (qop v) (qb v) (qc v) ip ls h st
  | 4 => zs4 y (qop v) (qb v) h st
  | 5 => zs5 (qop v) ip ls h st
  | _ => none
def zhand (y pc e : Nat) : Option Nat := (zhn.find? fun q => q.1 == y && decide (q.2.1 ≤ pc) && decide (pc < q.2.2.1) && q.2.2.2.2.2.1 == e).map fun q => q.2.2.2.1
/-- the receiver of a call -/
def zrecv (z : Nat) (as : List MV) (h : HP) : Bool := match zKd z, as with
  | 1, _ => true
  | 0, .inr (.inl (some i)) :: _ => decide ((hK h i).1 = 10 + zO z)
  | 2, .inr (.inl (some _)) :: _ => true
  | _, _ => false
def zsm : MV → Bool
  | .inr (.inr _) => false
  | _ => true
def zpad (z : Nat) (as : List MV) : List MV := as ++ List.replicate (zL z - as.length) (.inr (.inr 0))
/-- a frame, run for at most n rows -/
noncomputable def ex : Nat → Nat → Nat → List MV → List MV → HP → Option (HP × OUT)
  | 0, _, _, _, _, _ => none
  | n + 1, y, ip, ls, st, h => match (zK y)[ip]? with
    | none => none
    | some v =>
      if qop v = 18 then
        if zNa (qb v) ≤ st.length ∧ zNa (qb v) ≤ zL (qb v) ∧ (st.drop (zNa (qb v))).length ≤ 4 ∧ zrecv (qb v) (st.take (zNa (qb v))).reverse h = true ∧ (st.take (zNa (qb v))).all zsm = true then
          match ex n (qb v) 0 (zpad (qb v) (st.take (zNa (qb v))).reverse) [] h with
          | none => none
          | some (h1, .inl none) => ex n y (ip + 1) ls (st.drop (zNa (qb v))) h1
          | some (h1, .inl (some r)) => ex n y (ip + 1) ls (r :: st.drop (zNa (qb v))) h1
          | some (h1, .inr e) => match zhand y (qpc v) e with
            | none => if (zH y).isEmpty then some (h1, .inr e) else none
            | some t => ex n y t ls [.inr (.inl (some (hN h1)))] (hOpq h1)
        else none
      else match zstep y v ip ls st h with
        | none => none
        | some (.inl (ip1, ls1, st1, h1)) => ex n y ip1 ls1 st1 h1
        | some (.inr r) => some r
