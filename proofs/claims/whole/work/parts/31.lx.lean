/-! ===== layouts; rows as the printed blocks use them ===== -/
def mI (h : HP) (I : Nat → Int → Int) : HP := (h.1, h.2.1, I, h.2.2.2)
abbrev vU : MV := .inr (.inr 0)
/-- the owned fields of an object of a class: place of the field, absolute or beside the object, where, kind, length -/
def zlay (ci : Nat) : List (Nat × Bool × Nat × Nat × Int) := match ci with
  | 0 => [(0, false, 1, 0, 100), (1, false, 2, 0, 100), (2, false, 3, 0, 100), (3, false, 4, 0, 1200), (4, false, 5, 0, 600), (5, false, 6, 0, 100), (6, false, 7, 0, 100)]
  | 1 => [(0, false, 1, 0, 4), (1, false, 2, 1, 400)]
  | 2 => [(0, true, 2, 10, 0), (1, false, 3, 17, 0), (2, false, 5, 17, 0), (3, false, 1, 1, 100), (4, false, 2, 0, 100)]
  | 3 => [(0, false, 1, 0, 100), (1, false, 2, 0, 100), (2, false, 3, 3, 20), (3, false, 4, 1, 20), (4, false, 5, 1, 20), (6, false, 6, 14, 0), (7, false, 11, 14, 0), (8, false, 16, 0, 30), (9, false, 17, 0, 30), (10, false, 18, 1, 30), (11, false, 19, 4, 30)]
  | 4 => [(0, false, 1, 0, 6), (1, false, 2, 0, 100), (2, false, 3, 1, 100), (3, false, 4, 1, 100)]
  | 5 => [(0, false, 1, 0, 100), (1, false, 2, 0, 100), (2, false, 3, 0, 100), (3, false, 4, 0, 100), (4, false, 5, 1, 100)]
  | 6 => [(0, true, 2, 10, 0), (1, false, 1, 0, 100)]
  | 7 => [(0, true, 2, 10, 0), (1, false, 1, 1, 100)]
  | 8 => [(0, false, 1, 13, 0), (1, false, 21, 11, 0), (2, false, 24, 0, 100), (3, false, 25, 1, 100), (4, false, 26, 1, 6), (5, false, 27, 0, 6), (6, false, 28, 0, 6), (8, false, 29, 0, 512), (9, false, 30, 0, 512), (10, false, 31, 0, 512)]
  | 9 => [(0, true, 2, 10, 0), (1, false, 1, 0, 100), (2, false, 2, 1, 100), (3, false, 3, 1, 100), (4, false, 4, 0, 100)]
  | 10 => [(0, false, 1, 10, 0), (1, false, 9, 18, 0), (2, false, 41, 18, 0), (3, false, 73, 17, 0), (4, false, 75, 19, 0), (5, false, 80, 16, 0), (6, false, 82, 12, 0), (7, false, 89, 1, 100), (8, false, 90, 1, 100), (9, false, 91, 0, 12), (10, false, 92, 0, 12)]
  | 11 => [(1, false, 1, 0, 120), (2, false, 2, 0, 120), (3, false, 3, 0, 1440), (4, false, 4, 0, 120), (6, false, 5, 0, 12), (7, false, 6, 0, 12), (10, false, 7, 0, 240), (11, false, 8, 1, 240), (12, false, 9, 1, 240), (13, false, 10, 0, 2), (14, false, 11, 0, 60), (15, false, 12, 0, 60), (16, false, 13, 1, 60), (17, false, 14, 0, 2), (18, false, 15, 1, 40), (19, false, 16, 1, 40), (20, false, 17, 0, 40), (21, false, 18, 0, 4800), (22, false, 19, 0, 4800), (23, false, 20, 1, 4800), (24, false, 21, 0, 12), (25, false, 22, 1, 240), (26, false, 23, 1, 240), (27, false, 24, 0, 240), (28, false, 25, 0, 2), (29, false, 26, 0, 372), (30, false, 27, 0, 7440), (31, false, 28, 0, 62), (32, false, 29, 0, 1200), (33, false, 30, 0, 1200), (34, false, 31, 0, 1200), (35, false, 32, 0, 240), (36, false, 33, 1, 240), (37, false, 34, 1, 240), (38, false, 35, 1, 12), (39, false, 36, 0, 12), (40, false, 37, 0, 12), (42, false, 38, 0, 120), (43, false, 39, 1, 120), (44, false, 40, 1, 120), (45, false, 41, 1, 120), (46, false, 42, 1, 120), (47, false, 43, 1, 120), (48, false, 44, 0, 120)]
  | _ => []
def LX (ci : Nat) (h : HP) (a : Nat) : Prop := hK h a = (10 + ci, 0) ∧ ∀ q ∈ zlay ci, hR h a q.1 = some (if q.2.1 = true then q.2.2.1 else a + q.2.2.1) ∧ hK h (if q.2.1 = true then q.2.2.1 else a + q.2.2.1) = (q.2.2.2.1, q.2.2.2.2)
theorem LX_t {ci a : Nat} {h : HP} (L : LX ci h a) : (hK h a).1 = 10 + ci := by rw [L.1]
theorem LX_r {ci a : Nat} {h : HP} (L : LX ci h a) (k : Nat) (ab : Bool) (off t : Nat) (len : Int) (hq : (zlay ci).contains (k, ab, off, t, len) = true) : hR h a k = some (if ab = true then off else a + off) := (L.2 _ (List.contains_iff_mem.mp hq)).1
theorem LX_k {ci a : Nat} {h : HP} (L : LX ci h a) (k : Nat) (ab : Bool) (off t : Nat) (len : Int) (hq : (zlay ci).contains (k, ab, off, t, len) = true) : hK h (if ab = true then off else a + off) = (t, len) := (L.2 _ (List.contains_iff_mem.mp hq)).2
theorem zrecv_v {z i ci : Nat} {as : List MV} {h : HP} (hz : (zKd z == 0 && zO z == ci) = true) (ht : (hK h i).1 = 10 + ci) : zrecv z (.inr (.inl (some i)) :: as) h = true := by
  simp only [Bool.and_eq_true, beq_iff_eq] at hz
  unfold zrecv
  rw [hz.1]
  simp [ht, hz.2]
def zand (x y : Int) : Int := (Int32.ofInt x &&& Int32.ofInt y).toInt
def zor (x y : Int) : Int := (Int32.ofInt x ||| Int32.ofInt y).toInt
theorem zar4 {x y : Int} (h : rgI (x + y)) : zarith 4 x y = some (x + y) := if_pos h
theorem zar5 {x y : Int} (h : rgI (x - y)) : zarith 5 x y = some (x - y) := if_pos h
theorem zar6 {x y : Int} (h : rgI (x * y)) : zarith 6 x y = some (x * y) := if_pos h
theorem zar7 {x y : Int} (h : 0 ≤ x ∧ 0 < y) : zarith 7 x y = some (x / y) := if_pos h
theorem zar8 {x y : Int} (h : 0 ≤ x ∧ 0 < y) : zarith 8 x y = some (x % y) := if_pos h
theorem zar9 {x y : Int} (h : 0 ≤ x ∧ 0 ≤ y ∧ y < 31) : zarith 9 x y = some (x / 2 ^ y.toNat) := if_pos h
section GO2
variable {y ip b c : Nat} {a x x1 x2 : Int} {r r1 : Option Nat} {i j k : Nat} {ls st : List MV} {h : HP}
theorem Go_getR2 (hz : zrow y ip = (16, a, b, c)) (hs : (zSh b c == 2) = true) (ht : (hK h i).1 = 10 + b) (hr : hR h i c = r1) : Go y ip ls (.inr (.inl (some i)) :: st) h = Go y (ip + 1) ls (.inr (.inl r1) :: st) h := by
  rw [Go_getR hz hs ht, hr]
theorem Go_call3 {z : Nat} {as rest : List MV} {pc : Nat} (hz : zrow y ip = (18, a, z, c)) (hpc : zPc y ip = pc) (hst : st = as.reverse ++ rest) (hg : (decide (as.length = zNa z) && decide (zNa z ≤ zL z) && decide (rest.length ≤ 4)) = true) (hr : zrecv z as h = true) (hs : as.all zsm = true) :
    Go y ip ls st h = cal y pc ls rest (ip + 1) (Go z 0 (zpad z as) [] h) := by
  obtain ⟨v, hv, h1, h2, h3, h4⟩ := zrow_v hz rfl
  rw [Go_call hv (by rw [h1]; rfl) h3 hst hg hr hs, ← zPc_at hv, hpc]
theorem Go_ifeq (hz : zrow y ip = (12, a, 0, c)) : Go y ip ls (.inl x :: st) h = if x = 0 then Go y c ls st h else Go y (ip + 1) ls st h := by
  rw [Go_if hz]
  simp only [zcond, decide_eq_true_eq]
theorem Go_cmpeq (hz : zrow y ip = (13, a, 0, c)) : Go y ip ls (.inl x2 :: .inl x1 :: st) h = if x1 = x2 then Go y c ls st h else Go y (ip + 1) ls st h := by
  rw [Go_icmp hz]
  simp only [zcond, decide_eq_true_eq]
theorem Go_ifne (hz : zrow y ip = (12, a, 1, c)) : Go y ip ls (.inl x :: st) h = if x ≠ 0 then Go y c ls st h else Go y (ip + 1) ls st h := by
  rw [Go_if hz]
  simp only [zcond, decide_eq_true_eq]
theorem Go_cmpne (hz : zrow y ip = (13, a, 1, c)) : Go y ip ls (.inl x2 :: .inl x1 :: st) h = if x1 ≠ x2 then Go y c ls st h else Go y (ip + 1) ls st h := by
  rw [Go_icmp hz]
  simp only [zcond, decide_eq_true_eq]
theorem Go_iflt (hz : zrow y ip = (12, a, 2, c)) : Go y ip ls (.inl x :: st) h = if x < 0 then Go y c ls st h else Go y (ip + 1) ls st h := by
  rw [Go_if hz]
  simp only [zcond, decide_eq_true_eq]
theorem Go_cmplt (hz : zrow y ip = (13, a, 2, c)) : Go y ip ls (.inl x2 :: .inl x1 :: st) h = if x1 < x2 then Go y c ls st h else Go y (ip + 1) ls st h := by
  rw [Go_icmp hz]
  simp only [zcond, decide_eq_true_eq]
theorem Go_ifge (hz : zrow y ip = (12, a, 3, c)) : Go y ip ls (.inl x :: st) h = if 0 ≤ x then Go y c ls st h else Go y (ip + 1) ls st h := by
  rw [Go_if hz]
  simp only [zcond, decide_eq_true_eq]
theorem Go_cmpge (hz : zrow y ip = (13, a, 3, c)) : Go y ip ls (.inl x2 :: .inl x1 :: st) h = if x2 ≤ x1 then Go y c ls st h else Go y (ip + 1) ls st h := by
  rw [Go_icmp hz]
  simp only [zcond, decide_eq_true_eq]
theorem Go_ifgt (hz : zrow y ip = (12, a, 4, c)) : Go y ip ls (.inl x :: st) h = if 0 < x then Go y c ls st h else Go y (ip + 1) ls st h := by
  rw [Go_if hz]
  simp only [zcond, decide_eq_true_eq]
theorem Go_cmpgt (hz : zrow y ip = (13, a, 4, c)) : Go y ip ls (.inl x2 :: .inl x1 :: st) h = if x2 < x1 then Go y c ls st h else Go y (ip + 1) ls st h := by
  rw [Go_icmp hz]
  simp only [zcond, decide_eq_true_eq]
theorem Go_ifle (hz : zrow y ip = (12, a, 5, c)) : Go y ip ls (.inl x :: st) h = if x ≤ 0 then Go y c ls st h else Go y (ip + 1) ls st h := by
  rw [Go_if hz]
  simp only [zcond, decide_eq_true_eq]
theorem Go_cmple (hz : zrow y ip = (13, a, 5, c)) : Go y ip ls (.inl x2 :: .inl x1 :: st) h = if x1 ≤ x2 then Go y c ls st h else Go y (ip + 1) ls st h := by
  rw [Go_icmp hz]
  simp only [zcond, decide_eq_true_eq]
end GO2
