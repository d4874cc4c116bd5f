/-! ===== the start (1): what is made, by a list ===== -/
abbrev MkS : Type := List (Nat × Int) × List (Nat ⊕ (Nat × Nat × Nat)) × List (Nat ⊕ ((Nat × Int × Int) ⊕ (Nat × Nat × Int))) × (Nat × Nat)
def aK (L : Int) : List (Nat × Int) → Nat → Nat × Int
  | [] => fun _ => (6, L)
  | v :: l => zup (aK L l) (l.length + 1) v
def aR : List (Nat ⊕ (Nat × Nat × Nat)) → Nat → Int → Option Nat
  | [] => fun _ _ => none
  | .inl a :: r => zup (aR r) a (fun _ => none)
  | .inr (a, k, v) :: r => zu2 (aR r) a k (some v)
def aI (X : Nat → Int → Int) : List (Nat ⊕ ((Nat × Int × Int) ⊕ (Nat × Nat × Int))) → Nat → Int → Int
  | [] => X
  | .inl a :: w => rowU (aI X w) a (fun _ => 0)
  | .inr (.inl (a, n, x)) :: w => rowU (aI X w) a (fillR (aI X w a) 0 n (fun _ => x))
  | .inr (.inr (a, k, x)) :: w => zu2 (aI X w) a k x
def cHP (L : Int) (X : Nat → Int → Int) (S : MkS) : HP := mI ((S.1.length + 1, S.2.2.2.1, S.2.2.2.2), aK L S.1, fun _ _ => 0, aR S.2.1) (aI X S.2.2.1)
def kd (S : MkS) (i : Nat) : Nat × Int := if 1 ≤ i ∧ i ≤ S.1.length then aK 0 S.1 i else (99, 0)
theorem aK_L {L : Int} {i : Nat} (h1 : 1 ≤ i) : ∀ l : List (Nat × Int), i ≤ l.length → aK L l i = aK 0 l i
  | [], h => by simp at h; omega
  | v :: l, h => by
    unfold aK zup
    by_cases e : i = l.length + 1
    · rw [if_pos e, if_pos e]
    · rw [if_neg e, if_neg e]
      refine aK_L h1 l ?_
      rw [List.length_cons] at h
      omega
theorem kd_K {L : Int} {X : Nat → Int → Int} {S : MkS} {i t : Nat} {n : Int} (h : kd S i = (t, n)) (ht : t ≠ 99) : hK (cHP L X S) i = (t, n) := by
  unfold kd at h
  by_cases c : 1 ≤ i ∧ i ≤ S.1.length
  · rw [if_pos c] at h
    show aK L S.1 i = _
    rw [aK_L c.1 _ c.2, h]
  · rw [if_neg c] at h
    exact absurd (congrArg Prod.fst h).symm ht
/-- an object more -/
def cNw (S : MkS) (t : Nat) (n : Int) (s : Nat) : MkS := ((t, n) :: S.1, .inl (S.1.length + 1) :: S.2.1, .inl (S.1.length + 1) :: S.2.2.1, (S.2.2.2.1 + 1, S.2.2.2.2 + s))
def cPR (S : MkS) (a k v : Nat) : MkS := (S.1, .inr (a, k, v) :: S.2.1, S.2.2.1, S.2.2.2)
def cFl (S : MkS) (a : Nat) (n x : Int) : MkS := (S.1, S.2.1, .inr (.inl (a, n, x)) :: S.2.2.1, S.2.2.2)
def cPI (S : MkS) (a k : Nat) (x : Int) : MkS := (S.1, S.2.1, .inr (.inr (a, k, x)) :: S.2.2.1, S.2.2.2)
theorem cNw_h {L : Int} {X : Nat → Int → Int} {S : MkS} {t : Nat} {n : Int} {s : Nat} : hNew (cHP L X S) t n s = cHP L X (cNw S t n s) := rfl
theorem cPR_h {L : Int} {X : Nat → Int → Int} {S : MkS} {a k v : Nat} : hSR (cHP L X S) a k (some v) = cHP L X (cPR S a k v) := rfl
theorem cPI_h {L : Int} {X : Nat → Int → Int} {S : MkS} {a k : Nat} {x : Int} : hSI (cHP L X S) a k x = cHP L X (cPI S a k x) := rfl
theorem cFl_h {L : Int} {X : Nat → Int → Int} {S : MkS} {a : Nat} {n x : Int} {v2 v3 : MV} (hk : kd S a = (0, n)) (hn : 0 ≤ n ∧ n ≤ 10000) : Go 274 0 [.inr (.inl (some a)), .inl x, v2, v3] [] (cHP L X S) = some (cHP L X (cFl S a n x), .inl none) :=
  k274 (h := ((S.1.length + 1, S.2.2.2.1, S.2.2.2.2), aK L S.1, fun _ _ => 0, aR S.2.1)) (I := aI X S.2.2.1) (kd_K (L := L) (X := X) hk (by decide)) hn
/-- a run through makers -/
def cx : Nat → Nat → Nat → Nat → List MV → List MV → MkS → Option (Option (List MV × List MV) × MkS)
  | 0, _, _, _, _, _, _ => none
  | n + 1, e, y, ip, ls, st, S =>
    if ip = e then some (some (ls, st), S) else
    match zrow y ip with
    | (42, _, b, _) => match ls[b]? with
      | some (.inr (.inl r)) => cx n e y (ip + 1) ls (.inr (.inl r) :: st) S
      | _ => none
    | (43, _, b, _) => match st with
      | .inr (.inl r) :: st => if b < ls.length then cx n e y (ip + 1) (ls.set b (.inr (.inl r))) st S else none
      | _ => none
    | (0, a, _, _) => cx n e y (ip + 1) ls (.inl a :: st) S
    | (27, _, _, _) => match st with
      | .inr (.inl r) :: st => cx n e y (ip + 1) ls (.inr (.inl r) :: .inr (.inl r) :: st) S
      | _ => none
    | (40, _, _, _) => match st with
      | .inr (.inl (some _)) :: st => if st.length ≤ 4 then cx n e y (ip + 1) ls st S else none
      | _ => none
    | (19, _, b, _) => cx n e y (ip + 1) ls (.inr (.inl (some (S.1.length + 1))) :: st) (cNw S (10 + b) 0 (zNF b))
    | (20, _, b, _) => match st with
      | .inl x :: st => if 0 ≤ x ∧ x ≤ 10000 then cx n e y (ip + 1) ls (.inr (.inl (some (S.1.length + 1))) :: st) (cNw S b x x.toNat) else none
      | _ => none
    | (21, _, b, _) => match st with
      | .inl x :: st => if 0 ≤ x ∧ x ≤ 10000 then cx n e y (ip + 1) ls (.inr (.inl (some (S.1.length + 1))) :: st) (cNw S b x x.toNat) else none
      | _ => none
    | (17, _, b, c) => match st with
      | .inr (.inl (some v)) :: .inr (.inl (some i)) :: st => if (kd S i).1 = 10 + b ∧ (kd S i).1 ≠ 99 ∧ zSh b c = 2 then cx n e y (ip + 1) ls st (cPR S i c v) else none
      | .inl x :: .inr (.inl (some i)) :: st => if (kd S i).1 = 10 + b ∧ (kd S i).1 ≠ 99 ∧ (zSh b c = 0 ∨ zSh b c = 1 ∧ (x = 0 ∨ x = 1)) then cx n e y (ip + 1) ls st (cPI S i c x) else none
      | _ => none
    | (16, _, b, c) => match st with
      | .inr (.inl (some i)) :: st => if (kd S i).1 = 10 + b ∧ (kd S i).1 ≠ 99 ∧ zSh b c = 2 then cx n e y (ip + 1) ls (.inr (.inl (aR S.2.1 i c)) :: st) S else none
      | _ => none
    | (18, _, z, _) =>
      if z = 274 then match st with
        | .inl x :: .inr (.inl (some a)) :: rest => if (kd S a).1 = 0 ∧ (0 ≤ (kd S a).2 ∧ (kd S a).2 ≤ 10000) ∧ ((zH y).isEmpty && zhn.all (fun q => !(q.1 == y))) = true ∧ rest.length ≤ 4 then cx n e y (ip + 1) ls rest (cFl S a (kd S a).2 x) else none
        | _ => none
      else match (st.take (zNa z)).reverse with
        | .inr (.inl (some i)) :: as => if zKd z = 2 ∧ ((zH y).isEmpty && zhn.all (fun q => !(q.1 == y))) = true ∧ zNa z ≤ st.length ∧ zNa z ≤ zL z ∧ (st.drop (zNa z)).length ≤ 4 ∧ ((.inr (.inl (some i)) : MV) :: as).all zsm = true then
            match cx n 9999 z 0 (zpad z (.inr (.inl (some i)) :: as)) [] S with
            | some (none, S1) => cx n e y (ip + 1) ls (st.drop (zNa z)) S1
            | _ => none
          else none
        | _ => none
    | (31, _, _, _) => match st with
      | [] => if zRs y = 3 then some (none, S) else none
      | _ => none
    | _ => none
def cG (L : Int) (X : Nat → Int → Int) (e y : Nat) (o : Option (List MV × List MV)) (S1 : MkS) (q : Option (HP × OUT)) : Prop := match o with
  | none => q = some (cHP L X S1, .inl none)
  | some (l1, s1) => q = Go y e l1 s1 (cHP L X S1)
theorem kd_t {L : Int} {X : Nat → Int → Int} {S : MkS} {i t : Nat} (h : (kd S i).1 = t) (h9 : (kd S i).1 ≠ 99) : (hK (cHP L X S) i).1 = t := by
  have := kd_K (L := L) (X := X) (S := S) (i := i) (t := (kd S i).1) (n := (kd S i).2) rfl h9
  rw [this]
  exact h
theorem cx_ok {L : Int} {X : Nat → Int → Int} : ∀ (n e y ip : Nat) (ls st : List MV) (S : MkS) (o : Option (List MV × List MV)) (S1 : MkS), cx n e y ip ls st S = some (o, S1) → cG L X e y o S1 (Go y ip ls st (cHP L X S)) := by
  intro n
  induction n with
  | zero =>
    intro e y ip ls st S o S1 h
    unfold cx at h
    cases h
  | succ n ih =>
    intro e y ip ls st S o S1 h
    unfold cx at h
    by_cases he : ip = e
    · rw [if_pos he] at h
      cases h
      subst he
      rfl
    rw [if_neg he] at h
    generalize hz : zrow y ip = zr at h
    split at h
    · split at h
      · next r hl =>
        rw [Go_aload hz hl]
        exact ih _ _ _ _ _ _ _ _ h
      · cases h
    · split at h
      · split at h
        · next hb =>
          rw [Go_astore hz (decide_eq_true hb)]
          exact ih _ _ _ _ _ _ _ _ h
        · cases h
      · cases h
    · rw [Go_const hz]
      exact ih _ _ _ _ _ _ _ _ h
    · split at h
      · rw [Go_dupR hz]
        exact ih _ _ _ _ _ _ _ _ h
      · cases h
    · split at h
      · split at h
        · next hb =>
          rw [Go_objinit hz (decide_eq_true hb)]
          exact ih _ _ _ _ _ _ _ _ h
        · cases h
      · cases h
    · rw [Go_new hz]
      exact ih _ _ _ _ _ _ _ _ h
    · split at h
      · split at h
        · next hb =>
          rw [Go_newa hz hb]
          exact ih _ _ _ _ _ _ _ _ h
        · cases h
      · cases h
    · split at h
      · split at h
        · next hb =>
          rw [Go_anew hz hb]
          exact ih _ _ _ _ _ _ _ _ h
        · cases h
      · cases h
    · split at h
      · split at h
        · next hb =>
          rw [Go_putR hz (kd_t hb.1 hb.2.1) (by rw [hb.2.2]; rfl)]
          exact ih _ _ _ _ _ _ _ _ h
        · cases h
      · split at h
        · next hb =>
          rw [Go_putI hz (kd_t hb.1 hb.2.1) hb.2.2]
          exact ih _ _ _ _ _ _ _ _ h
        · cases h
      · cases h
    · split at h
      · split at h
        · next hb =>
          rw [Go_getR hz (by rw [hb.2.2]; rfl) (kd_t hb.1 hb.2.1)]
          exact ih _ _ _ _ _ _ _ _ h
        · cases h
      · cases h
    · split at h
      · next h274 =>
        subst h274
        split at h
        · next x a rest =>
          split at h
          · next hb =>
            obtain ⟨k0, k1, kH, kr⟩ := hb
            have e0 : Go y ip ls (.inl x :: .inr (.inl (some a)) :: rest) (cHP L X S) = caln y ls rest (ip + 1) (Go 274 0 (zpad 274 [.inr (.inl (some a)), .inl x]) [] (cHP L X S)) := Go_call2 (as := [.inr (.inl (some a)), .inl x]) (rest := rest) hz kH rfl (by rw [Bool.and_eq_true]; exact ⟨show (decide ((2 : Nat) = zNa 274) && decide (zNa 274 ≤ zL 274)) = true by decide +kernel, decide_eq_true kr⟩) rfl rfl
            rw [e0]
            have e1 : Go 274 0 (zpad 274 [.inr (.inl (some a)), .inl x]) [] (cHP L X S) = some (cHP L X (cFl S a (kd S a).2 x), .inl none) := cFl_h (Prod.ext k0 rfl) k1
            rw [e1, caln_v]
            exact ih _ _ _ _ _ _ _ _ h
          · cases h
        · cases h
      · rename_i _ z _ _
        split at h
        · next i as hst =>
          split at h
          · next hb =>
            obtain ⟨kk, kH, kn, kl, kr, ks⟩ := hb
            have hr : zrecv z (((.inr (.inl (some i)) : MV) :: as)) (cHP L X S) = true := by
              unfold zrecv
              rw [kk]
              rfl
            have hs2 : st = (((.inr (.inl (some i)) : MV) :: as)).reverse ++ st.drop (zNa z) := by
              rw [← hst, List.reverse_reverse, List.take_append_drop]
            have hlen : (((.inr (.inl (some i)) : MV) :: as)).length = zNa z := by
              rw [← hst, List.length_reverse, List.length_take]
              exact Nat.min_eq_left kn
            rw [Go_call2 (as := ((.inr (.inl (some i)) : MV) :: as)) (rest := st.drop (zNa z)) hz kH hs2 (by rw [Bool.and_eq_true, Bool.and_eq_true]; exact ⟨⟨decide_eq_true hlen, decide_eq_true kl⟩, decide_eq_true kr⟩) hr ks]
            split at h
            · next S2 hc =>
              have e1 := ih _ _ _ _ _ _ _ _ hc
              have e2 : Go z 0 (zpad z ((.inr (.inl (some i)) : MV) :: as)) [] (cHP L X S) = some (cHP L X S2, .inl none) := e1
              rw [e2, caln_v]
              exact ih _ _ _ _ _ _ _ _ h
            · cases h
          · cases h
        · cases h
    · split at h
      · split at h
        · next hb =>
          cases h
          exact Go_vret hz (by rw [hb]; rfl)
        · cases h
      · cases h
    · cases h
/-- the run of the makers -/
def cS0 : MkS := ([], [], [], (0, 0))
def okR (r : Option (Option (List MV × List MV) × MkS)) (l s : List MV) (S : MkS) : Bool := match r with
  | some (some (l1, s1), S1) => decide (l1 = l) && decide (s1 = s) && decide (S1.1 = S.1) && decide (S1.2.1 = S.2.1) && decide (S1.2.2.1 = S.2.2.1) && decide (S1.2.2.2 = S.2.2.2)
  | _ => false
theorem okR_e {r : Option (Option (List MV × List MV) × MkS)} {l s : List MV} {S : MkS} (h : okR r l s S = true) : r = some (some (l, s), S) := by
  unfold okR at h
  split at h
  · simp only [Bool.and_eq_true, decide_eq_true_eq] at h
    obtain ⟨⟨⟨⟨⟨h1, h2⟩, h3⟩, h4⟩, h5⟩, h6⟩ := h
    rw [h1, h2]
    exact congrArg (fun z => some (some (l, s), z)) (Prod.ext h3 (Prod.ext h4 (Prod.ext h5 h6)))
  · cases h
def lw0 : List MV := [.inr (.inl (some 0)), vU, vU, vU, vU, vU, vU]
def lw1 : List MV := [.inr (.inl (some 0)), .inr (.inl (some 1)), vU, vU, vU, vU, vU]
def cS1 : MkS := ([(21, 0), (0, 12), (0, 12), (1, 100), (1, 100), (1, 100), (17, 0), (1, 100), (17, 0), (0, 100), (1, 100), (12, 0), (0, 100), (16, 0), (0, 100), (1, 100), (1, 100), (0, 100), (19, 0), (1, 100), (17, 0), (0, 512), (0, 512), (0, 512), (0, 6), (0, 6), (1, 6), (1, 100), (0, 100), (1, 400), (0, 4), (11, 0), (4, 30), (1, 30), (0, 30), (0, 30), (1, 100), (1, 100), (0, 100), (0, 6), (14, 0), (1, 100), (1, 100), (0, 100), (0, 6), (14, 0), (1, 20), (1, 20), (3, 20), (0, 100), (0, 100), (13, 0), (18, 0), (0, 512), (0, 512), (0, 512), (0, 6), (0, 6), (1, 6), (1, 100), (0, 100), (1, 400), (0, 4), (11, 0), (4, 30), (1, 30), (0, 30), (0, 30), (1, 100), (1, 100), (0, 100), (0, 6), (14, 0), (1, 100), (1, 100), (0, 100), (0, 6), (14, 0), (1, 20), (1, 20), (3, 20), (0, 100), (0, 100), (13, 0), (18, 0), (0, 100), (0, 100), (0, 600), (0, 1200), (0, 100), (0, 100), (0, 100), (10, 0), (20, 0)], [.inl 94, .inr (1, 10, 93), .inl 93, .inr (1, 9, 92), .inl 92, .inr (1, 8, 91), .inl 91, .inr (1, 7, 90), .inl 90, .inr (1, 6, 83), .inr (83, 2, 88), .inr (88, 0, 2), .inr (88, 1, 89), .inl 89, .inl 88, .inr (83, 1, 86), .inr (86, 0, 2), .inr (86, 1, 87), .inl 87, .inl 86, .inr (83, 0, 2), .inr (83, 4, 85), .inl 85, .inr (83, 3, 84), .inl 84, .inl 83, .inr (1, 5, 81), .inr (81, 0, 2), .inr (81, 1, 82), .inl 82, .inl 81, .inr (1, 4, 76), .inr (76, 0, 2), .inr (76, 4, 80), .inl 80, .inr (76, 3, 79), .inl 79, .inr (76, 2, 78), .inl 78, .inr (76, 1, 77), .inl 77, .inl 76, .inr (1, 3, 74), .inr (74, 0, 2), .inr (74, 1, 75), .inl 75, .inl 74, .inr (1, 2, 42), .inr (42, 10, 73), .inl 73, .inr (42, 9, 72), .inl 72, .inr (42, 8, 71), .inl 71, .inr (42, 6, 70), .inl 70, .inr (42, 5, 69), .inl 69, .inr (42, 4, 68), .inl 68, .inr (42, 3, 67), .inl 67, .inr (42, 2, 66), .inl 66, .inr (42, 1, 63), .inr (63, 1, 65), .inl 65, .inr (63, 0, 64), .inl 64, .inl 63, .inr (42, 0, 43), .inr (43, 11, 62), .inl 62, .inr (43, 10, 61), .inl 61, .inr (43, 9, 60), .inl 60, .inr (43, 8, 59), .inl 59, .inr (43, 7, 54), .inr (54, 3, 58), .inl 58, .inr (54, 2, 57), .inl 57, .inr (54, 1, 56), .inl 56, .inr (54, 0, 55), .inl 55, .inl 54, .inr (43, 6, 49), .inr (49, 3, 53), .inl 53, .inr (49, 2, 52), .inl 52, .inr (49, 1, 51), .inl 51, .inr (49, 0, 50), .inl 50, .inl 49, .inr (43, 4, 48), .inl 48, .inr (43, 3, 47), .inl 47, .inr (43, 2, 46), .inl 46, .inr (43, 1, 45), .inl 45, .inr (43, 0, 44), .inl 44, .inl 43, .inl 42, .inr (1, 1, 10), .inr (10, 10, 41), .inl 41, .inr (10, 9, 40), .inl 40, .inr (10, 8, 39), .inl 39, .inr (10, 6, 38), .inl 38, .inr (10, 5, 37), .inl 37, .inr (10, 4, 36), .inl 36, .inr (10, 3, 35), .inl 35, .inr (10, 2, 34), .inl 34, .inr (10, 1, 31), .inr (31, 1, 33), .inl 33, .inr (31, 0, 32), .inl 32, .inl 31, .inr (10, 0, 11), .inr (11, 11, 30), .inl 30, .inr (11, 10, 29), .inl 29, .inr (11, 9, 28), .inl 28, .inr (11, 8, 27), .inl 27, .inr (11, 7, 22), .inr (22, 3, 26), .inl 26, .inr (22, 2, 25), .inl 25, .inr (22, 1, 24), .inl 24, .inr (22, 0, 23), .inl 23, .inl 22, .inr (11, 6, 17), .inr (17, 3, 21), .inl 21, .inr (17, 2, 20), .inl 20, .inr (17, 1, 19), .inl 19, .inr (17, 0, 18), .inl 18, .inl 17, .inr (11, 4, 16), .inl 16, .inr (11, 3, 15), .inl 15, .inr (11, 2, 14), .inl 14, .inr (11, 1, 13), .inl 13, .inr (11, 0, 12), .inl 12, .inl 11, .inl 10, .inr (1, 0, 2), .inr (2, 6, 9), .inl 9, .inr (2, 5, 8), .inl 8, .inr (2, 4, 7), .inl 7, .inr (2, 3, 6), .inl 6, .inr (2, 2, 5), .inl 5, .inr (2, 1, 4), .inl 4, .inr (2, 0, 3), .inl 3, .inl 2, .inl 1], [.inl 94, .inr (.inr (1, 13, 1)), .inl 93, .inl 92, .inl 91, .inl 90, .inl 89, .inl 88, .inl 87, .inl 86, .inl 85, .inl 84, .inl 83, .inl 82, .inl 81, .inl 80, .inl 79, .inl 78, .inl 77, .inl 76, .inl 75, .inl 74, .inr (.inl (66, 100, (-1))), .inl 73, .inl 72, .inl 71, .inl 70, .inl 69, .inl 68, .inl 67, .inl 66, .inl 65, .inl 64, .inl 63, .inl 62, .inl 61, .inl 60, .inl 59, .inr (.inl (56, 100, (-1))), .inr (.inl (55, 6, (-1))), .inl 58, .inl 57, .inl 56, .inl 55, .inl 54, .inr (.inl (51, 100, (-1))), .inr (.inl (50, 6, (-1))), .inl 53, .inl 52, .inl 51, .inl 50, .inl 49, .inl 48, .inl 47, .inl 46, .inl 45, .inl 44, .inl 43, .inl 42, .inr (.inl (34, 100, (-1))), .inl 41, .inl 40, .inl 39, .inl 38, .inl 37, .inl 36, .inl 35, .inl 34, .inl 33, .inl 32, .inl 31, .inl 30, .inl 29, .inl 28, .inl 27, .inr (.inl (24, 100, (-1))), .inr (.inl (23, 6, (-1))), .inl 26, .inl 25, .inl 24, .inl 23, .inl 22, .inr (.inl (19, 100, (-1))), .inr (.inl (18, 6, (-1))), .inl 21, .inl 20, .inl 19, .inl 18, .inl 17, .inl 16, .inl 15, .inl 14, .inl 13, .inl 12, .inl 11, .inl 10, .inl 9, .inl 8, .inl 7, .inl 6, .inl 5, .inl 4, .inl 3, .inl 2, .inl 1], (94, 9991))
theorem cx1 : cx 400 6 315 0 lw0 [] cS0 = some (some (lw1, [.inr (.inl (some 94)), .inr (.inl (some 94))]), cS1) := okR_e (by decide +kernel)
def cS2 : MkS := ([(0, 120), (1, 120), (1, 120), (1, 120), (1, 120), (1, 120), (0, 120), (0, 12), (0, 12), (1, 12), (1, 240), (1, 240), (0, 240), (0, 1200), (0, 1200), (0, 1200), (0, 62), (0, 7440), (0, 372), (0, 2), (0, 240), (1, 240), (1, 240), (0, 12), (1, 4800), (0, 4800), (0, 4800), (0, 40), (1, 40), (1, 40), (0, 2), (1, 60), (0, 60), (0, 60), (0, 2), (1, 240), (1, 240), (0, 240), (0, 12), (0, 12), (0, 120), (0, 1440), (0, 120), (0, 120), (21, 0), (0, 12), (0, 12), (1, 100), (1, 100), (1, 100), (17, 0), (1, 100), (17, 0), (0, 100), (1, 100), (12, 0), (0, 100), (16, 0), (0, 100), (1, 100), (1, 100), (0, 100), (19, 0), (1, 100), (17, 0), (0, 512), (0, 512), (0, 512), (0, 6), (0, 6), (1, 6), (1, 100), (0, 100), (1, 400), (0, 4), (11, 0), (4, 30), (1, 30), (0, 30), (0, 30), (1, 100), (1, 100), (0, 100), (0, 6), (14, 0), (1, 100), (1, 100), (0, 100), (0, 6), (14, 0), (1, 20), (1, 20), (3, 20), (0, 100), (0, 100), (13, 0), (18, 0), (0, 512), (0, 512), (0, 512), (0, 6), (0, 6), (1, 6), (1, 100), (0, 100), (1, 400), (0, 4), (11, 0), (4, 30), (1, 30), (0, 30), (0, 30), (1, 100), (1, 100), (0, 100), (0, 6), (14, 0), (1, 100), (1, 100), (0, 100), (0, 6), (14, 0), (1, 20), (1, 20), (3, 20), (0, 100), (0, 100), (13, 0), (18, 0), (0, 100), (0, 100), (0, 600), (0, 1200), (0, 100), (0, 100), (0, 100), (10, 0), (20, 0)], [.inr (94, 48, 138), .inl 138, .inr (94, 47, 137), .inl 137, .inr (94, 46, 136), .inl 136, .inr (94, 45, 135), .inl 135, .inr (94, 44, 134), .inl 134, .inr (94, 43, 133), .inl 133, .inr (94, 42, 132), .inl 132, .inr (94, 40, 131), .inl 131, .inr (94, 39, 130), .inl 130, .inr (94, 38, 129), .inl 129, .inr (94, 37, 128), .inl 128, .inr (94, 36, 127), .inl 127, .inr (94, 35, 126), .inl 126, .inr (94, 34, 125), .inl 125, .inr (94, 33, 124), .inl 124, .inr (94, 32, 123), .inl 123, .inr (94, 31, 122), .inl 122, .inr (94, 30, 121), .inl 121, .inr (94, 29, 120), .inl 120, .inr (94, 28, 119), .inl 119, .inr (94, 27, 118), .inl 118, .inr (94, 26, 117), .inl 117, .inr (94, 25, 116), .inl 116, .inr (94, 24, 115), .inl 115, .inr (94, 23, 114), .inl 114, .inr (94, 22, 113), .inl 113, .inr (94, 21, 112), .inl 112, .inr (94, 20, 111), .inl 111, .inr (94, 19, 110), .inl 110, .inr (94, 18, 109), .inl 109, .inr (94, 17, 108), .inl 108, .inr (94, 16, 107), .inl 107, .inr (94, 15, 106), .inl 106, .inr (94, 14, 105), .inl 105, .inr (94, 13, 104), .inl 104, .inr (94, 12, 103), .inl 103, .inr (94, 11, 102), .inl 102, .inr (94, 10, 101), .inl 101, .inr (94, 7, 100), .inl 100, .inr (94, 6, 99), .inl 99, .inr (94, 4, 98), .inl 98, .inr (94, 3, 97), .inl 97, .inr (94, 2, 96), .inl 96, .inr (94, 1, 95), .inl 95, .inl 94, .inr (1, 10, 93), .inl 93, .inr (1, 9, 92), .inl 92, .inr (1, 8, 91), .inl 91, .inr (1, 7, 90), .inl 90, .inr (1, 6, 83), .inr (83, 2, 88), .inr (88, 0, 2), .inr (88, 1, 89), .inl 89, .inl 88, .inr (83, 1, 86), .inr (86, 0, 2), .inr (86, 1, 87), .inl 87, .inl 86, .inr (83, 0, 2), .inr (83, 4, 85), .inl 85, .inr (83, 3, 84), .inl 84, .inl 83, .inr (1, 5, 81), .inr (81, 0, 2), .inr (81, 1, 82), .inl 82, .inl 81, .inr (1, 4, 76), .inr (76, 0, 2), .inr (76, 4, 80), .inl 80, .inr (76, 3, 79), .inl 79, .inr (76, 2, 78), .inl 78, .inr (76, 1, 77), .inl 77, .inl 76, .inr (1, 3, 74), .inr (74, 0, 2), .inr (74, 1, 75), .inl 75, .inl 74, .inr (1, 2, 42), .inr (42, 10, 73), .inl 73, .inr (42, 9, 72), .inl 72, .inr (42, 8, 71), .inl 71, .inr (42, 6, 70), .inl 70, .inr (42, 5, 69), .inl 69, .inr (42, 4, 68), .inl 68, .inr (42, 3, 67), .inl 67, .inr (42, 2, 66), .inl 66, .inr (42, 1, 63), .inr (63, 1, 65), .inl 65, .inr (63, 0, 64), .inl 64, .inl 63, .inr (42, 0, 43), .inr (43, 11, 62), .inl 62, .inr (43, 10, 61), .inl 61, .inr (43, 9, 60), .inl 60, .inr (43, 8, 59), .inl 59, .inr (43, 7, 54), .inr (54, 3, 58), .inl 58, .inr (54, 2, 57), .inl 57, .inr (54, 1, 56), .inl 56, .inr (54, 0, 55), .inl 55, .inl 54, .inr (43, 6, 49), .inr (49, 3, 53), .inl 53, .inr (49, 2, 52), .inl 52, .inr (49, 1, 51), .inl 51, .inr (49, 0, 50), .inl 50, .inl 49, .inr (43, 4, 48), .inl 48, .inr (43, 3, 47), .inl 47, .inr (43, 2, 46), .inl 46, .inr (43, 1, 45), .inl 45, .inr (43, 0, 44), .inl 44, .inl 43, .inl 42, .inr (1, 1, 10), .inr (10, 10, 41), .inl 41, .inr (10, 9, 40), .inl 40, .inr (10, 8, 39), .inl 39, .inr (10, 6, 38), .inl 38, .inr (10, 5, 37), .inl 37, .inr (10, 4, 36), .inl 36, .inr (10, 3, 35), .inl 35, .inr (10, 2, 34), .inl 34, .inr (10, 1, 31), .inr (31, 1, 33), .inl 33, .inr (31, 0, 32), .inl 32, .inl 31, .inr (10, 0, 11), .inr (11, 11, 30), .inl 30, .inr (11, 10, 29), .inl 29, .inr (11, 9, 28), .inl 28, .inr (11, 8, 27), .inl 27, .inr (11, 7, 22), .inr (22, 3, 26), .inl 26, .inr (22, 2, 25), .inl 25, .inr (22, 1, 24), .inl 24, .inr (22, 0, 23), .inl 23, .inl 22, .inr (11, 6, 17), .inr (17, 3, 21), .inl 21, .inr (17, 2, 20), .inl 20, .inr (17, 1, 19), .inl 19, .inr (17, 0, 18), .inl 18, .inl 17, .inr (11, 4, 16), .inl 16, .inr (11, 3, 15), .inl 15, .inr (11, 2, 14), .inl 14, .inr (11, 1, 13), .inl 13, .inr (11, 0, 12), .inl 12, .inl 11, .inl 10, .inr (1, 0, 2), .inr (2, 6, 9), .inl 9, .inr (2, 5, 8), .inl 8, .inr (2, 4, 7), .inl 7, .inr (2, 3, 6), .inl 6, .inr (2, 2, 5), .inl 5, .inr (2, 1, 4), .inl 4, .inr (2, 0, 3), .inl 3, .inl 2, .inl 1], [.inl 138, .inl 137, .inl 136, .inl 135, .inl 134, .inl 133, .inl 132, .inl 131, .inl 130, .inl 129, .inl 128, .inl 127, .inl 126, .inl 125, .inl 124, .inl 123, .inl 122, .inl 121, .inl 120, .inl 119, .inl 118, .inl 117, .inl 116, .inl 115, .inl 114, .inl 113, .inl 112, .inl 111, .inl 110, .inl 109, .inl 108, .inl 107, .inl 106, .inl 105, .inl 104, .inl 103, .inl 102, .inl 101, .inl 100, .inl 99, .inl 98, .inl 97, .inl 96, .inl 95, .inl 94, .inr (.inr (1, 13, 1)), .inl 93, .inl 92, .inl 91, .inl 90, .inl 89, .inl 88, .inl 87, .inl 86, .inl 85, .inl 84, .inl 83, .inl 82, .inl 81, .inl 80, .inl 79, .inl 78, .inl 77, .inl 76, .inl 75, .inl 74, .inr (.inl (66, 100, (-1))), .inl 73, .inl 72, .inl 71, .inl 70, .inl 69, .inl 68, .inl 67, .inl 66, .inl 65, .inl 64, .inl 63, .inl 62, .inl 61, .inl 60, .inl 59, .inr (.inl (56, 100, (-1))), .inr (.inl (55, 6, (-1))), .inl 58, .inl 57, .inl 56, .inl 55, .inl 54, .inr (.inl (51, 100, (-1))), .inr (.inl (50, 6, (-1))), .inl 53, .inl 52, .inl 51, .inl 50, .inl 49, .inl 48, .inl 47, .inl 46, .inl 45, .inl 44, .inl 43, .inl 42, .inr (.inl (34, 100, (-1))), .inl 41, .inl 40, .inl 39, .inl 38, .inl 37, .inl 36, .inl 35, .inl 34, .inl 33, .inl 32, .inl 31, .inl 30, .inl 29, .inl 28, .inl 27, .inr (.inl (24, 100, (-1))), .inr (.inl (23, 6, (-1))), .inl 26, .inl 25, .inl 24, .inl 23, .inl 22, .inr (.inl (19, 100, (-1))), .inr (.inl (18, 6, (-1))), .inl 21, .inl 20, .inl 19, .inl 18, .inl 17, .inl 16, .inl 15, .inl 14, .inl 13, .inl 12, .inl 11, .inl 10, .inl 9, .inl 8, .inl 7, .inl 6, .inl 5, .inl 4, .inl 3, .inl 2, .inl 1], (138, 41043))
theorem cx2 : cx 400 178 161 0 [.inr (.inl (some 94)), vU] [] cS1 = some (some ([.inr (.inl (some 94)), vU], []), cS2) := okR_e (by decide +kernel)
def lw2 : List MV := [.inr (.inl (some 0)), .inr (.inl (some 1)), .inr (.inl (some 94)), vU, vU, vU, vU]
def lw3 : List MV := [.inr (.inl (some 0)), .inr (.inl (some 1)), .inr (.inl (some 94)), .inr (.inl (some 139)), vU, vU, vU]
def cS3 : MkS := ([(2, 1), (0, 120), (1, 120), (1, 120), (1, 120), (1, 120), (1, 120), (0, 120), (0, 12), (0, 12), (1, 12), (1, 240), (1, 240), (0, 240), (0, 1200), (0, 1200), (0, 1200), (0, 62), (0, 7440), (0, 372), (0, 2), (0, 240), (1, 240), (1, 240), (0, 12), (1, 4800), (0, 4800), (0, 4800), (0, 40), (1, 40), (1, 40), (0, 2), (1, 60), (0, 60), (0, 60), (0, 2), (1, 240), (1, 240), (0, 240), (0, 12), (0, 12), (0, 120), (0, 1440), (0, 120), (0, 120), (21, 0), (0, 12), (0, 12), (1, 100), (1, 100), (1, 100), (17, 0), (1, 100), (17, 0), (0, 100), (1, 100), (12, 0), (0, 100), (16, 0), (0, 100), (1, 100), (1, 100), (0, 100), (19, 0), (1, 100), (17, 0), (0, 512), (0, 512), (0, 512), (0, 6), (0, 6), (1, 6), (1, 100), (0, 100), (1, 400), (0, 4), (11, 0), (4, 30), (1, 30), (0, 30), (0, 30), (1, 100), (1, 100), (0, 100), (0, 6), (14, 0), (1, 100), (1, 100), (0, 100), (0, 6), (14, 0), (1, 20), (1, 20), (3, 20), (0, 100), (0, 100), (13, 0), (18, 0), (0, 512), (0, 512), (0, 512), (0, 6), (0, 6), (1, 6), (1, 100), (0, 100), (1, 400), (0, 4), (11, 0), (4, 30), (1, 30), (0, 30), (0, 30), (1, 100), (1, 100), (0, 100), (0, 6), (14, 0), (1, 100), (1, 100), (0, 100), (0, 6), (14, 0), (1, 20), (1, 20), (3, 20), (0, 100), (0, 100), (13, 0), (18, 0), (0, 100), (0, 100), (0, 600), (0, 1200), (0, 100), (0, 100), (0, 100), (10, 0), (20, 0)], [.inl 139, .inr (94, 48, 138), .inl 138, .inr (94, 47, 137), .inl 137, .inr (94, 46, 136), .inl 136, .inr (94, 45, 135), .inl 135, .inr (94, 44, 134), .inl 134, .inr (94, 43, 133), .inl 133, .inr (94, 42, 132), .inl 132, .inr (94, 40, 131), .inl 131, .inr (94, 39, 130), .inl 130, .inr (94, 38, 129), .inl 129, .inr (94, 37, 128), .inl 128, .inr (94, 36, 127), .inl 127, .inr (94, 35, 126), .inl 126, .inr (94, 34, 125), .inl 125, .inr (94, 33, 124), .inl 124, .inr (94, 32, 123), .inl 123, .inr (94, 31, 122), .inl 122, .inr (94, 30, 121), .inl 121, .inr (94, 29, 120), .inl 120, .inr (94, 28, 119), .inl 119, .inr (94, 27, 118), .inl 118, .inr (94, 26, 117), .inl 117, .inr (94, 25, 116), .inl 116, .inr (94, 24, 115), .inl 115, .inr (94, 23, 114), .inl 114, .inr (94, 22, 113), .inl 113, .inr (94, 21, 112), .inl 112, .inr (94, 20, 111), .inl 111, .inr (94, 19, 110), .inl 110, .inr (94, 18, 109), .inl 109, .inr (94, 17, 108), .inl 108, .inr (94, 16, 107), .inl 107, .inr (94, 15, 106), .inl 106, .inr (94, 14, 105), .inl 105, .inr (94, 13, 104), .inl 104, .inr (94, 12, 103), .inl 103, .inr (94, 11, 102), .inl 102, .inr (94, 10, 101), .inl 101, .inr (94, 7, 100), .inl 100, .inr (94, 6, 99), .inl 99, .inr (94, 4, 98), .inl 98, .inr (94, 3, 97), .inl 97, .inr (94, 2, 96), .inl 96, .inr (94, 1, 95), .inl 95, .inl 94, .inr (1, 10, 93), .inl 93, .inr (1, 9, 92), .inl 92, .inr (1, 8, 91), .inl 91, .inr (1, 7, 90), .inl 90, .inr (1, 6, 83), .inr (83, 2, 88), .inr (88, 0, 2), .inr (88, 1, 89), .inl 89, .inl 88, .inr (83, 1, 86), .inr (86, 0, 2), .inr (86, 1, 87), .inl 87, .inl 86, .inr (83, 0, 2), .inr (83, 4, 85), .inl 85, .inr (83, 3, 84), .inl 84, .inl 83, .inr (1, 5, 81), .inr (81, 0, 2), .inr (81, 1, 82), .inl 82, .inl 81, .inr (1, 4, 76), .inr (76, 0, 2), .inr (76, 4, 80), .inl 80, .inr (76, 3, 79), .inl 79, .inr (76, 2, 78), .inl 78, .inr (76, 1, 77), .inl 77, .inl 76, .inr (1, 3, 74), .inr (74, 0, 2), .inr (74, 1, 75), .inl 75, .inl 74, .inr (1, 2, 42), .inr (42, 10, 73), .inl 73, .inr (42, 9, 72), .inl 72, .inr (42, 8, 71), .inl 71, .inr (42, 6, 70), .inl 70, .inr (42, 5, 69), .inl 69, .inr (42, 4, 68), .inl 68, .inr (42, 3, 67), .inl 67, .inr (42, 2, 66), .inl 66, .inr (42, 1, 63), .inr (63, 1, 65), .inl 65, .inr (63, 0, 64), .inl 64, .inl 63, .inr (42, 0, 43), .inr (43, 11, 62), .inl 62, .inr (43, 10, 61), .inl 61, .inr (43, 9, 60), .inl 60, .inr (43, 8, 59), .inl 59, .inr (43, 7, 54), .inr (54, 3, 58), .inl 58, .inr (54, 2, 57), .inl 57, .inr (54, 1, 56), .inl 56, .inr (54, 0, 55), .inl 55, .inl 54, .inr (43, 6, 49), .inr (49, 3, 53), .inl 53, .inr (49, 2, 52), .inl 52, .inr (49, 1, 51), .inl 51, .inr (49, 0, 50), .inl 50, .inl 49, .inr (43, 4, 48), .inl 48, .inr (43, 3, 47), .inl 47, .inr (43, 2, 46), .inl 46, .inr (43, 1, 45), .inl 45, .inr (43, 0, 44), .inl 44, .inl 43, .inl 42, .inr (1, 1, 10), .inr (10, 10, 41), .inl 41, .inr (10, 9, 40), .inl 40, .inr (10, 8, 39), .inl 39, .inr (10, 6, 38), .inl 38, .inr (10, 5, 37), .inl 37, .inr (10, 4, 36), .inl 36, .inr (10, 3, 35), .inl 35, .inr (10, 2, 34), .inl 34, .inr (10, 1, 31), .inr (31, 1, 33), .inl 33, .inr (31, 0, 32), .inl 32, .inl 31, .inr (10, 0, 11), .inr (11, 11, 30), .inl 30, .inr (11, 10, 29), .inl 29, .inr (11, 9, 28), .inl 28, .inr (11, 8, 27), .inl 27, .inr (11, 7, 22), .inr (22, 3, 26), .inl 26, .inr (22, 2, 25), .inl 25, .inr (22, 1, 24), .inl 24, .inr (22, 0, 23), .inl 23, .inl 22, .inr (11, 6, 17), .inr (17, 3, 21), .inl 21, .inr (17, 2, 20), .inl 20, .inr (17, 1, 19), .inl 19, .inr (17, 0, 18), .inl 18, .inl 17, .inr (11, 4, 16), .inl 16, .inr (11, 3, 15), .inl 15, .inr (11, 2, 14), .inl 14, .inr (11, 1, 13), .inl 13, .inr (11, 0, 12), .inl 12, .inl 11, .inl 10, .inr (1, 0, 2), .inr (2, 6, 9), .inl 9, .inr (2, 5, 8), .inl 8, .inr (2, 4, 7), .inl 7, .inr (2, 3, 6), .inl 6, .inr (2, 2, 5), .inl 5, .inr (2, 1, 4), .inl 4, .inr (2, 0, 3), .inl 3, .inl 2, .inl 1], [.inl 139, .inr (.inl (126, 240, (-1000))), .inl 138, .inl 137, .inl 136, .inl 135, .inl 134, .inl 133, .inl 132, .inl 131, .inl 130, .inl 129, .inl 128, .inl 127, .inl 126, .inl 125, .inl 124, .inl 123, .inl 122, .inl 121, .inl 120, .inl 119, .inl 118, .inl 117, .inl 116, .inl 115, .inl 114, .inl 113, .inl 112, .inl 111, .inl 110, .inl 109, .inl 108, .inl 107, .inl 106, .inl 105, .inl 104, .inl 103, .inl 102, .inl 101, .inl 100, .inl 99, .inl 98, .inl 97, .inl 96, .inl 95, .inl 94, .inr (.inr (1, 13, 1)), .inl 93, .inl 92, .inl 91, .inl 90, .inl 89, .inl 88, .inl 87, .inl 86, .inl 85, .inl 84, .inl 83, .inl 82, .inl 81, .inl 80, .inl 79, .inl 78, .inl 77, .inl 76, .inl 75, .inl 74, .inr (.inl (66, 100, (-1))), .inl 73, .inl 72, .inl 71, .inl 70, .inl 69, .inl 68, .inl 67, .inl 66, .inl 65, .inl 64, .inl 63, .inl 62, .inl 61, .inl 60, .inl 59, .inr (.inl (56, 100, (-1))), .inr (.inl (55, 6, (-1))), .inl 58, .inl 57, .inl 56, .inl 55, .inl 54, .inr (.inl (51, 100, (-1))), .inr (.inl (50, 6, (-1))), .inl 53, .inl 52, .inl 51, .inl 50, .inl 49, .inl 48, .inl 47, .inl 46, .inl 45, .inl 44, .inl 43, .inl 42, .inr (.inl (34, 100, (-1))), .inl 41, .inl 40, .inl 39, .inl 38, .inl 37, .inl 36, .inl 35, .inl 34, .inl 33, .inl 32, .inl 31, .inl 30, .inl 29, .inl 28, .inl 27, .inr (.inl (24, 100, (-1))), .inr (.inl (23, 6, (-1))), .inl 26, .inl 25, .inl 24, .inl 23, .inl 22, .inr (.inl (19, 100, (-1))), .inr (.inl (18, 6, (-1))), .inl 21, .inl 20, .inl 19, .inl 18, .inl 17, .inl 16, .inl 15, .inl 14, .inl 13, .inl 12, .inl 11, .inl 10, .inl 9, .inl 8, .inl 7, .inl 6, .inl 5, .inl 4, .inl 3, .inl 2, .inl 1], (139, 41044))
theorem cx3 : cx 400 11 315 8 lw2 [] (cFl cS2 126 240 (-1000)) = some (some (lw3, []), cS3) := okR_e (by decide +kernel)
theorem cS2_k : kd cS2 94 = (21, 0) ∧ kd cS2 126 = (0, 240) ∧ aR cS2.2.1 94 35 = some 126 ∧ kd cS1 94 = (21, 0) := by decide +kernel
