/-! ===== the start (2): the coupling at the start ===== -/
def hG (L : Int) (S : MkS) : HP := ((S.1.length + 1, S.2.2.2.1, S.2.2.2.2), aK L S.1, fun _ _ => 0, aR S.2.1)
def iG (X : Nat → Int → Int) (S : MkS) : Nat → Int → Int := aI X S.2.2.1
theorem cHP_G {L : Int} {X : Nat → Int → Int} {S : MkS} : cHP L X S = mI (hG L S) (iG X S) := rfl
theorem hG_N {L : Int} {S : MkS} : hN (hG L S) = S.1.length + 1 := rfl
def lxc (S : MkS) (ci a : Nat) : Bool := decide (kd S a = (10 + ci, 0)) && decide (ci < 80) && (zlay ci).all (fun q => decide (aR S.2.1 a (q.1 : Int) = some (if q.2.1 = true then q.2.2.1 else a + q.2.2.1)) && decide (kd S (if q.2.1 = true then q.2.2.1 else a + q.2.2.1) = (q.2.2.2.1, q.2.2.2.2)) && decide (q.2.2.2.1 ≠ 99))
theorem lxc_L {L : Int} {X : Nat → Int → Int} {S : MkS} {ci a : Nat} (h : lxc S ci a = true) : LX ci (cHP L X S) a := by
  unfold lxc at h
  simp only [Bool.and_eq_true, decide_eq_true_eq] at h
  obtain ⟨⟨h1, h0⟩, h2⟩ := h
  refine ⟨kd_K h1 (by omega), fun q hq => ?_⟩
  have := List.all_eq_true.mp h2 q hq
  simp only [Bool.and_eq_true, decide_eq_true_eq] at this
  exact ⟨this.1.1, kd_K this.1.2 this.2⟩
def lxl : List (Nat × Nat) := [(10, 1), (0, 2), (8, 10), (8, 42), (3, 11), (3, 43), (4, 17), (4, 22), (4, 49), (4, 54), (1, 31), (1, 63), (7, 74), (9, 76), (6, 81), (2, 83), (11, 94), (7, 86), (7, 88)]
theorem lx_s {L : Int} {S : MkS} (ok : lxl.all (fun p => lxc S p.1 p.2) = true) {ci a : Nat} (h : (ci, a) ∈ lxl) : LX ci (hG L S) a := by
  have := List.all_eq_true.mp ok (ci, a) h
  exact lxc_L (L := L) (X := fun _ _ => 0) this
theorem lyb_s {L : Int} {S : MkS} (ok : lxl.all (fun p => lxc S p.1 p.2) = true) (len : S.1.length = 139) (k139 : kd S 139 = (2, 1)) : LYB (hG L S) := by
  have g : ∀ {ci a : Nat}, (ci, a) ∈ lxl → LX ci (hG L S) a := fun h => lx_s ok h
  refine ⟨⟨by rw [hG_N, len]; decide, ⟨g (by decide), g (by decide), g (by decide), g (by decide)⟩, ⟨g (by decide), g (by decide), g (by decide), g (by decide), g (by decide), g (by decide)⟩, ⟨g (by decide), g (by decide), g (by decide), g (by decide)⟩, g (by decide), g (by decide), g (by decide)⟩, ⟨g (by decide), g (by decide)⟩, ?_⟩
  exact kd_K (L := L) (X := fun _ _ => 0) k139 (by decide)
def rno (x : Nat) : List (Nat ⊕ (Nat × Nat × Nat)) → Bool
  | [] => true
  | .inl _ :: r => rno x r
  | .inr (a, _, _) :: r => decide (a ≠ x) && rno x r
theorem rno_0 {x : Nat} : ∀ r : List (Nat ⊕ (Nat × Nat × Nat)), rno x r = true → ∀ k, aR r x k = none
  | [], _, _ => rfl
  | .inl a :: r, h, k => by
    show (if x = a then fun _ => none else aR r x) k = none
    split
    · rfl
    · exact rno_0 r h k
  | .inr (a, j, v) :: r, h, k => by
    unfold rno at h
    simp only [Bool.and_eq_true, decide_eq_true_eq] at h
    show (if x = a ∧ k = (j : Int) then some v else aR r x k) = none
    rw [if_neg (fun q => h.1 q.1.symm)]
    exact rno_0 r h.2 k
theorem own_s {L : Int} {S : MkS} (len : S.1.length = 139) (r14 : rno 14 S.2.1 = true) (r46 : rno 46 S.2.1 = true) (r30 : rno 30 S.2.1 = true) (r62 : rno 62 S.2.1 = true) : OWN (hG L S) := by
  have z : ∀ x k, OAr x → hR (hG L S) x k = none := fun x k hx => by
    obtain (rfl | rfl) | rfl | rfl := hx
    · exact rno_0 (x := 14) S.2.1 r14 k
    · exact rno_0 (x := 46) S.2.1 r46 k
    · exact rno_0 (x := 30) S.2.1 r30 k
    · exact rno_0 (x := 62) S.2.1 r62 k
  refine ⟨by rw [hG_N, len]; decide, fun x k a hx h => ?_, fun x k a y j b hx hy h1 h2 => ?_⟩
  · rw [z x k hx] at h
    cases h
  · rw [z x k hx] at h1
    cases h1
abbrev WOp : Type := Nat ⊕ ((Nat × Int × Int) ⊕ (Nat × Nat × Int))
def rowz (a : Nat) : List WOp → Bool
  | [] => false
  | .inl b :: w => if a = b then true else rowz a w
  | .inr (.inl (b, _, _)) :: w => if a = b then false else rowz a w
  | .inr (.inr (b, _, _)) :: w => if a = b then false else rowz a w
theorem rowz_0 {X : Nat → Int → Int} {a : Nat} : ∀ w : List WOp, rowz a w = true → aI X w a = fun _ => 0
  | [], h => by cases h
  | .inl b :: w, h => by
    unfold rowz at h
    unfold aI
    by_cases c : a = b
    · rw [c, rowU_eq]
    · rw [if_neg c] at h
      rw [rowU_ne c]
      exact rowz_0 w h
  | .inr (.inl (b, n, x)) :: w, h => by
    unfold rowz at h
    unfold aI
    by_cases c : a = b
    · rw [if_pos c] at h; cases h
    · rw [if_neg c] at h
      rw [rowU_ne c]
      exact rowz_0 w h
  | .inr (.inr (b, k, x)) :: w, h => by
    unfold rowz at h
    unfold aI
    by_cases c : a = b
    · rw [if_pos c] at h; cases h
    · rw [if_neg c] at h
      rw [zu2_row, rowU_ne c]
      exact rowz_0 w h
def rowf (a : Nat) (n x : Int) : List WOp → Bool
  | [] => false
  | .inl b :: w => if a = b then false else rowf a n x w
  | .inr (.inl (b, m, y)) :: w => if a = b then decide (m = n) && decide (y = x) && rowz a w else rowf a n x w
  | .inr (.inr (b, _, _)) :: w => if a = b then false else rowf a n x w
theorem rowf_0 {X : Nat → Int → Int} {a : Nat} {n x : Int} : ∀ w : List WOp, rowf a n x w = true → aI X w a = fillR (fun _ => 0) 0 n (fun _ => x)
  | [], h => by cases h
  | .inl b :: w, h => by
    unfold rowf at h
    unfold aI
    by_cases c : a = b
    · rw [if_pos c] at h; cases h
    · rw [if_neg c] at h
      rw [rowU_ne c]
      exact rowf_0 w h
  | .inr (.inl (b, m, y)) :: w, h => by
    unfold rowf at h
    unfold aI
    by_cases c : a = b
    · rw [if_pos c] at h
      simp only [Bool.and_eq_true, decide_eq_true_eq] at h
      obtain ⟨⟨h1, h2⟩, h3⟩ := h
      subst c h1 h2
      rw [rowU_eq, rowz_0 w h3]
    · rw [if_neg c] at h
      rw [rowU_ne c]
      exact rowf_0 w h
  | .inr (.inr (b, k, y)) :: w, h => by
    unfold rowf at h
    unfold aI
    by_cases c : a = b
    · rw [if_pos c] at h; cases h
    · rw [if_neg c] at h
      rw [zu2_row, rowU_ne c]
      exact rowf_0 w h
def rowo (a k : Nat) (x : Int) : List WOp → Bool
  | [] => false
  | .inl b :: w => if a = b then false else rowo a k x w
  | .inr (.inl (b, _, _)) :: w => if a = b then false else rowo a k x w
  | .inr (.inr (b, j, y)) :: w => if a = b then decide (j = k) && decide (y = x) && rowz a w else rowo a k x w
theorem rowo_0 {X : Nat → Int → Int} {a k : Nat} {x : Int} : ∀ w : List WOp, rowo a k x w = true → aI X w a = up1 (fun _ => 0) k x
  | [], h => by cases h
  | .inl b :: w, h => by
    unfold rowo at h
    unfold aI
    by_cases c : a = b
    · rw [if_pos c] at h; cases h
    · rw [if_neg c] at h
      rw [rowU_ne c]
      exact rowo_0 w h
  | .inr (.inl (b, m, y)) :: w, h => by
    unfold rowo at h
    unfold aI
    by_cases c : a = b
    · rw [if_pos c] at h; cases h
    · rw [if_neg c] at h
      rw [rowU_ne c]
      exact rowo_0 w h
  | .inr (.inr (b, j, y)) :: w, h => by
    unfold rowo at h
    unfold aI
    by_cases c : a = b
    · rw [if_pos c] at h
      simp only [Bool.and_eq_true, decide_eq_true_eq] at h
      obtain ⟨⟨h1, h2⟩, h3⟩ := h
      subst c h1 h2
      rw [zu2_row, rowU_eq, rowz_0 w h3]
    · rw [if_neg c] at h
      rw [zu2_row, rowU_ne c]
      exact rowo_0 w h
def spL_ : List Nat := [1, 18, 19, 23, 24, 34, 50, 51, 55, 56, 66, 126]
def ffl : List (Nat × Int) := [(18, 6), (19, 100), (23, 6), (24, 100), (34, 100), (50, 6), (51, 100), (55, 6), (56, 100), (66, 100)]
/-- what is known of the numbers at the start -/
def Zst (I : Nat → Int → Int) : Prop := (∀ a, 1 ≤ a ∧ a ≤ 139 → spL_.contains a = false → I a = fun _ => 0) ∧ (∀ a n, (a, n) ∈ ffl → I a = fillR (fun _ => 0) 0 n (fun _ => -1)) ∧ I 1 = up1 (fun _ => 0) 13 1 ∧ I 126 = fillR (fun _ => 0) 0 240 (fun _ => -1000)
theorem zst_s {X : Nat → Int → Int} {S : MkS} (zz : (List.range' 1 139).all (fun a => spL_.contains a || rowz a S.2.2.1) = true) (ff : ffl.all (fun p => rowf p.1 p.2 (-1) S.2.2.1) = true) (o1 : rowo 1 13 1 S.2.2.1 = true) (o2 : rowf 126 240 (-1000) S.2.2.1 = true) : Zst (iG X S) := by
  refine ⟨fun a h hs => ?_, fun a n h => rowf_0 _ (List.all_eq_true.mp ff (a, n) h), rowo_0 _ o1, rowf_0 _ o2⟩
  have := List.all_eq_true.mp zz a (List.mem_range'_1.mpr ⟨h.1, by omega⟩)
  rw [hs, Bool.false_or] at this
  exact rowz_0 _ this
theorem len_s : cS3.1.length = 139 := by decide +kernel
theorem zst_3 {X : Nat → Int → Int} : Zst (iG X cS3) := zst_s (S := cS3) (by decide +kernel) (by decide +kernel) (by decide +kernel) (by decide +kernel)
theorem lyb_3 {L : Int} : LYB (hG L cS3) := lyb_s (S := cS3) (by decide +kernel) len_s (by decide +kernel)
theorem own_3 {L : Int} : OWN (hG L cS3) := own_s (S := cS3) len_s (by decide +kernel) (by decide +kernel) (by decide +kernel) (by decide +kernel)
theorem spent_3 : cS3.2.2.2.1 ≤ 139 ∧ cS3.2.2.2.2 ≤ 41044 := by decide +kernel
theorem ind_0 : (fun _ : Int => (0 : Int)) = ind (fun _ => False) := by
  funext j
  exact (b01_f (fun q => q)).symm
theorem f_in {n x j : Int} (h : 0 ≤ j ∧ j < n) : fillR (fun _ => 0) 0 n (fun _ => x) j = x := fillR_in h
theorem f_or {n x j : Int} : fillR (fun _ => 0) 0 n (fun _ => x) j = x ∨ fillR (fun _ => 0) 0 n (fun _ => x) j = 0 := by
  unfold fillR
  split
  · exact Or.inl rfl
  · exact Or.inr rfl
section STRT
variable {I : Nat → Int → Int} {h : HP}
/-- the reference's rows at the start -/
def ZJ (J : Nat → Int → Int) : Prop := (∀ a, 94 ≤ a ∧ a ≤ 138 → a ≠ 126 → J a = fun _ => 0) ∧ J 126 = fillR (fun _ => 0) 0 240 (fun _ => -1000)
theorem zst_J (Z : Zst I) : ZJ I := ⟨fun a ha h6 => Z.1 a (by omega) (by
    have : a ∉ spL_ := fun q => by
      unfold spL_ at q
      simp only [List.mem_cons, List.not_mem_nil, or_false] at q
      omega
    exact Bool.eq_false_iff.mpr (fun q => this (List.contains_iff_mem.mp q))), Z.2.2.2⟩
theorem NtOK_0 {J : Nat → Int → Int} (h0 : J 94 0 = 0) {r b f : Int → Int} (hr : ∀ k, 0 ≤ k → k < 6 → r k = 0) (hb : ∀ o, 0 ≤ o → o < 120 → b o = 0) (hf : ∀ o, 0 ≤ o → o < 120 → f o = 0) : NtOK J r b f := by
  refine ⟨fun k k0 k1 => ?_, fun o o0 o1 => ?_, fun o o0 o1 q => absurd (hf o o0 o1) q, fun _ => 0, fun a c va _ => ?_⟩
  · rw [hr k k0 k1, h0]; exact ⟨by decide, fun q => absurd rfl q⟩
  · rw [hb o o0 o1, h0]; exact ⟨by decide, fun q => absurd rfl q⟩
  · have := va.1
    rw [h0] at this
    omega
theorem INV_0 {J : Nat → Int → Int} (Z : ZJ J) : INV 0 J := by
  obtain ⟨z, z6⟩ := Z
  have v : ∀ a, (94 ≤ a ∧ a ≤ 138) → a ≠ 126 → ∀ j, J a j = 0 := fun a ha h j => by rw [z a ha h]
  have h0 : J 94 0 = 0 := v 94 (by decide) (by decide) 0
  have h6 : ∀ j, J 126 j = -1000 ∨ J 126 j = 0 := fun j => by rw [z6]; exact f_or
  have WBz : WB J := ⟨by rw [h0]; decide, fun o o0 o1 => by rw [h0] at o1; omega⟩
  have e0 : ∀ s, eN J s = 0 := fun s => eN_0 (fun i _ _ => v 129 (by decide) (by decide) _)
  refine ⟨⟨⟨WBz, fun o o0 o1 => by rw [h0] at o1; omega, fun j => by rw [v 97 (by decide) (by decide)]; decide⟩, fun a b a0 a1 => by rw [h0] at a1; omega, ⟨by rw [v 94 (by decide) (by decide)]; decide, fun j j0 j1 => by rw [v 94 (by decide) (by decide)] at j1; omega⟩⟩, ⟨WBz, ⟨fun j => Or.inl (v 103 (by decide) (by decide) j), fun j => Or.inl (v 107 (by decide) (by decide) j), fun j => by rw [v 101 (by decide) (by decide)]; decide⟩, fun j => by rw [v 118 (by decide) (by decide)]; decide, ⟨fun s _ => by rw [v 108 (by decide) (by decide)]; decide, fun p _ _ => ⟨by rw [v 111 (by decide) (by decide)]; decide, fun k k0 k1 => by rw [v 111 (by decide) (by decide)] at k1; omega⟩⟩, fun j => Or.inl (v 109 (by decide) (by decide) j), fun s _ => by rw [v 104 (by decide) (by decide)]; decide, fun j => by rw [v 97 (by decide) (by decide)]; decide⟩, ⟨fun j => Or.inl (v 110 (by decide) (by decide) j), fun j => Or.inl (v 116 (by decide) (by decide) j), fun j => Or.inl (v 117 (by decide) (by decide) j), fun j => Or.inl (v 127 (by decide) (by decide) j)⟩, ⟨⟨⟨fun j => Or.inl (v 129 (by decide) (by decide) j), fun k _ _ => by rw [v 131 (by decide) (by decide), h0]; decide⟩, fun k _ _ q => absurd (v 131 (by decide) (by decide) k) q⟩, ⟨fun s k _ k0 k1 => by rw [v 119 (by decide) (by decide)] at k1; omega, fun k => by rw [v 125 (by decide) (by decide)]; decide, fun k => ?_, by rw [v 94 (by decide) (by decide)]; decide, fun s _ => by rw [v 119 (by decide) (by decide)]; decide⟩, ⟨fun s k _ k0 k1 => by rw [v 104 (by decide) (by decide)] at k1; omega, fun s k _ k0 k1 => by rw [v 104 (by decide) (by decide)] at k1; omega⟩, ⟨fun j => by rw [v 121 (by decide) (by decide)]; decide, fun j => by rw [v 122 (by decide) (by decide)]; decide⟩⟩, ⟨fun s p _ _ _ => ⟨v 109 (by decide) (by decide) _, v 110 (by decide) (by decide) _⟩, fun s p _ p0 p1 => by rw [v 108 (by decide) (by decide)] at p1; omega, fun s o _ _ _ => ⟨v 101 (by decide) (by decide) _, v 102 (by decide) (by decide) _⟩, fun s o _ _ _ => v 127 (by decide) (by decide) _⟩, ⟨fun k => ?_, fun o o0 o1 => by rw [h0] at o1; omega⟩, ?_, Or.inl (v 94 (by decide) (by decide) _), by rw [v 94 (by decide) (by decide)]; decide, by rw [v 94 (by decide) (by decide)]; decide, fun s _ => by rw [v 119 (by decide) (by decide), e0]; decide⟩
  · obtain q | q := h6 k <;> rw [q] <;> decide
  · obtain q | q := h6 k <;> rw [q] <;> decide
  · have is : ∀ s, INVs J s := fun s => by
      have h104 : J 104 s = 0 := v 104 (by decide) (by decide) s
      refine ⟨⟨fun o _ _ => ?_, fun p _ _ => ?_, ?_⟩, ⟨by rw [v 122 (by decide) (by decide), v 119 (by decide) (by decide)]; decide, fun k k0 k1 => by rw [h104] at k1; omega⟩, NtOK_0 h0 (fun k _ _ => v 115 (by decide) (by decide) _) (fun o _ _ => v 118 (by decide) (by decide) _) (fun o _ _ => v 116 (by decide) (by decide) _), fun t _ => NtOK_0 h0 (fun k _ _ => v 120 (by decide) (by decide) _) (fun o _ _ => by rw [v 121 (by decide) (by decide)]; decide) (fun o _ _ => by rw [v 121 (by decide) (by decide)]; decide)⟩
      · rw [h104]
        show _ = if J 102 (120 * s + o) = 0 then 0 else 1
        rw [if_pos (v 102 (by decide) (by decide) _), v 101 (by decide) (by decide)]
      · rw [h104]
        show _ = J 110 p
        rw [v 109 (by decide) (by decide), v 110 (by decide) (by decide)]
      · rw [h104]
        refine ⟨fun k _ _ => by rw [v 120 (by decide) (by decide), v 115 (by decide) (by decide)], by rw [v 122 (by decide) (by decide), v 119 (by decide) (by decide)], fun o _ _ => ?_⟩
        unfold nC
        rw [v 121 (by decide) (by decide), v 118 (by decide) (by decide), v 116 (by decide) (by decide), v 117 (by decide) (by decide)]
        decide
    exact ⟨is 0, is 1⟩
theorem WSc_0 {J : Nat → Int → Int} (Z : ZJ J) : WSc J := fun a a0 a1 => ⟨fun _ => False, fun _ q => q.elim, by rw [Z.1 a (by omega) (by omega)]; exact ind_0⟩
theorem CPL_0 (Z : Zst I) : CPL h I I := by
  have ZI := zst_J Z
  obtain ⟨z, f, o1, _⟩ := Z
  have v : ∀ a, (94 ≤ a ∧ a ≤ 138) → a ≠ 126 → ∀ j, I a j = 0 := fun a ha h j => by rw [ZI.1 a ha h]
  have w : ∀ a, spL_.contains a = false → 1 ≤ a ∧ a ≤ 139 → ∀ j, I a j = 0 := fun a hs ha j => by rw [z a ha hs]
  have h0 : I 94 0 = 0 := v 94 (by decide) (by decide) 0
  have e0 : ∀ s, eN I s = 0 := fun s => eN_0 (fun i _ _ => v 129 (by decide) (by decide) _)
  have cs : ∀ s, s = 0 ∨ s = 1 → CS h I I (sto s) s := fun s hs => by
    have sp : ∀ k, k = 0 ∨ k = 1 ∨ (2 ≤ k ∧ k ≤ 7) ∨ (10 ≤ k ∧ k ≤ 12) ∨ (15 ≤ k ∧ k ≤ 23) ∨ (25 ≤ k ∧ k ≤ 31) → ∀ j, I (sto s + k) j = 0 := fun k hk j => by
      have st : s = 0 ∧ sto s = 10 ∨ s = 1 ∧ sto s = 42 := by
        obtain rfl | rfl := hs
        · exact Or.inl ⟨rfl, rfl⟩
        · exact Or.inr ⟨rfl, rfl⟩
      have st2 := sto_o (s := s)
      refine w _ ?_ (by omega) j
      refine Bool.eq_false_iff.mpr (fun q => ?_)
      have q := List.contains_iff_mem.mp q
      unfold spL_ at q
      simp only [List.mem_cons, List.not_mem_nil, or_false] at q
      omega
    have fl : (∀ j, 0 ≤ j → j < 6 → I (sto s + 8) j = -1 ∧ I (sto s + 13) j = -1) ∧ ∀ j, 0 ≤ j → j < 100 → I (sto s + 9) j = -1 ∧ I (sto s + 14) j = -1 ∧ I (sto s + 24) j = -1 := by
      obtain rfl | rfl := hs
      · refine ⟨fun j j0 j1 => ⟨?_, ?_⟩, fun j j0 j1 => ⟨?_, ?_, ?_⟩⟩
        · show I 18 j = -1; rw [f 18 6 (by decide)]; exact f_in ⟨j0, j1⟩
        · show I 23 j = -1; rw [f 23 6 (by decide)]; exact f_in ⟨j0, j1⟩
        · show I 19 j = -1; rw [f 19 100 (by decide)]; exact f_in ⟨j0, j1⟩
        · show I 24 j = -1; rw [f 24 100 (by decide)]; exact f_in ⟨j0, j1⟩
        · show I 34 j = -1; rw [f 34 100 (by decide)]; exact f_in ⟨j0, j1⟩
      · refine ⟨fun j j0 j1 => ⟨?_, ?_⟩, fun j j0 j1 => ⟨?_, ?_, ?_⟩⟩
        · show I 50 j = -1; rw [f 50 6 (by decide)]; exact f_in ⟨j0, j1⟩
        · show I 55 j = -1; rw [f 55 6 (by decide)]; exact f_in ⟨j0, j1⟩
        · show I 51 j = -1; rw [f 51 100 (by decide)]; exact f_in ⟨j0, j1⟩
        · show I 56 j = -1; rw [f 56 100 (by decide)]; exact f_in ⟨j0, j1⟩
        · show I 66 j = -1; rw [f 66 100 (by decide)]; exact f_in ⟨j0, j1⟩
    have sr : 0 ≤ s ∧ s ≤ 1 := by omega
    refine ⟨⟨⟨fun o o0 o1 => ⟨?_, ?_⟩, fun p p0 p1 => ⟨?_, ?_⟩⟩, ⟨?_, fun p p0 p1 => ?_⟩, ⟨⟨fun k k0 k1 => ?_, ?_, fun o o0 o1 => ⟨?_, ?_, ?_⟩⟩, fun k k0 k1 => ?_, ?_, fun o o0 o1 => ⟨?_, ?_, ?_⟩⟩, ?_, fun k k0 k1 => ?_⟩, ⟨fun o o0 o1 => ⟨?_, ?_⟩, fun r r0 r1 => ⟨?_, fun q => absurd (v 129 (by decide) (by decide) _) q⟩, ?_, fun e e0 e1 => ?_⟩, CC_0 (sp 21 (by omega) 2) (fun o _ _ => v 128 (by decide) (by decide) _)⟩
    · have a := sp 2 (by omega) o
      rw [show sto s + 1 + 1 = sto s + 2 from rfl, a]
      unfold lcI
      rw [if_pos (v 101 (by decide) (by decide) _)]
    · have a := sp 3 (by omega) o
      rw [show sto s + 1 + 2 = sto s + 3 from rfl, a]
      unfold kc
      rw [if_pos (v 102 (by decide) (by decide) _)]
    · rw [show sto s + 1 + 4 = sto s + 5 from rfl, sp 5 (by omega), v 109 (by decide) (by decide)]
    · rw [show sto s + 1 + 5 = sto s + 6 from rfl, sp 6 (by omega), v 110 (by decide) (by decide)]
    · rw [sp 1 (by omega), v 108 (by decide) (by decide)]
    · rw [v 108 (by decide) (by decide)] at p1; omega
    · rw [show sto s + 1 + 6 + 1 = sto s + 8 from rfl, (fl.1 k k0 k1).1]; dsimp only; rw [v 115 (by decide) (by decide)]; rfl
    · rw [show sto s + 1 + 6 = sto s + 7 from rfl, sp 7 (by omega), v 119 (by decide) (by decide)]
    · rw [show sto s + 1 + 6 + 2 = sto s + 9 from rfl, (fl.2 o o0 o1).1]; dsimp only; rw [v 118 (by decide) (by decide)]; rfl
    · rw [show sto s + 1 + 6 + 3 = sto s + 10 from rfl, sp 10 (by omega)]; dsimp only; rw [v 116 (by decide) (by decide)]
    · rw [show sto s + 1 + 6 + 4 = sto s + 11 from rfl, sp 11 (by omega)]; dsimp only; rw [v 117 (by decide) (by decide)]
    · rw [show sto s + 1 + 11 + 1 = sto s + 13 from rfl, (fl.1 k k0 k1).2]; dsimp only; rw [v 120 (by decide) (by decide)]; rfl
    · rw [show sto s + 1 + 11 = sto s + 12 from rfl, sp 12 (by omega), v 122 (by decide) (by decide)]
    · rw [show sto s + 1 + 11 + 2 = sto s + 14 from rfl, (fl.2 o o0 o1).2.1]; dsimp only; rw [v 121 (by decide) (by decide)]; decide
    · rw [show sto s + 1 + 11 + 3 = sto s + 15 from rfl, sp 15 (by omega)]; dsimp only; rw [v 121 (by decide) (by decide), b01_f (by decide)]
    · rw [show sto s + 1 + 11 + 4 = sto s + 16 from rfl, sp 16 (by omega)]; dsimp only; rw [v 121 (by decide) (by decide), b01_f (by decide)]
    · rw [sp 1 (by omega), v 104 (by decide) (by decide)]
    · rw [v 104 (by decide) (by decide)] at k1; omega
    · rw [(fl.2 o o0 o1).2.2, ZI.2, f_in (by omega), if_pos rfl]
    · rw [sp 25 (by omega), v 127 (by decide) (by decide)]
    · rw [sp 26 (by omega), v 129 (by decide) (by decide)]
    · have a := sp 0 (by omega) 7
      rw [show sto s + 0 = sto s from rfl] at a
      rw [a, e0]
    · rw [v 119 (by decide) (by decide)] at e1; omega
  have emp : ∀ a, spL_.contains a = false → 1 ≤ a ∧ a ≤ 139 → I a = ind (fun _ => False) := fun a hs ha => by rw [z a ha hs]; exact ind_0
  refine ⟨⟨?_, fun o o0 o1 => by rw [h0] at o1; omega, ⟨fun i i0 i1 => by rw [h0] at i1; omega, fun i j i0 ij j1 => by rw [h0] at j1; omega, fun x hx => by rw [h0] at hx; omega⟩⟩, ⟨⟨?_, fun k k0 k1 => by rw [v 94 (by decide) (by decide)] at k1; omega⟩, ?_, ?_⟩, ⟨cs 0 (Or.inl rfl), cs 1 (Or.inr rfl)⟩, ⟨?_, fun k k0 k1 => by rw [v 94 (by decide) (by decide)] at k1; omega⟩, ⟨⟨_, fun _ q => q.elim, emp 75 (by decide) (by decide)⟩, ⟨_, fun _ q => q.elim, emp 87 (by decide) (by decide)⟩, ⟨_, fun _ q => q.elim, emp 89 (by decide) (by decide)⟩⟩, ⟨⟨_, fun _ q => q.elim, emp 84 (by decide) (by decide)⟩, ⟨_, fun _ q => q.elim, emp 90 (by decide) (by decide)⟩, ⟨_, fun _ q => q.elim, emp 91 (by decide) (by decide)⟩⟩, fun j _ => w 78 (by decide) (by decide) j, fun j _ => w 79 (by decide) (by decide) j⟩
  · rw [w 2 (by decide) (by decide), h0]
  · rw [o1, up1_ne (by decide), v 94 (by decide) (by decide)]
  · rw [o1, up1_ne (by decide), v 94 (by decide) (by decide)]
  · rw [o1, b01_t (v 94 (by decide) (by decide) 9)]; exact up1_eq
  · rw [w 76 (by decide) (by decide), v 94 (by decide) (by decide)]
end STRT
theorem EV_3 {L : Int} {X : Nat → Int → Int} : EV 0 (hG L cS3) (iG X cS3) (iG X cS3) ∧ WSc (iG X cS3) := ⟨⟨lyb_3, own_3, CPL_0 zst_3, INV_0 (zst_J zst_3)⟩, WSc_0 (zst_J zst_3)⟩
