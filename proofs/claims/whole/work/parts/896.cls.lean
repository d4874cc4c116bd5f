/-! ===== the class (26): a store ===== -/
def SC (I J : Nat → Int → Int) (st : Nat) (s : Int) : Prop :=
  (∀ o, 0 ≤ o → o < 100 → I (st + 24) o = (if J 126 (120 * s + o) = -1000 then -1 else J 126 (120 * s + o)) ∧ I (st + 25) o = J 127 (120 * s + o)) ∧
  (∀ r, 0 ≤ r → r < 6 → I (st + 26) r = J 129 (6 * s + r) ∧ (J 129 (6 * s + r) ≠ 0 → I (st + 27) r = J 130 (6 * s + r) - 1 ∧ I (st + 28) r = J 131 (6 * s + r) - 1)) ∧
  I st 7 = eN J s ∧ ∀ e, 0 ≤ e → e < J 119 s → I (st + 29) e = J 123 (600 * s + e) - 1 ∧ I (st + 30) e = J 124 (600 * s + e) - 1 ∧ I (st + 31) e = J 125 (600 * s + e)
theorem SC_I {I K J : Nat → Int → Int} {st : Nat} {s : Int} (H : ∀ c, c = st ∨ (st + 24 ≤ c ∧ c ≤ st + 31) → K c = I c) : SC K J st s = SC I J st s := by
  unfold SC
  rw [H st (by omega), H (st + 24) (by omega), H (st + 25) (by omega), H (st + 26) (by omega), H (st + 27) (by omega), H (st + 28) (by omega), H (st + 29) (by omega), H (st + 30) (by omega), H (st + 31) (by omega)]
theorem SC_J {I J K : Nat → Int → Int} {st : Nat} {s : Int} (H : ∀ c, c = 119 ∨ (123 ≤ c ∧ c ≤ 131) → K c = J c) : SC I K st s = SC I J st s := by
  unfold SC eN
  rw [H 119 (by omega), H 123 (by omega), H 124 (by omega), H 125 (by omega), H 126 (by omega), H 127 (by omega), H 129 (by omega), H 130 (by omega), H 131 (by omega)]
theorem k81 {h : HP} {I : Nat → Int → Int} {st : Nat} {v1 : MV} (L : LX 8 h st) : ∃ I1, Go 81 0 [.inr (.inl (some st)), v1] [] (mI h I) = some (mI h I1, .inl none) ∧ (∀ c, c ≠ st + 26 → c ≠ st → I1 c = I c) ∧ (∀ k, k ≠ 7 → I1 st k = I st k) ∧ I1 st 7 = 0 ∧ ∀ r, 0 ≤ r → r < 6 → I1 (st + 26) r = 0 := by
  have key := lpE (fun k (x : Nat → Int → Int) => Go 81 2 [.inr (.inl (some st)), .inl k] [] (mI h x)) (fun k x => (∀ c, c ≠ st + 26 → x c = I c) ∧ ∀ r, 0 ≤ r → r < k → x (st + 26) r = 0) 0 6 (by decide) ?_ I ⟨fun _ _ => rfl, fun r _ _ => by omega⟩
  · obtain ⟨x, e, hx, hr⟩ := key
    refine ⟨zu2 x st 7 0, ?_, fun c h1 h2 => ?_, fun k hk => ?_, ?_, fun r r0 r1 => ?_⟩
    · rw [b81_0, e, b81_2, if_pos (by decide), b81_12 L]
    · rw [zu2_row, rowU_ne h2, hx c h1]
    · rw [zu2_row, rowU_eq, up1_ne hk, hx st (by omega)]
    · rw [zu2_row, rowU_eq, up1_eq]
    · rw [zu2_row, rowU_ne (by omega), hr r r0 r1]
  · intro k x k0 k1 ⟨hx, hr⟩
    refine ⟨zu2 x (st + 26) k 0, by rw [b81_2, if_neg (by omega), b81_5 L (by omega) (by omega)], fun c hc => by rw [zu2_row, rowU_ne hc, hx c hc], fun r r0 r1 => ?_⟩
    rw [zu2_row, rowU_eq]
    by_cases q : r = k
    · subst q; rw [up1_eq]
    · rw [up1_ne q, hr r r0 (by omega)]
theorem eN_0 {J : Nat → Int → Int} {s : Int} (h : ∀ r, 0 ≤ r → r < 6 → J 129 (6 * s + r) = 0) : eN J s = 0 := cN_0 _ (fun k a b q => q (h k a (by omega)))
theorem SC_x {I I1 J : Nat → Int → Int} {st : Nat} {s : Int} (S : SC I J st s) (h1 : ∀ c, c ≠ st + 26 → c ≠ st → I1 c = I c) (h7 : I1 st 7 = 0) (h26 : ∀ r, 0 ≤ r → r < 6 → I1 (st + 26) r = 0) : SC I1 (cX J s) st s := by
  have j9 : ∀ r, 0 ≤ r → r < 6 → cX J s 129 (6 * s + r) = 0 := fun r r0 r1 => by
    unfold cX
    rw [rowU_eq, fillR_in (by omega)]
  have jf : ∀ c, c ≠ 129 → cX J s c = J c := fun c hc => rowU_ne hc
  refine ⟨fun o o0 o1 => ?_, fun r r0 r1 => ⟨?_, fun q => absurd (j9 r r0 r1) q⟩, by rw [h7, eN_0 j9], fun e e0 e1 => ?_⟩
  · rw [h1 _ (by omega) (by omega), h1 _ (by omega) (by omega), jf 126 (by decide), jf 127 (by decide)]
    exact S.1 o o0 o1
  · rw [h26 r r0 r1, j9 r r0 r1]
  · rw [jf 119 (by decide)] at e1
    rw [h1 _ (by omega) (by omega), h1 _ (by omega) (by omega), h1 _ (by omega) (by omega), jf 123 (by decide), jf 124 (by decide), jf 125 (by decide)]
    exact S.2.2.2 e e0 e1
theorem k82 {h : HP} {I J : Nat → Int → Int} {st : Nat} {s : Int} {v1 : MV} (L : LX 8 h st) (L3 : LX 3 h (st + 1)) (L4 : LX 4 h (st + 7)) (S : SC I J st s) (N : NC I J (st + 7) s) : Go 82 0 [.inr (.inl (some st)), v1] [] (mI h I) = some (mI h I, .inl (some (.inl (b01 (cM J s (6 * s + 6)))))) := by
  rw [b82_0]
  refine lpQ (fun k (_ : Unit) => Go 82 2 [.inr (.inl (some st)), .inl k] [] (mI h I)) (fun k _ => cM J s (6 * s + k)) (fun r => r = some (mI h I, .inl (some (.inl (b01 (cM J s (6 * s + 6))))))) 0 6 (by decide) ?_ ?_ () (fun k a b => by omega)
  · intro k _ k0 k1 hq
    obtain ⟨e26, e27⟩ := S.2.1 k k0 k1
    have e8 : I (st + 8) k = J 115 (6 * s + k) - 1 := N.1 k k0 k1
    have go : (J 129 (6 * s + k) ≠ 0 → J 115 (6 * s + k) = J 130 (6 * s + k)) → cM J s (6 * s + (k + 1)) := fun q i i0 i1 => by
      by_cases h : i = 6 * s + k
      · subst h; exact q
      · exact hq i i0 (by omega)
    rw [b82_2, if_neg (by omega), b82_5 L (by omega), e26]
    by_cases q : J 129 (6 * s + k) = 0
    · right
      exact ⟨(), by rw [if_pos q, b82_23 (by omega)], go (fun r => absurd q r)⟩
    · have e27 := (e27 q).1
      rw [if_neg q, b82_10 L L3 L4 (by omega), e8, e27]
      by_cases r : J 115 (6 * s + k) = J 130 (6 * s + k)
      · right
        exact ⟨(), by rw [if_pos (by omega), b82_23 (by omega)], go (fun _ => r)⟩
      · left
        rw [if_neg (by omega), b82_21, b01_f (fun c => r (c (6 * s + k) (by omega) (by omega) q))]
  · intro _ hq
    rw [b82_2, if_pos (by decide), b82_25, b01_t hq]
/-- a reference moves -/
theorem k84 {h : HP} {I J : Nat → Int → Int} {st : Nat} {s r x : Int} {v4 v5 v6 : MV} (hst : st = 10 ∨ st = 42) (L : LX 8 h st) (L3 : LX 3 h (st + 1)) (L4 : LX 4 h (st + 7)) (S : SC I J st s) (N : NC I J (st + 7) s) (hs : s = 0 ∨ s = 1) (hr : 0 ≤ r ∧ r < 6) (hl : 0 ≤ J 119 s ∧ J 119 s < 512) :
    ∃ I1, Go 84 0 [.inr (.inl (some st)), .inl r, .inl (x - 1), .inl (J 94 8), v4, v5, v6] [] (mI h I) = some (mI h I1, .inl none) ∧ SC I1 (bE J (6 * s + r) x) st s ∧ NC I1 (bE J (6 * s + r) x) (st + 7) s ∧ ∀ c, c ≠ st + 7 → c ≠ st + 8 → (c < st + 29 ∨ st + 31 < c) → I1 c = I c := by
  have e8 : I (st + 8) r = J 115 (6 * s + r) - 1 := N.1 r hr.1 hr.2
  have e4 : I (st + 7) 4 = J 119 s := N.2.1
  rw [b84_0 L L3 L4 hr, e8]
  unfold bE
  by_cases q : J 115 (6 * s + r) = x
  · rw [if_neg (by omega), b84_12, if_pos q]
    exact ⟨I, rfl, S, N, fun _ _ _ _ => rfl⟩
  · have f1 : zu2 I (st + 7 + 1) r (x - 1) (st + 7) 4 = J 119 s := by rw [zu2_row, rowU_ne (by omega), e4]
    have hq : (6 * s + r) / 6 = s := by omega
    have k7 : ∀ (c : Nat), (c < 115 ∨ (115 < c ∧ c < 119) ∨ (119 < c ∧ c < 123) ∨ 125 < c) → bC J (6 * s + r) x c = J c := fun c hc => by
      unfold bC
      rw [rowU_ne (by omega), rowU_ne (by omega), rowU_ne (by omega), rowU_ne (by omega), rowU_ne (by omega)]
    have j115 : bC J (6 * s + r) x 115 = up1 (J 115) (6 * s + r) x := by unfold bC; rw [rowU_eq]
    have j119 : bC J (6 * s + r) x 119 = up1 (J 119) s (J 119 s + 1) := by unfold bC; rw [rowU_ne (by decide), rowU_eq, hq]
    have j125 : bC J (6 * s + r) x 125 = up1 (J 125) (600 * s + J 119 s) (J 94 8) := by unfold bC; rw [rowU_ne (by decide), rowU_ne (by decide), rowU_eq, hq]
    have j124 : bC J (6 * s + r) x 124 = up1 (J 124) (600 * s + J 119 s) x := by unfold bC; rw [rowU_ne (by decide), rowU_ne (by decide), rowU_ne (by decide), rowU_eq, hq]
    have j123 : bC J (6 * s + r) x 123 = up1 (J 123) (600 * s + J 119 s) (J 115 (6 * s + r)) := by unfold bC; rw [rowU_ne (by decide), rowU_ne (by decide), rowU_ne (by decide), rowU_ne (by decide), rowU_eq, hq]
    obtain ⟨E, hE⟩ : ∃ E, E = zu2 (zu2 (zu2 (zu2 I (st + 7 + 1) r (x - 1)) (st + 29) (J 119 s) (J 115 (6 * s + r) - 1)) (st + 30) (J 119 s) (x - 1)) (st + 31) (J 119 s) (J 94 8) := ⟨_, rfl⟩
    have Ef : ∀ c, c ≠ st + 8 → (c < st + 29 ∨ st + 31 < c) → E c = I c := fun c h1 h2 => by
      rw [hE, zu2_row, rowU_ne (by omega), zu2_row, rowU_ne (by omega), zu2_row, rowU_ne (by omega), zu2_row, rowU_ne (by omega)]
    have E8 : E (st + 8) = up1 (I (st + 8)) r (x - 1) := by
      rw [hE, zu2_row, rowU_ne (by omega), zu2_row, rowU_ne (by omega), zu2_row, rowU_ne (by omega), zu2_row, rowU_eq]
    have E29 : E (st + 29) = up1 (I (st + 29)) (J 119 s) (J 115 (6 * s + r) - 1) := by
      rw [hE, zu2_row, rowU_ne (by omega), zu2_row, rowU_ne (by omega), zu2_row, rowU_eq, zu2_row, rowU_ne (by omega)]
    have E30 : E (st + 30) = up1 (I (st + 30)) (J 119 s) (x - 1) := by
      rw [hE, zu2_row, rowU_ne (by omega), zu2_row, rowU_eq, zu2_row, rowU_ne (by omega), zu2_row, rowU_ne (by omega)]
    have E31 : E (st + 31) = up1 (I (st + 31)) (J 119 s) (J 94 8) := by
      rw [hE, zu2_row, rowU_eq, zu2_row, rowU_ne (by omega), zu2_row, rowU_ne (by omega), zu2_row, rowU_ne (by omega)]
    have Gf : ∀ c, c ≠ st + 7 → zu2 E (st + 7) 4 (J 119 s + 1) c = E c := fun c hc => by rw [zu2_row, rowU_ne hc]
    have G7 : zu2 E (st + 7) 4 (J 119 s + 1) (st + 7) = up1 (E (st + 7)) 4 (J 119 s + 1) := by rw [zu2_row, rowU_eq]
    rw [if_pos (by omega), b84_13 L4 hr, f1, if_neg (by omega), b84_23, if_neg (by omega), b84_26 L (by omega), ← hE, b84_41 L4 (by rw [Ef _ (by omega) (by omega), e4]; omega), Ef (st + 7) (by omega) (by omega), e4, if_neg q]
    refine ⟨zu2 E (st + 7) 4 (J 119 s + 1), rfl, ⟨fun o o0 o1 => ?_, fun i i0 i1 => ?_, ?_, fun e e0 e1 => ?_⟩, ⟨fun k k0 k1 => ?_, ?_, fun o o0 o1 => ?_⟩, fun c c7 c8 c9 => by rw [Gf c c7, Ef c c8 c9]⟩
    · rw [Gf _ (by omega), Gf _ (by omega), Ef _ (by omega) (by omega), Ef _ (by omega) (by omega), k7 126 (by decide), k7 127 (by decide)]
      exact S.1 o o0 o1
    · rw [Gf _ (by omega), Gf _ (by omega), Gf _ (by omega), Ef _ (by omega) (by omega), Ef _ (by omega) (by omega), Ef _ (by omega) (by omega), k7 129 (by decide), k7 130 (by decide), k7 131 (by decide)]
      exact S.2.1 i i0 i1
    · unfold eN
      rw [Gf _ (by omega), Ef _ (by omega) (by omega), k7 129 (by decide)]
      exact S.2.2.1
    · rw [j119, up1_eq] at e1
      rw [Gf _ (by omega), Gf _ (by omega), Gf _ (by omega), E29, E30, E31, j123, j124, j125]
      by_cases he : e = J 119 s
      · subst he
        rw [up1_eq, up1_eq, up1_eq, up1_eq, up1_eq, up1_eq]
        exact ⟨rfl, rfl, rfl⟩
      · rw [up1_ne he, up1_ne he, up1_ne he, up1_ne (by omega), up1_ne (by omega), up1_ne (by omega)]
        exact S.2.2.2 e e0 (by omega)
    · show zu2 E (st + 7) 4 (J 119 s + 1) (st + 8) k = bC J (6 * s + r) x 115 (6 * s + k) - 1
      rw [Gf _ (by omega), E8, j115]
      by_cases hk : k = r
      · subst hk; rw [up1_eq, up1_eq]
      · rw [up1_ne hk, up1_ne (by omega)]
        exact N.1 k k0 k1
    · rw [G7, up1_eq, j119, up1_eq]
    · rw [Gf _ (by omega), Gf _ (by omega), Gf _ (by omega), Ef _ (by omega) (by omega), Ef _ (by omega) (by omega), Ef _ (by omega) (by omega), k7 118 (by decide), k7 116 (by decide), k7 117 (by decide)]
      exact N.2.2 o o0 o1
