/-! ===== the class (12): notes ===== -/
/-- a note of the class: references, replaced, shallow, promised, logged -/
def NO (I : Nat → Int → Int) (n : Nat) (r : Int → Int) (lg : Int) (b s p : Int → Int) : Prop := (∀ k, 0 ≤ k → k < 6 → I (n + 1) k = r k) ∧ I n 4 = lg ∧ ∀ o, 0 ≤ o → o < 100 → I (n + 2) o = b o ∧ I (n + 3) o = s o ∧ I (n + 4) o = p o
theorem NO_I {I K : Nat → Int → Int} {n : Nat} {r : Int → Int} {lg : Int} {b s p : Int → Int} (H : ∀ c, n ≤ c → c ≤ n + 4 → K c = I c) : NO K n r lg b s p = NO I n r lg b s p := by
  unfold NO
  rw [H n (by omega) (by omega), H (n + 1) (by omega) (by omega), H (n + 2) (by omega) (by omega), H (n + 3) (by omega) (by omega), H (n + 4) (by omega) (by omega)]
def NC (I J : Nat → Int → Int) (n : Nat) (s : Int) : Prop := NO I n (fun k => J 115 (6 * s + k) - 1) (J 119 s) (fun o => J 118 (120 * s + o) - 1) (fun o => J 116 (120 * s + o)) (fun o => J 117 (120 * s + o))
def NS (I J : Nat → Int → Int) (n : Nat) (s t : Int) : Prop := NO I n (fun k => J 120 (6 * (31 * s + t) + k) - 1) (J 122 (31 * s + t)) (fun o => J 121 (120 * (31 * s + t) + o) / 4 - 1) (fun o => b01 (J 121 (120 * (31 * s + t) + o) / 2 % 2 = 1)) (fun o => b01 (J 121 (120 * (31 * s + t) + o) % 2 = 1))
theorem k54 {h : HP} {I : Nat → Int → Int} {a b : Nat} {r y z w : Int → Int} {lg : Int} {v2 : MV} (L : LX 4 h a) (L2 : LX 4 h b) (hn : a + 4 < b ∨ b + 4 < a) (N : NO I b r lg y z w) (hz : ∀ o, z o = 0 ∨ z o = 1) (hw : ∀ o, w o = 0 ∨ w o = 1) :
    ∃ I1, Go 54 0 [.inr (.inl (some a)), .inr (.inl (some b)), v2] [] (mI h I) = some (mI h I1, .inl none) ∧ (∀ c, c < a ∨ a + 4 < c → I1 c = I c) ∧ (∀ k, k ≠ 4 → I1 a k = I a k) ∧ NO I1 a r lg y z w := by
  have key1 := lpE (fun k (x : Nat → Int → Int) => Go 54 2 [.inr (.inl (some a)), .inr (.inl (some b)), .inl k] [] (mI h x)) (fun k x => (∀ c, c ≠ a + 1 → x c = I c) ∧ ∀ i, 0 ≤ i → i < k → x (a + 1) i = r i) 0 6 (by decide) ?_ I ⟨fun _ _ => rfl, fun i _ _ => by omega⟩
  · obtain ⟨x, e1, hx, hr⟩ := key1
    have key2 := lpE (fun k (x : Nat → Int → Int) => Go 54 17 [.inr (.inl (some a)), .inr (.inl (some b)), .inl k] [] (mI h x)) (fun k x => (∀ c, c < a + 1 ∨ a + 4 < c → x c = I c) ∧ (∀ i, 0 ≤ i → i < 6 → x (a + 1) i = r i) ∧ ∀ o, 0 ≤ o → o < k → x (a + 2) o = y o ∧ x (a + 3) o = z o ∧ x (a + 4) o = w o) 0 100 (by decide) ?_ x ⟨fun c hc => hx c (by omega), hr, fun i _ _ => by omega⟩
    · obtain ⟨u, e2, hu, hr2, ho⟩ := key2
      have eb : u b = I b := hu b (by omega)
      refine ⟨zu2 u a 4 (u b 4), ?_, fun c hc => ?_, fun k hk => ?_, fun k k0 k1 => ?_, ?_, fun o o0 o1 => ?_⟩
      · rw [b54_0, e1, b54_2, if_pos (by decide), b54_15, e2, b54_17, if_pos (by decide), b54_46 L2 L]
      · rw [zu2_row, rowU_ne (by omega), hu c (by omega)]
      · rw [zu2_row, rowU_eq, up1_ne hk, hu a (by omega)]
      · rw [zu2_row, rowU_ne (by omega)]
        exact hr2 k k0 k1
      · rw [zu2_row, rowU_eq, up1_eq, eb]
        exact N.2.1
      · rw [zu2_row, rowU_ne (by omega), rowU_ne (by omega), rowU_ne (by omega)]
        exact ho o o0 o1
    · intro k u k0 k1 ⟨hu, hr2, ho⟩
      have n := N.2.2 k k0 k1
      rw [← hu (b + 2) (by omega), ← hu (b + 3) (by omega), ← hu (b + 4) (by omega)] at n
      have e3 : zu2 u (a + 2) k (u (b + 2) k) (b + 3) k = z k := by rw [zu2_row, rowU_ne (by omega), n.2.1]
      have e4 : zu2 (zu2 u (a + 2) k (u (b + 2) k)) (a + 3) k (z k) (b + 4) k = w k := by rw [zu2_row, rowU_ne (by omega), zu2_row, rowU_ne (by omega), n.2.2]
      refine ⟨zu2 (zu2 (zu2 u (a + 2) k (y k)) (a + 3) k (z k)) (a + 4) k (w k), ?_, fun c hc => ?_, fun i i0 i1 => ?_, fun o o0 o1 => ?_⟩
      · rw [b54_17, if_neg (by omega), b54_20 L L2 (by omega) (by rw [e3]; exact hz k) (by rw [e3, e4]; exact hw k) (by omega), e3, e4, n.1]
      · rw [zu2_row, rowU_ne (by omega), zu2_row, rowU_ne (by omega), zu2_row, rowU_ne (by omega), hu c hc]
      · rw [zu2_row, rowU_ne (by omega), zu2_row, rowU_ne (by omega), zu2_row, rowU_ne (by omega)]
        exact hr2 i i0 i1
      · have e2 : zu2 (zu2 (zu2 u (a + 2) k (y k)) (a + 3) k (z k)) (a + 4) k (w k) (a + 2) = up1 (u (a + 2)) k (y k) := by
          rw [zu2_row, rowU_ne (by omega), zu2_row, rowU_ne (by omega), zu2_row, rowU_eq]
        have e3 : zu2 (zu2 (zu2 u (a + 2) k (y k)) (a + 3) k (z k)) (a + 4) k (w k) (a + 3) = up1 (u (a + 3)) k (z k) := by
          rw [zu2_row, rowU_ne (by omega), zu2_row, rowU_eq, zu2_row, rowU_ne (by omega)]
        have e4 : zu2 (zu2 (zu2 u (a + 2) k (y k)) (a + 3) k (z k)) (a + 4) k (w k) (a + 4) = up1 (u (a + 4)) k (w k) := by
          rw [zu2_row, rowU_eq, zu2_row, rowU_ne (by omega), zu2_row, rowU_ne (by omega)]
        rw [e2, e3, e4]
        by_cases q : o = k
        · subst q
          rw [up1_eq, up1_eq, up1_eq]
          exact ⟨rfl, rfl, rfl⟩
        · rw [up1_ne q, up1_ne q, up1_ne q]
          exact ho o o0 (by omega)
  · intro k x k0 k1 ⟨hx, hr⟩
    have n := N.1 k k0 k1
    rw [← hx (b + 1) (by omega)] at n
    refine ⟨zu2 x (a + 1) k (r k), ?_, fun c hc => ?_, fun i i0 i1 => ?_⟩
    · rw [b54_2, if_neg (by omega), b54_5 L L2 (by omega) (by omega), n]
    · rw [zu2_row, rowU_ne hc, hx c hc]
    · rw [zu2_row, rowU_eq]
      by_cases q : i = k
      · subst q; rw [up1_eq]
      · rw [up1_ne q, hr i i0 (by omega)]
