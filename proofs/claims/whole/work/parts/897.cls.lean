/-! ===== the class (27): references move, objects are written ===== -/
theorem bF_g {M : Nat → Int → Int} {s : Int} {a : Nat} (h : a ≠ 115 ∧ a ≠ 119 ∧ a ≠ 123 ∧ a ≠ 124 ∧ a ≠ 125) : ∀ n : Nat, bF M s n a = M a
  | 0 => rfl
  | n + 1 => by
    have ih := bF_g (M := M) (s := s) h n
    unfold bF
    split
    · exact ih
    · rw [bE_f h, ih]
theorem bE_119b {I : Nat → Int → Int} {s r x : Int} (hr : 0 ≤ r ∧ r < 6) : I 119 s ≤ bE I (6 * s + r) x 119 s ∧ bE I (6 * s + r) x 119 s ≤ I 119 s + 1 := by
  unfold bE
  split
  · omega
  · have hq : (6 * s + r) / 6 = s := by omega
    unfold bC
    rw [rowU_ne (by decide), rowU_eq, hq, up1_eq]
    omega
theorem k83 {h : HP} {I J : Nat → Int → Int} {st : Nat} {s : Int} {v2 : MV} (hst : st = 10 ∨ st = 42) (S0 : STA h) (L : LX 8 h st) (L3 : LX 3 h (st + 1)) (L4 : LX 4 h (st + 12)) (Ln : LX 4 h (st + 7)) (W : OWN h) (D : DC h I J (st + 1) s) (S : SC I J st s) (Q : WQc J) (T : WT J) (Z : ZO J) (R : RD J s) (hs : s = 0 ∨ s = 1)
    (h6 : ∀ j, J 116 j = 0 ∨ J 116 j = 1) (h7 : ∀ j, J 117 j = 0 ∨ J 117 j = 1) (hl : 0 ≤ J 119 s ∧ J 119 s + eN J s ≤ 512) :
    ∃ h1 I1, Go 83 0 [.inr (.inl (some st)), .inl (J 94 8), v2] [] (mI h I) = some (mI h1 I1, .inl none) ∧ DC h1 I1 (kN (bF (dO J s 4 0) s 6) s (dO J s 4 0 104 s)) (st + 1) s ∧ RD (kN (bF (dO J s 4 0) s 6) s (dO J s 4 0 104 s)) s ∧ SC I1 (kN (bF (dO J s 4 0) s 6) s (dO J s 4 0 104 s)) st s ∧ OWN h1 ∧ XT h h1 5 311 ∧ (∀ x k, OAr x → x ≠ st + 20 → hR h1 x k = hR h x k) ∧ ∀ c, (c < st ∨ st + 31 < c ∨ (st + 21 ≤ c ∧ c ≤ st + 23)) → c < hN h → (∀ k a, hR h (st + 20) k = some a → c < a ∨ a + 4 < c) → I1 c = I c := by
  obtain ⟨M0, hM0⟩ : ∃ M0, M0 = dO J s 4 0 := ⟨_, rfl⟩
  have M0f : ∀ a, a < 101 ∨ (107 < a ∧ a < 110) ∨ (110 < a ∧ a < 120) ∨ 122 < a → M0 a = J a := fun a ha => by rw [hM0, dO_f ha]
  rw [← hM0]
  have SM : SC I M0 st s := by rw [SC_J (J := J) (fun c hc => M0f c (by omega))]; exact S
  have NM : NC I M0 (st + 7) s := by
    unfold NC
    rw [M0f 115 (by decide), M0f 116 (by decide), M0f 117 (by decide), M0f 118 (by decide), M0f 119 (by decide)]
    exact (DC_n.mp D).2
  have key := lpE (fun k (x : Nat → Int → Int) => Go 83 2 [.inr (.inl (some st)), .inl (J 94 8), .inl k] [] (mI h x)) (fun k x => SC x (bF M0 s k.toNat) st s ∧ NC x (bF M0 s k.toNat) (st + 7) s ∧ (J 119 s ≤ bF M0 s k.toNat 119 s ∧ bF M0 s k.toNat 119 s ≤ J 119 s + cN (fun i => J 129 (6 * s + i) ≠ 0) k.toNat) ∧ ∀ c, c ≠ st + 7 → c ≠ st + 8 → (c < st + 29 ∨ st + 31 < c) → x c = I c) 0 6 (by decide) ?_ I ⟨SM, NM, by
    show J 119 s ≤ M0 119 s ∧ M0 119 s ≤ J 119 s + 0
    rw [M0f 119 (by decide)]
    omega, fun _ _ _ _ => rfl⟩
  · obtain ⟨E, e, S6, N6, hb6, hE⟩ := key
    have e6 : (6 : Int).toNat = 6 := rfl
    rw [e6] at S6 N6 hb6
    obtain ⟨M, hM⟩ : ∃ M, M = bF M0 s 6 := ⟨_, rfl⟩
    rw [← hM] at S6 N6 ⊢
    have Mf : ∀ a, a ≠ 115 ∧ a ≠ 119 ∧ a ≠ 123 ∧ a ≠ 124 ∧ a ≠ 125 → M a = M0 a := fun a ha => by rw [hM, bF_g ha]
    have DE : DN h E J (st + 1) s := DNk_I W (by omega) (fun c hc => hE c (by omega) (by omega) (by omega)) (DC_n.mp D).1
    obtain ⟨h1, I1, e1, D1, R1, W1, X1, hr1, f1⟩ := k45 (h := h) (I := E) (J := J) (M := M) (d := st + 1) (s := s) (n := 0) (v1 := vU) (by omega) S0 L3 L4 Ln W DE Q T Z R hs (fun c hc => by rw [Mf c (by omega), hM0]) N6 (fun j => by rw [Mf 116 (by decide), M0f 116 (by decide)]; exact h6 j) (fun j => by rw [Mf 117 (by decide), M0f 117 (by decide)]; exact h7 j) (fun j => by rw [Mf 118 (by decide), M0f 118 (by decide)]; exact T.2.2.1 j)
    have e104 : M 104 s = M0 104 s := by rw [Mf 104 (by decide)]
    rw [e104] at D1 R1
    have hn140 := W.1
    have o19 : OAr (st + 20) := by unfold OAr; omega
    have own : ∀ c, c < 140 → ∀ k a, hR h (st + 20) k = some a → c < a ∨ a + 4 < c := fun c hc k a ha => by
      have := (W.2.1 _ _ _ o19 ha).1.1
      omega
    refine ⟨h1, I1, ?_, D1, R1, ?_, W1, X1, hr1, fun c hc hn ha => ?_⟩
    · rw [b83_0, e, b83_2, if_pos (by decide), b83_20 L L3, e1, caln_v, b83_23]
    · rw [SC_J (J := M) (fun c hc => kN_f (by omega) (by omega) (by omega)), SC_I (I := E) (fun c hc => f1 c (by omega) (by omega) (own c (by omega)))]
      exact S6
    · rw [f1 c (by omega) hn ha, hE c (by omega) (by omega) (by omega)]
  · intro k x k0 k1 ⟨Sk, Nk, hb, hx⟩
    have ek : (k + 1).toNat = k.toNat + 1 := by omega
    have en : ((k.toNat : Nat) : Int) = k := Int.toNat_of_nonneg k0
    have bs : bF M0 s (k.toNat + 1) = if bF M0 s k.toNat 129 (6 * s + k) = 0 then bF M0 s k.toNat else bE (bF M0 s k.toNat) (6 * s + k) (bF M0 s k.toNat 131 (6 * s + k)) := by
      show (if bF M0 s k.toNat 129 (6 * s + ((k.toNat : Nat) : Int)) = 0 then _ else _) = _
      rw [en]
    have j129 : bF M0 s k.toNat 129 = J 129 := by rw [bF_g (by decide), M0f 129 (by decide)]
    have j94 : bF M0 s k.toNat 94 = J 94 := by rw [bF_g (by decide), M0f 94 (by decide)]
    obtain ⟨q1, q2⟩ := Sk.2.1 k k0 k1
    rw [ek, bs, b83_2, if_neg (by omega), b83_5 L (by omega), q1]
    have cs : cN (fun i => J 129 (6 * s + i) ≠ 0) (k.toNat + 1) = cN (fun i => J 129 (6 * s + i) ≠ 0) k.toNat + b01 (J 129 (6 * s + k) ≠ 0) := by
      have := cN_s (P := fun i => J 129 (6 * s + i) ≠ 0) k0
      rw [ek] at this
      exact this
    by_cases hz : bF M0 s k.toNat 129 (6 * s + k) = 0
    · rw [if_pos hz, if_pos hz]
      refine ⟨x, by rw [b83_18 (by omega)], Sk, Nk, ?_, hx⟩
      have := b01_or (J 129 (6 * s + k) ≠ 0)
      rw [cs]
      omega
    · have q3 := (q2 hz).2
      rw [j129] at hz
      rw [b01_t hz] at cs
      have sp := cN_split (P := fun i => J 129 (6 * s + i) ≠ 0) 6 (k.toNat + 1) (by omega)
      have hen : eN J s = cN (fun i => J 129 (6 * s + i) ≠ 0) 6 := rfl
      rw [← j129] at hz
      rw [if_neg hz, if_neg hz, b83_10 L (by omega), q3, ← j94]
      obtain ⟨I1, e1, S1, N1, f1⟩ := k84 (h := h) (I := x) (J := bF M0 s k.toNat) (st := st) (s := s) (r := k) (x := bF M0 s k.toNat 131 (6 * s + k)) (v4 := vU) (v5 := vU) (v6 := vU) hst L L3 Ln Sk Nk hs ⟨k0, k1⟩ (by omega)
      refine ⟨I1, ?_, S1, N1, ?_, fun c c7 c8 c9 => by rw [f1 c c7 c8 c9, hx c c7 c8 c9]⟩
      · rw [e1, caln_v, b83_18 (by omega)]
      · have := bE_119b (I := bF M0 s k.toNat) (s := s) (x := bF M0 s k.toNat 131 (6 * s + k)) (r := k) (And.intro k0 k1)
        rw [cs]
        omega
