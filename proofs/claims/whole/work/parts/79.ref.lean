/-! ===== the reference's methods (30): tip, wants ===== -/
def tp (I : Nat → Int → Int) (x : Int) : Int := if x = 0 then -1 else if I 95 (x - 1) = 3 then atR I (x - 1) 0 else x - 1
theorem r261 {h : HP} {I : Nat → Int → Int} {x : Int} (L : LX 11 h 94) (ht : 0 ≤ I 94 0 ∧ I 94 0 ≤ 120) (hx : 0 ≤ x ∧ x ≤ 120) : Go 261 0 [.inr (.inl (some 94)), .inl x] [] (mI h I) = some (mI h I, .inl (some (.inl (tp I x)))) := by
  rw [b261_0]
  unfold tp
  by_cases h0 : x = 0
  · rw [if_neg (fun q => q h0), if_pos h0, b261_2, b261_22]
  · rw [if_pos h0, if_neg h0, b261_4 L (by omega) (by omega)]
    by_cases h3 : I 95 (x - 1) = 3
    · rw [if_neg (fun q => q h3), if_pos h3, b261_12 (by omega) L, r169 L ht (by omega) (by decide), caln_r, b261_18, b261_22]
    · rw [if_pos h3, if_neg h3, b261_19 (by omega), b261_22]
/-- a parent, where the version is not shallow -/
def Ep (I : Nat → Int → Int) (s a b : Int) : Prop := I 116 (120 * s + a) = 0 ∧ Sb I a (I 96 a) b
/-- within n steps to parents -/
def Rh (I : Nat → Int → Int) (s z : Int) : Nat → Int → Prop
  | 0, k => k = z
  | n + 1, k => Rh I s z n k ∨ ∃ a, Rh I s z n a ∧ Ep I s a k
theorem Rh_m {I : Nat → Int → Int} {s z k : Int} : ∀ (n m : Nat), n ≤ m → Rh I s z n k → Rh I s z m k
  | n, 0, h, q => by
    have : n = 0 := by omega
    subst this; exact q
  | n, m + 1, h, q => by
    by_cases e : n = m + 1
    · subst e; exact q
    · exact Or.inl (Rh_m n m (by omega) q)
/-- steps so far: f, from z -/
def StI (I : Nat → Int → Int) (s z : Int) (f : Int → Int) : Prop := f z = 0 ∧ ∀ k, 0 ≤ k → k < I 94 0 → 0 ≤ f k ∧ (f k = 1000 ∨ (f k + k ≤ z ∧ Vs I k ∧ Rh I s z (f k).toNat k))
theorem r262a {h : HP} {I : Nat → Int → Int} {R : Int → Prop} {f : Int → Int} {g : Prop} {s z k x2 x3 : Int} {v6 v7 : MV} {fr : (Int → Int) → Nat → Int → Int} (L : LX 11 h 94) (W : WB I) (V : WV I) (hs : s = 0 ∨ s = 1) (hz : z < I 94 0) (hk : 0 ≤ k ∧ k < I 94 0) (hf : StI I s z f)
    (hfr : ∀ f a, a ≠ 134 → a ≠ 138 → fr f a = I a) (hfr2 : ∀ f, fr f 138 = f) (hfr3 : ∀ f k v, zu2 (fr f) 138 k v = fr (up1 f k v)) :
    ∃ f1 g1 w6 w7, Go 262 36 [.inr (.inl (some 94)), .inl s, .inl x2, .inl x3, .inl (b01 g), .inl k, v6, v7] [] (mI h (fr f)) = Go 262 32 [.inr (.inl (some 94)), .inl s, .inl x2, .inl x3, .inl (b01 g1), .inl (k + 1), w6, w7] [] (mI h (fr f1)) ∧ StI I s z f1 ∧ (∀ j, f1 j ≤ f j) ∧ (g → g1) ∧ (g1 → g ∨ ∃ j, (0 ≤ j ∧ j < I 94 0) ∧ f1 j < f j) ∧ (¬g1 → f1 = f ∧ (f k < 1000 → ∀ b, Ep I s k b → f b ≤ f k + 1)) := by
  have ht := WB_t W
  have hT := W.1
  have hfk := hf.2 k hk.1 hk.2
  have e94 : ∀ f, fr f 94 0 = I 94 0 := fun f => by rw [hfr f 94 (by decide) (by decide)]
  have e96 : ∀ f, fr f 96 = I 96 := fun f => hfr f 96 (by decide) (by decide)
  have e116 : ∀ f, fr f 116 = I 116 := fun f => hfr f 116 (by decide) (by decide)
  have eat : ∀ f, atR (fr f) = atR I := fun f => by
    unfold atR fnd
    rw [hfr f 97 (by decide) (by decide), hfr f 98 (by decide) (by decide), e94]
  rw [b262_36]
  by_cases h1 : 1000 ≤ f k
  · refine ⟨f, g, .inl 2, v7, ?_, hf, fun _ => Int.le_refl _, id, Or.inl, fun _ => ⟨rfl, fun q => by omega⟩⟩
    rw [b262_38 L (by omega), hfr2, if_pos h1, b262_109 (by omega)]
  · have hvk : f k + k ≤ z ∧ Vs I k ∧ Rh I s z (f k).toNat k := hfk.2.resolve_left (by omega)
    have hsz := (W.2 k hk.1 hk.2).1.2.2.2.2.2.1 hvk.2.1.2
    by_cases hsh : I 116 (120 * s + k) = 0
    · have key := lpE (fun m (x : (Int → Int) × Prop × MV) => Go 262 38 [.inr (.inl (some 94)), .inl s, .inl x2, .inl x3, .inl (b01 x.2.1), .inl k, .inl m, x.2.2] [] (mI h (fr x.1)))
        (fun m x => (StI I s z x.1 ∧ x.1 k = f k) ∧ (∀ j, x.1 j ≤ f j) ∧ (g → x.2.1) ∧ (x.2.1 → g ∨ ∃ j, (0 ≤ j ∧ j < I 94 0) ∧ x.1 j < f j) ∧ (¬x.2.1 → x.1 = f) ∧ ∀ i, 2 ≤ i → i < m → x.1 (atR I k i) ≤ f k + 1) 2 (I 96 k) hsz.1 ?_ (f, g, v7) ⟨⟨hf, rfl⟩, fun _ => Int.le_refl _, id, Or.inl, fun _ => rfl, fun i a b => by omega⟩
      · obtain ⟨⟨f1, g1, w⟩, e, ⟨q1, q2⟩, q3, q4, q5, q6, q7⟩ := key
        dsimp only at e q1 q2 q3 q4 q5 q6 q7
        refine ⟨f1, g1, .inl (I 96 k), w, ?_, q1, q3, q4, q5, fun hn => ⟨q6 hn, fun _ b eb => ?_⟩⟩
        · rw [e, b262_38 L (by omega), hfr2, q2, if_neg h1, b262_44 L (by omega), e96, if_pos (Int.le_refl _), b262_109 (by omega)]
        · obtain ⟨_, i, i0, i1, ei⟩ := eb
          rw [ei, ← q6 hn, q2]
          exact q7 i i0 i1
      · rintro m ⟨f1, g1, w⟩ m0 m1 ⟨⟨q1, q2⟩, q3, q4, q5, q6, q7⟩
        dsimp only at q1 q2 q3 q4 q5 q6 q7 ⊢
        have hp := Vs_p W V hvk.2.1 m0 m1
        have hpl := hp.1.1
        have hEp : Ep I s k (atR I k m) := ⟨hsh, m, m0, m1, rfl⟩
        obtain ⟨b, hb⟩ : ∃ b, b = atR I k m := ⟨_, rfl⟩
        rw [← hb] at hp hpl hEp
        have hfb := q1.2 b hpl.1 hpl.2
        have hfbn := hfb.1
        have h63 : Go 262 38 [.inr (.inl (some 94)), .inl s, .inl x2, .inl x3, .inl (b01 g1), .inl k, .inl m, w] [] (mI h (fr f1)) = if f1 b ≤ f k + 1 then Go 262 78 [.inr (.inl (some 94)), .inl s, .inl x2, .inl x3, .inl (b01 g1), .inl k, .inl m, .inl b] [.inl (b01 g1)] (mI h (fr f1)) else Go 262 76 [.inr (.inl (some 94)), .inl s, .inl x2, .inl x3, .inl (b01 g1), .inl k, .inl m, .inl b] [.inl (b01 g1)] (mI h (fr f1)) := by
          rw [b262_38 L (by omega), hfr2, q2, if_neg h1, b262_44 L (by omega), e96, if_neg (by omega), b262_50 L (by omega) (by omega) (by omega), e116, if_neg (fun q => q hsh), b262_59 L, r169 L (by rw [e94]; exact ht) (by omega) (by omega), eat, ← hb, caln_r, b262_63 L (by omega) (by omega) (by rw [hfr2, q2]; omega), hfr2, q2]
        by_cases hc : f1 b ≤ f k + 1
        · refine ⟨(f1, g1, .inl b), ?_, ⟨q1, q2⟩, q3, q4, q5, q6, fun i i0 i1 => ?_⟩
          · rw [h63, if_pos hc, b262_78, b262_79 L (by omega) (by omega) (by rw [hfr2, q2]; omega), hfr2, q2, if_pos hc, zor_0, b262_102 L (by omega), hfr2, b262_106 L (by omega) (by omega), hfr3, up1_id rfl]
          · by_cases hi : i = m
            · subst hi; dsimp only; rw [← hb]; exact hc
            · exact q7 i i0 (by omega)
        · have hbk : b ≠ k := by omega
          have hf1 : ∀ j, up1 f1 b (f k + 1) j ≤ f1 j := fun j => by
            unfold up1
            split
            · next hj => rw [hj]; omega
            · exact Int.le_refl _
          refine ⟨(up1 f1 b (f k + 1), True, .inl b), ?_, ⟨⟨?_, fun j j0 j1 => ?_⟩, ?_⟩, fun j => Int.le_trans (hf1 j) (q3 j), fun _ => trivial, fun _ => Or.inr ⟨b, hpl, ?_⟩, fun q => absurd trivial q, fun i i0 i1 => ?_⟩
          · rw [h63, if_neg hc, b262_76, b262_79 L (by omega) (by omega) (by rw [hfr2, q2]; omega), hfr2, q2, if_neg hc, zor_1, b262_95 L (by omega) (by rw [hfr2, q2]; omega), hfr2, q2, b262_106 L (by omega) (by omega), hfr3, b01_t trivial]
          · have : z ≠ b := fun q => by rw [← q, q1.1] at hc; omega
            dsimp only
            rw [up1_ne this]; exact q1.1
          · by_cases hj : j = b
            · subst hj
              dsimp only
              rw [up1_eq]
              refine ⟨by omega, Or.inr ⟨by omega, hp.1, ?_⟩⟩
              have e1 : (f k + 1).toNat = (f k).toNat + 1 := by omega
              rw [e1]
              exact Or.inr ⟨k, hvk.2.2, hEp⟩
            · dsimp only
              rw [up1_ne hj]; exact q1.2 j j0 j1
          · dsimp only
            rw [up1_ne (fun q => hbk q.symm)]; exact q2
          · dsimp only
            rw [up1_eq]
            have := q3 b
            omega
          · dsimp only
            by_cases hi : i = m
            · subst hi; rw [← hb, up1_eq]; exact Int.le_refl _
            · exact Int.le_trans (hf1 _) (q7 i i0 (by omega))
    · refine ⟨f, g, .inl 2, v7, ?_, hf, fun _ => Int.le_refl _, id, Or.inl, fun _ => ⟨rfl, fun _ b eb => absurd eb.1 hsh⟩⟩
      rw [b262_38 L (by omega), hfr2, if_neg h1, b262_44 L (by omega), e96]
      by_cases hz2 : I 96 k ≤ 2
      · rw [if_pos hz2, b262_109 (by omega)]
      · rw [if_neg hz2, b262_50 L (by omega) (by omega) (by omega), e116, if_pos hsh, b262_109 (by omega)]
/-- wanted versions -/
def Wv (I : Nat → Int → Int) (s z l k : Int) : Prop := ∃ n : Nat, Rh I s z n k ∧ (l = 0 ∨ (n : Int) < l)
theorem Rh_v {I : Nat → Int → Int} {s z : Int} (W : WB I) (V : WV I) (hz : Vs I z) : ∀ (n : Nat) (k : Int), Rh I s z n k → Vs I k
  | 0, k, q => by rw [show k = z from q]; exact hz
  | n + 1, k, q => by
    obtain q | ⟨a, q, e⟩ := q
    · exact Rh_v W V hz n k q
    · obtain ⟨_, i, i0, i1, ei⟩ := e
      rw [ei]
      exact (Vs_p W V (Rh_v W V hz n a q) i0 i1).1
theorem St_w {I : Nat → Int → Int} {s z l : Int} {f : Int → Int} (W : WB I) (V : WV I) (hz : Vs I z) (hl : 0 ≤ l) (hf : StI I s z f) (hx : ∀ a, 0 ≤ a → a < I 94 0 → f a < 1000 → ∀ b, Ep I s a b → f b ≤ f a + 1) (k : Int) (h0 : 0 ≤ k) (h1 : k < I 94 0) : (f k < 1000 ∧ (l = 0 ∨ f k < l)) ↔ Wv I s z l k := by
  have hT := W.1
  have hzl := hz.1
  have key : ∀ (n : Nat) (k : Int), Rh I s z n k → f k < 1000 ∧ f k ≤ n := by
    intro n
    induction n with
    | zero =>
      intro k q
      rw [show k = z from q, hf.1]
      exact ⟨by decide, Int.le_refl _⟩
    | succ n ih =>
      intro k q
      obtain q | ⟨a, q, e⟩ := q
      · have := ih k q; omega
      · have hi := ih a q
        have va := (Rh_v W V hz n a q).1
        have vk := (Rh_v W V hz (n + 1) k (Or.inr ⟨a, q, e⟩)).1
        have ha := hf.2 a va.1 va.2
        have hb := hx a va.1 va.2 hi.1 k e
        omega
  constructor
  · rintro ⟨q1, q2⟩
    have hk := hf.2 k h0 h1
    have hr := (hk.2.resolve_left (by omega)).2.2
    exact ⟨(f k).toNat, hr, by omega⟩
  · rintro ⟨n, q1, q2⟩
    have := key n k q1
    exact ⟨this.1, by omega⟩
