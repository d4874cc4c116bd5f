/-! ===== the reference's methods (18): counts, orders, generations ===== -/
theorem cN_le {P Q : Int → Prop} : ∀ n : Nat, (∀ k : Int, 0 ≤ k → k < n → P k → Q k) → cN P n ≤ cN Q n
  | 0, _ => Int.le_refl _
  | n + 1, h => by
    have ih := cN_le (P := P) (Q := Q) n (fun k a b => h k a (by omega))
    unfold cN
    by_cases hp : P n
    · rw [b01_t hp, b01_t (h n (by omega) (by omega) hp)]; omega
    · rw [b01_f hp]
      have := b01_or (Q n)
      omega
theorem cN_lt {P Q : Int → Prop} {b : Int} (h0 : 0 ≤ b) (hq : Q b) (hp : ¬P b) : ∀ n : Nat, b < n → (∀ k : Int, 0 ≤ k → k < n → P k → Q k) → cN P n < cN Q n
  | 0, hb, _ => by omega
  | n + 1, hb, h => by
    unfold cN
    by_cases hbn : b = n
    · have ih := cN_le (P := P) (Q := Q) n (fun k a b => h k a (by omega))
      rw [← hbn, b01_t hq, b01_f hp]
      omega
    · have ih := cN_lt h0 hq hp n (by omega) (fun k a b => h k a (by omega))
      by_cases hp : P n
      · rw [b01_t hp, b01_t (h n (by omega) (by omega) hp)]; omega
      · rw [b01_f hp]
        have := b01_or (Q n)
        omega
theorem cN_m {P : Int → Prop} {b : Int} (h0 : 0 ≤ b) (hp : P b) : ∀ n : Nat, b < n → cN (fun k => P k ∧ k ≠ b) n = cN P n - 1
  | 0, hb => by omega
  | n + 1, hb => by
    unfold cN
    by_cases hbn : b = n
    · rw [cN_c (P := fun k => P k ∧ k ≠ b) (Q := P) n (fun k a c => ⟨And.left, fun q => ⟨q, by omega⟩⟩), ← hbn, b01_t hp, b01_f (fun q => q.2 rfl)]
      omega
    · rw [cN_m h0 hp n (by omega), b01_c (p := P n ∧ _) (q := P n) ⟨And.left, fun q => ⟨q, fun c => hbn c.symm⟩⟩]
      omega
theorem cN_1 {P : Int → Prop} {b : Int} (h0 : 0 ≤ b) (hp : P b) {n : Nat} (hb : b < n) : 1 ≤ cN P n := by
  have := cN_m h0 hp n hb
  have := cN_b (P := fun k => P k ∧ k ≠ b) n
  omega
theorem cN_0 {P : Int → Prop} : ∀ n : Nat, (∀ k : Int, 0 ≤ k → k < n → ¬P k) → cN P n = 0
  | 0, _ => rfl
  | n + 1, h => by
    unfold cN
    rw [cN_0 n (fun k a b => h k a (by omega)), b01_f (h n (by omega) (by omega))]
    rfl
/-- a strict order of the objects of a set -/
def TO (T : Int → Prop) (A : Int → Int → Prop) : Prop := (∀ a b, T a → T b → a ≠ b → A a b ∨ A b a) ∧ (∀ a b c, T a → T b → T c → A a b → A b c → A a c) ∧ ∀ a, T a → ¬A a a
/-- the first of a set, of those below n; -1 for none -/
def MinB (R : Int → Prop) (A : Int → Int → Prop) (n x : Int) : Prop := (x = -1 ∧ ∀ k, 0 ≤ k → k < n → ¬R k) ∨ ((0 ≤ x ∧ x < n ∧ R x) ∧ ∀ k, 0 ≤ k → k < n → R k → k = x ∨ A x k)
theorem MinB_0 {R : Int → Prop} {A : Int → Int → Prop} : MinB R A 0 (-1) := Or.inl ⟨rfl, fun k a b => by omega⟩
theorem MinB_y {R : Int → Prop} {A : Int → Int → Prop} (t : TO R A) {k x : Int} (hk : 0 ≤ k) (m : MinB R A k x) (hr : R k) (ha : x < 0 ∨ A k x) : MinB R A (k + 1) k := by
  refine Or.inr ⟨⟨hk, by omega, hr⟩, fun j a b c => ?_⟩
  by_cases hj : j = k
  · exact Or.inl hj
  · right
    obtain ⟨q1, q2⟩ | ⟨q1, q2⟩ := m
    · exact absurd c (q2 j a (by omega))
    · obtain q | q := q2 j a (by omega) c
      · rw [q]; exact ha.resolve_left (by omega)
      · exact t.2.1 k x j hr q1.2.2 c (ha.resolve_left (by omega)) q
theorem MinB_n {R : Int → Prop} {A : Int → Int → Prop} (t : TO R A) {k x : Int} (m : MinB R A k x) (hr : R k → 0 ≤ x ∧ ¬A k x) : MinB R A (k + 1) x := by
  obtain ⟨q1, q2⟩ | ⟨q1, q2⟩ := m
  · refine Or.inl ⟨q1, fun j a b c => ?_⟩
    by_cases hj : j = k
    · subst hj; have := (hr c).1; omega
    · exact q2 j a (by omega) c
  · refine Or.inr ⟨⟨q1.1, by omega, q1.2.2⟩, fun j a b c => ?_⟩
    by_cases hj : j = k
    · subst hj
      by_cases hx : j = x
      · exact Or.inl hx
      · exact Or.inr ((t.1 j x c q1.2.2 hx).resolve_left (hr c).2)
    · exact q2 j a (by omega) c
/-- the objects of a set in their order -/
def Enum (S : Int → Prop) (A : Int → Int → Prop) (n : Int) (e : Int → Int) : Prop := (∀ i, 0 ≤ i → i < n → S (e i)) ∧ (∀ i j, 0 ≤ i → i < j → j < n → A (e i) (e j)) ∧ ∀ x, S x → ∃ i, (0 ≤ i ∧ i < n) ∧ e i = x
theorem Enum_u {S : Int → Prop} {A : Int → Int → Prop} {n m : Int} {e f : Int → Int} (t : TO S A) (he : Enum S A n e) (hf : Enum S A m f) (hn : 0 ≤ n) (hm : 0 ≤ m) : n = m ∧ ∀ i, 0 ≤ i → i < n → e i = f i := by
  have asym : ∀ a b, S a → S b → A a b → ¬A b a := fun a b ha hb q r => t.2.2 a ha (t.2.1 a b a ha hb ha q r)
  have key : ∀ k : Nat, ∀ i : Int, 0 ≤ i → i < k → i < n → i < m ∧ e i = f i := by
    intro k
    induction k with
    | zero => intro i a b; omega
    | succ k ih =>
      intro i h0 h1 h2
      by_cases hi : i < k
      · exact ih i h0 hi h2
      · have hsi := he.1 i h0 h2
        obtain ⟨j, hj, ej⟩ := hf.2.2 (e i) hsi
        have hji : i ≤ j := by
          apply Classical.byContradiction
          intro q
          have hlt : j < i := by omega
          obtain ⟨-, e2⟩ := ih j hj.1 (by omega) (by omega)
          have := he.2.1 j i hj.1 hlt h2
          rw [e2, ej] at this
          exact t.2.2 _ hsi this
        by_cases hij : j = i
        · subst hij; exact ⟨hj.2, ej.symm⟩
        · exfalso
          have him : i < m := by omega
          have hsf := hf.1 i h0 him
          have a1 := hf.2.1 i j h0 (by omega) hj.2
          rw [ej] at a1
          obtain ⟨l, hl, el⟩ := he.2.2 (f i) hsf
          by_cases hli : l < i
          · obtain ⟨-, e2⟩ := ih l hl.1 (by omega) hl.2
            have a2 := hf.2.1 l i hl.1 hli him
            rw [← e2, el] at a2
            exact t.2.2 _ hsf a2
          · by_cases hle : l = i
            · rw [hle] at el
              rw [el] at a1
              exact t.2.2 _ hsf a1
            · have a2 := he.2.1 i l h0 (by omega) hl.2
              rw [el] at a2
              exact asym _ _ hsi hsf a2 a1
  have hnm : n ≤ m := by
    apply Classical.byContradiction
    intro q
    have := (key n.toNat m hm (by omega) (by omega)).1
    omega
  have hmn : m ≤ n := by
    apply Classical.byContradiction
    intro q
    have hs := hf.1 n hn (by omega)
    obtain ⟨l, hl, el⟩ := he.2.2 (f n) hs
    have e2 := (key n.toNat l hl.1 (by omega) hl.2).2
    have a2 := hf.2.1 l n hl.1 hl.2 (by omega)
    rw [← e2, el] at a2
    exact t.2.2 _ hs a2
  exact ⟨by omega, fun i a b => (key n.toNat i a (by omega) b).2⟩
/-- picking the first again and again -/
theorem lpSel {R X : Type} (S : Int → Prop) (A : Int → Int → Prop) (n : Int) (t : TO S A) (hS : ∀ j, S j → 0 ≤ j ∧ j < n) (hn : 0 ≤ n) (Hd : (Int → Prop) → (Int → Int) → Int → X → R) (G : (Int → Prop) → (Int → Int) → Int → X → Prop)
    (hs : ∀ Rm e c x y, (∀ j, Rm j → S j) → 0 ≤ c → c + cN Rm n.toNat = cN S n.toNat → G Rm e c x → MinB Rm A n y → 0 ≤ y → ∃ x1, Hd Rm e c x = Hd (fun j => Rm j ∧ j ≠ y) (up1 e c y) (c + 1) x1 ∧ G (fun j => Rm j ∧ j ≠ y) (up1 e c y) (c + 1) x1)
    (e0 : Int → Int) (x0 : X) (g0 : G S e0 0 x0) : ∃ e x1, Hd S e0 0 x0 = Hd (fun _ => False) e (cN S n.toNat) x1 ∧ Enum S A (cN S n.toNat) e ∧ G (fun _ => False) e (cN S n.toNat) x1 := by
  have tr : ∀ Rm : Int → Prop, (∀ j, Rm j → S j) → TO Rm A := fun Rm q => ⟨fun a b x y => t.1 a b (q a x) (q b y), fun a b c x y z => t.2.1 a b c (q a x) (q b y) (q c z), fun a x => t.2.2 a (q a x)⟩
  have mn : ∀ Rm : Int → Prop, (∀ j, Rm j → S j) → ∃ y, MinB Rm A n y := by
    intro Rm q
    have key : ∀ k : Nat, ∃ y, MinB Rm A k y := by
      intro k
      induction k with
      | zero => exact ⟨-1, MinB_0⟩
      | succ k ih =>
        obtain ⟨y, hy⟩ := ih
        by_cases hc : Rm k ∧ (y < 0 ∨ A k y)
        · exact ⟨k, MinB_y (tr Rm q) (by omega) hy hc.1 hc.2⟩
        · refine ⟨y, MinB_n (tr Rm q) hy (fun r => ⟨?_, ?_⟩)⟩
          · apply Classical.byContradiction
            intro w
            exact hc ⟨r, Or.inl (by omega)⟩
          · intro w
            exact hc ⟨r, Or.inr w⟩
    have := key n.toNat
    rwa [Int.toNat_of_nonneg hn] at this
  refine lpW (fun x : (Int → Prop) × (Int → Int) × Int × X => Hd x.1 x.2.1 x.2.2.1 x.2.2.2)
    (fun x => ((∀ j, x.1 j → S j) ∧ 0 ≤ x.2.2.1 ∧ x.2.2.1 + cN x.1 n.toNat = cN S n.toNat ∧ G x.1 x.2.1 x.2.2.1 x.2.2.2) ∧ (∀ i, 0 ≤ i → i < x.2.2.1 → S (x.2.1 i) ∧ ∀ j, x.1 j → A (x.2.1 i) j) ∧ (∀ i j, 0 ≤ i → i < j → j < x.2.2.1 → A (x.2.1 i) (x.2.1 j)) ∧ ∀ z, S z → x.1 z ∨ ∃ i, (0 ≤ i ∧ i < x.2.2.1) ∧ x.2.1 i = z)
    (fun r => ∃ e x1, r = Hd (fun _ => False) e (cN S n.toNat) x1 ∧ Enum S A (cN S n.toNat) e ∧ G (fun _ => False) e (cN S n.toNat) x1) (fun x => (cN x.1 n.toNat).toNat) ?_ (S, e0, 0, x0) ⟨⟨fun _ q => q, Int.le_refl _, Int.zero_add _, g0⟩, fun i a b => ?_, fun i j a b c => ?_, fun z q => Or.inl q⟩
  · rintro ⟨Rm, e, c, x⟩ ⟨⟨h1, h2, h3, h4⟩, h5, h6, h7⟩
    dsimp only at h1 h2 h3 h4 h5 h6 h7 ⊢
    obtain ⟨y, hy⟩ := mn Rm h1
    by_cases h0 : 0 ≤ y
    · right
      obtain ⟨x1, e1, g1⟩ := hs Rm e c x y h1 h2 h3 h4 hy h0
      obtain ⟨q1, _⟩ | ⟨q1, q2⟩ := hy
      · omega
      have hm := cN_m (P := Rm) q1.1 q1.2.2 n.toNat (by omega)
      have hb := cN_b (P := fun j => Rm j ∧ j ≠ y) n.toNat
      refine ⟨(fun j => Rm j ∧ j ≠ y, up1 e c y, c + 1, x1), e1, ⟨⟨fun j q => h1 j q.1, by dsimp only; omega, by dsimp only; omega, g1⟩, ?_, ?_, ?_⟩, by dsimp only; omega⟩
      · intro i a b
        dsimp only at b ⊢
        by_cases hi : i = c
        · subst hi
          rw [up1_eq]
          refine ⟨h1 y q1.2.2, fun j q => ?_⟩
          have hj := hS j (h1 j q.1)
          exact (q2 j hj.1 hj.2 q.1).resolve_left q.2
        · rw [up1_ne hi]
          have := h5 i a (by omega)
          exact ⟨this.1, fun j q => this.2 j q.1⟩
      · intro i j a b d
        dsimp only at d ⊢
        by_cases hj : j = c
        · subst hj
          rw [up1_eq, up1_ne (by omega)]
          exact (h5 i a b).2 y q1.2.2
        · rw [up1_ne hj, up1_ne (by omega)]
          exact h6 i j a b (by omega)
      · intro z q
        dsimp only
        obtain r | ⟨i, hi, ei⟩ := h7 z q
        · by_cases hz : z = y
          · subst hz; exact Or.inr ⟨c, by omega, up1_eq⟩
          · exact Or.inl ⟨r, hz⟩
        · exact Or.inr ⟨i, by omega, by rw [up1_ne (by omega)]; exact ei⟩
    · left
      obtain ⟨_, q2⟩ | ⟨q1, _⟩ := hy
      · have hR : Rm = fun _ => False := funext (fun j => propext ⟨fun r => by have := hS j (h1 j r); exact q2 j this.1 this.2 r, False.elim⟩)
        subst hR
        have z0 : cN (fun _ => False) n.toNat = 0 := cN_0 _ (fun _ _ _ q => q)
        have hc : c = cN S n.toNat := by omega
        subst hc
        exact ⟨e, x, rfl, ⟨fun i a b => (h5 i a b).1, h6, fun z q => (h7 z q).resolve_left id⟩, h4⟩
      · omega
  · dsimp only at b; omega
  · dsimp only at c; omega
