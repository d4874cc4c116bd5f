/-! ===== loops; small things for the methods' equations ===== -/
theorem zero_ne_one_I : ((0 : Int) = 1) = False := by simp
theorem one_ne_zero_I : ((1 : Int) = 0) = False := by simp
theorem lpU {R : Type} (L : Int → R) (a n : Int) (hn : a ≤ n) (hs : ∀ k, a ≤ k → k < n → L k = L (k + 1)) : L a = L n := by
  have key : ∀ d : Nat, ∀ k, a ≤ k → k + d = n → L k = L n := by
    intro d
    induction d with
    | zero => intro k _ hk; have : k = n := by omega
              rw [this]
    | succ d ih =>
      intro k ha hk
      rw [hs k ha (by omega)]
      exact ih (k + 1) (by omega) (by omega)
  exact key (n - a).toNat a (Int.le_refl a) (by omega)
theorem lpQ {X R : Type} (L : Int → X → R) (P : Int → X → Prop) (Q : R → Prop) (a n : Int) (hn : a ≤ n)
    (hs : ∀ k x, a ≤ k → k < n → P k x → Q (L k x) ∨ ∃ x1, L k x = L (k + 1) x1 ∧ P (k + 1) x1) (he : ∀ x, P n x → Q (L n x)) (x : X) (h0 : P a x) : Q (L a x) := by
  have key : ∀ d : Nat, ∀ k x, a ≤ k → k + d = n → P k x → Q (L k x) := by
    intro d
    induction d with
    | zero =>
      intro k x _ hk hp
      have : k = n := by omega
      subst this
      exact he x hp
    | succ d ih =>
      intro k x ha hk hp
      obtain hq | ⟨x1, e, hp1⟩ := hs k x ha (by omega) hp
      · exact hq
      · rw [e]
        exact ih (k + 1) x1 (by omega) (by omega) hp1
  exact key (n - a).toNat a x (Int.le_refl a) (by omega) h0
theorem lpE {X R : Type} (L : Int → X → R) (P : Int → X → Prop) (a n : Int) (hn : a ≤ n)
    (hs : ∀ k x, a ≤ k → k < n → P k x → ∃ x1, L k x = L (k + 1) x1 ∧ P (k + 1) x1) (x : X) (h0 : P a x) : ∃ x1, L a x = L n x1 ∧ P n x1 := by
  refine lpQ L P (fun r => ∃ x1, r = L n x1 ∧ P n x1) a n hn ?_ ?_ x h0
  · intro k x ha hk hp
    exact Or.inr (hs k x ha hk hp)
  · intro x hp
    exact ⟨x, rfl, hp⟩
theorem lpW {X R : Type} (L : X → R) (P : X → Prop) (Q : R → Prop) (m : X → Nat)
    (hs : ∀ x, P x → Q (L x) ∨ ∃ x1, L x = L x1 ∧ P x1 ∧ m x1 < m x) (x : X) (h0 : P x) : Q (L x) := by
  have key : ∀ n : Nat, ∀ x, m x ≤ n → P x → Q (L x) := by
    intro n
    induction n with
    | zero =>
      intro x hm hp
      obtain hq | ⟨x1, e, hp1, hl⟩ := hs x hp
      · exact hq
      · omega
    | succ n ih =>
      intro x hm hp
      obtain hq | ⟨x1, e, hp1, hl⟩ := hs x hp
      · exact hq
      · rw [e]
        exact ih x1 (by omega) hp1
  exact key (m x) x (Nat.le_refl _) h0
/-- a truth value as the machine keeps it -/
noncomputable def b01 (p : Prop) : Int := @ite Int p (Classical.propDecidable p) 1 0
theorem b01_t {p : Prop} (hp : p) : b01 p = 1 := if_pos hp
theorem b01_f {p : Prop} (hp : ¬p) : b01 p = 0 := if_neg hp
theorem b01_or (p : Prop) : b01 p = 0 ∨ b01 p = 1 := by
  by_cases hp : p
  · exact Or.inr (b01_t hp)
  · exact Or.inl (b01_f hp)
theorem b01_e0 {p : Prop} : (b01 p = 0) = ¬p := by
  by_cases hp : p
  · rw [b01_t hp]; simp [hp]
  · rw [b01_f hp]; simp [hp]
theorem b01_e1 {p : Prop} : (b01 p = 1) = p := by
  by_cases hp : p
  · rw [b01_t hp]; simp [hp]
  · rw [b01_f hp]; simp [hp]
theorem b01_c {p q : Prop} (h : p ↔ q) : b01 p = b01 q := by rw [propext h]
theorem b01_v {x : Int} {p : Prop} (h : x = 0 ∨ x = 1) (hp : x = 1 ↔ p) : x = b01 p := by
  by_cases q : p
  · rw [b01_t q, hp.mpr q]
  · rw [b01_f q]
    obtain h | h := h
    · exact h
    · exact absurd (hp.mp h) q
/-- what a set with an edge leads to -/
def Cl (E : Int → Int → Prop) (S : Int → Prop) (x : Int) : Prop := ∀ P : Int → Prop, (∀ a, S a → P a) → (∀ a b, P a → E a b → P b) → P x
theorem Cl_base {E : Int → Int → Prop} {S : Int → Prop} {a : Int} (h : S a) : Cl E S a := fun _ h1 _ => h1 a h
theorem Cl_step {E : Int → Int → Prop} {S : Int → Prop} {a b : Int} (h : Cl E S a) (e : E a b) : Cl E S b := fun P h1 h2 => h2 a b (h P h1 h2) e
theorem Cl_ind {E : Int → Int → Prop} {S P : Int → Prop} {x : Int} (h : Cl E S x) (h1 : ∀ a, S a → P a) (h2 : ∀ a b, P a → E a b → P b) : P x := h P h1 h2
/-- the index of the last name that is x, below n -/
def fndN (nm : Int → Int) (x : Int) : Nat → Int
  | 0 => -1
  | n + 1 => if nm n = x then (n : Int) else fndN nm x n
abbrev fnd (I : Nat → Int → Int) (x : Int) : Int := fndN (I 98) x (I 94 0).toNat
theorem fndN_s {nm : Int → Int} {x k : Int} (hk : 0 ≤ k) : fndN nm x (k + 1).toNat = if nm k = x then k else fndN nm x k.toNat := by
  have : (k + 1).toNat = k.toNat + 1 := by omega
  rw [this]
  show (if nm (k.toNat : Int) = x then (k.toNat : Int) else _) = _
  rw [Int.toNat_of_nonneg hk]
/-- a row of the memory anew -/
def rowU (I : Nat → Int → Int) (a : Nat) (f : Int → Int) : Nat → Int → Int := fun b => if b = a then f else I b
def up1 (f : Int → Int) (k v : Int) : Int → Int := fun j => if j = k then v else f j
theorem rowU_eq {I : Nat → Int → Int} {a : Nat} {f : Int → Int} : rowU I a f a = f := if_pos rfl
theorem rowU_ne {I : Nat → Int → Int} {a b : Nat} {f : Int → Int} (h : b ≠ a) : rowU I a f b = I b := if_neg h
theorem rowU_id (I : Nat → Int → Int) (a : Nat) : rowU I a (I a) = I := by
  funext b
  by_cases h : b = a
  · subst h; exact rowU_eq
  · exact rowU_ne h
theorem rowU_tw {I : Nat → Int → Int} {a : Nat} {f g : Int → Int} : rowU (rowU I a f) a g = rowU I a g := by
  funext b
  by_cases h : b = a
  · subst h; rw [rowU_eq, rowU_eq]
  · rw [rowU_ne h, rowU_ne h, rowU_ne h]
theorem rowU_cm {I : Nat → Int → Int} {a b : Nat} {f g : Int → Int} (hab : a ≠ b) : rowU (rowU I a f) b g = rowU (rowU I b g) a f := by
  funext c
  by_cases h : c = a
  · subst h; rw [rowU_eq, rowU_ne hab, rowU_eq]
  · by_cases h2 : c = b
    · subst h2; rw [rowU_eq, rowU_ne h, rowU_eq]
    · rw [rowU_ne h, rowU_ne h2, rowU_ne h2, rowU_ne h]
theorem zu2_row (I : Nat → Int → Int) (a : Nat) (k v : Int) : zu2 I a k v = rowU I a (up1 (I a) k v) := by
  funext b j
  unfold zu2 rowU up1
  by_cases h : b = a
  · subst h
    by_cases h2 : j = k
    · simp [h2]
    · simp [h2]
  · simp [h]
theorem up1_eq {f : Int → Int} {k v : Int} : up1 f k v k = v := if_pos rfl
theorem up1_ne {f : Int → Int} {k v j : Int} (h : j ≠ k) : up1 f k v j = f j := if_neg h
theorem zor_b (p q : Prop) : zor (b01 p) (b01 q) = b01 (p ∨ q) := by
  by_cases hp : p <;> by_cases hq : q <;> simp only [b01, hp, hq, if_true, if_false, or_true, true_or, or_self] <;> decide
theorem zand_b (p q : Prop) : zand (b01 p) (b01 q) = b01 (p ∧ q) := by
  by_cases hp : p <;> by_cases hq : q <;> simp only [b01, hp, hq, if_true, if_false, and_true, true_and, and_self, and_false, false_and] <;> decide
theorem b01_x {x : Int} (h : x = 0 ∨ x = 1) : x = b01 (x = 1) := b01_v h Iff.rfl
/-- a set as a row of truth values -/
noncomputable def ind (P : Int → Prop) : Int → Int := fun j => b01 (P j)
theorem ind_c {P Q : Int → Prop} (h : ∀ j, P j ↔ Q j) : ind P = ind Q := by
  funext j; exact b01_c (h j)
theorem ind_v {f : Int → Int} (h : ∀ j, f j = 0 ∨ f j = 1) : f = ind (fun j => f j = 1) := by
  funext j; exact b01_x (h j)
theorem up1_ind1 {P : Int → Prop} {k : Int} : up1 (ind P) k 1 = ind (fun j => P j ∨ j = k) := by
  funext j
  unfold up1 ind
  by_cases h : j = k
  · rw [if_pos h, b01_t (Or.inr h)]
  · rw [if_neg h]; exact b01_c ⟨Or.inl, fun q => q.resolve_right h⟩
theorem up1_ind0 {P : Int → Prop} {k : Int} : up1 (ind P) k 0 = ind (fun j => P j ∧ j ≠ k) := by
  funext j
  unfold up1 ind
  by_cases h : j = k
  · rw [if_pos h, b01_f (fun q => q.2 h)]
  · rw [if_neg h]; exact b01_c ⟨fun q => ⟨q, h⟩, And.left⟩
theorem ind_st1 {P Q Q1 : Int → Prop} {b0 : Int} (h : ∀ b, Q1 b ↔ Q b ∨ b = b0) : ind (fun j => (P j ∨ Q j) ∨ j = b0) = ind (fun j => P j ∨ Q1 j) :=
  ind_c (fun j => by rw [h j, or_assoc])
theorem ind_st2 {P Q Q1 : Int → Prop} {b0 : Int} (h : ∀ b, Q1 b ↔ Q b ∨ b = b0) : b01 ((∃ b, Q b ∧ ¬P b) ∨ ¬(P b0 ∨ Q b0)) = b01 (∃ b, Q1 b ∧ ¬P b) := by
  apply b01_c
  constructor
  · rintro (⟨b, hb, hp⟩ | hn)
    · exact ⟨b, (h b).mpr (Or.inl hb), hp⟩
    · exact ⟨b0, (h b0).mpr (Or.inr rfl), fun q => hn (Or.inl q)⟩
  · rintro ⟨b, hb, hp⟩
    obtain hb | hb := (h b).mp hb
    · exact Or.inl ⟨b, hb, hp⟩
    · subst hb
      by_cases q : Q b
      · exact Or.inl ⟨b, q, hp⟩
      · exact Or.inr (fun c => c.elim hp q)
