/-! ===== the reference's methods (25): packs ===== -/
def KO (I : Nat → Int → Int) (a b : Int) : Prop := I 95 a < I 95 b ∨ (I 95 a = I 95 b ∧ (I 96 b < I 96 a ∨ (I 96 a = I 96 b ∧ I 98 a < I 98 b)))
theorem r247 {h : HP} {I : Nat → Int → Int} {a b : Int} (L : LX 11 h 94) (ha : 0 ≤ a ∧ a < 120) (hb : 0 ≤ b ∧ b < 120) : Go 247 0 [.inr (.inl (some 94)), .inl a, .inl b] [] (mI h I) = some (mI h I, .inl (some (.inl (b01 (KO I a b))))) := by
  rw [b247_0 L ha hb]
  unfold KO
  by_cases h1 : I 95 a = I 95 b
  · rw [if_pos h1, b247_22 L ha hb]
    by_cases h2 : I 96 b < I 96 a
    · rw [if_pos h2, b247_49, b247_52 (Or.inr rfl), b01_t (by omega)]
    · rw [if_neg h2, b247_31 L ha hb]
      by_cases h3 : I 96 a = I 96 b
      · rw [if_neg (fun q => q h3), b247_40 L ha hb]
        by_cases h4 : I 98 b ≤ I 98 a
        · rw [if_pos h4, b247_51, b247_52 (Or.inl rfl), b01_f (by omega)]
        · rw [if_neg h4, b247_49, b247_52 (Or.inr rfl), b01_t (by omega)]
      · rw [if_pos h3, b247_51, b247_52 (Or.inl rfl), b01_f (by omega)]
  · rw [if_neg h1, b247_9 L ha hb]
    by_cases h2 : I 95 b ≤ I 95 a
    · rw [if_pos h2, b247_20, b247_21 (Or.inl rfl), b01_f (by omega)]
    · rw [if_neg h2, b247_18, b247_21 (Or.inr rfl), b01_t (by omega)]
theorem TO_KO {I : Nat → Int → Int} (D : NmD I) {T : Int → Prop} (hT : ∀ j, T j → 0 ≤ j ∧ j < I 94 0) : TO T (KO I) := by
  refine ⟨fun a b x y q => ?_, fun a b c _ _ _ x y => ?_, fun a _ x => ?_⟩
  · have ha := hT a x
    have hb := hT b y
    have : I 98 a ≠ I 98 b := fun r => q (D a b ha.1 ha.2 hb.1 hb.2 r)
    unfold KO
    omega
  · unfold KO at *
    omega
  · unfold KO at x
    omega
theorem fo_b {C : Int → Int → Prop} {v : Int → Int} : ∀ (n : Nat) (k : Int) (s : Int × Int), (fo C v n k s).2 = s.2 ∨ (0 ≤ (fo C v n k s).2 ∧ (fo C v n k s).2 ≤ k)
  | 0, _, _ => Or.inl rfl
  | n + 1, k, s => by
    unfold fo
    by_cases hk : k < 0
    · rw [if_pos hk]; exact Or.inl rfl
    · rw [if_neg hk]
      by_cases hc : C k s.1
      · rw [if_pos hc]
        obtain q | q := fo_b (C := C) (v := v) n (k - 1) (v k, k)
        · rw [q]; exact Or.inr ⟨by dsimp only; omega, Int.le_refl _⟩
        · exact Or.inr ⟨q.1, by omega⟩
      · rw [if_neg hc]
        obtain q | q := fo_b (C := C) (v := v) n (k - 1) s
        · exact Or.inl q
        · exact Or.inr ⟨q.1, by omega⟩
theorem gm_b {C : Int → Int → Prop} {v e : Int → Int} {s : Int × Int} : ∀ n : Nat, (gm C v e s n).2 = s.2 ∨ ∃ i : Int, (0 ≤ i ∧ i < (n : Int)) ∧ (gm C v e s n).2 = e i ∧ ∃ b, C (e i) b
  | 0 => Or.inl rfl
  | n + 1 => by
    unfold gm
    by_cases hc : C (e n) (gm C v e s n).1
    · rw [if_pos hc]
      exact Or.inr ⟨n, ⟨by omega, by omega⟩, rfl, _, hc⟩
    · rw [if_neg hc]
      obtain q | ⟨i, hi, q⟩ := gm_b (C := C) (v := v) (e := e) (s := s) n
      · exact Or.inl q
      · exact Or.inr ⟨i, by omega, q⟩
/-- entries are unlike -/
def PD (I : Nat → Int → Int) (p : Int) : Prop := ∀ i j, 0 ≤ i → i < j → j < I 111 p → I 112 (120 * p + i) ≠ I 112 (120 * p + j)
theorem pig {f : Int → Int} {m o : Int} : ∀ n : Nat, (∀ i, 0 ≤ i → i < (n : Int) → 0 ≤ f i ∧ f i < m) → (∀ i j, 0 ≤ i → i < j → j < (n : Int) → f i ≠ f j) → cN (fun z => ∃ k, (0 ≤ k ∧ k < (n : Int)) ∧ f k = z) m.toNat = n
  | 0, _, _ => cN_0 _ (fun k _ _ ⟨i, hi, _⟩ => by omega)
  | n + 1, h1, h2 => by
    have ih := pig (f := f) (m := m) (o := o) n (fun i a b => h1 i a (by omega)) (fun i j a b c => h2 i j a b (by omega))
    have hn := h1 n (by omega) (by omega)
    have q := cN_m (P := fun z => ∃ k, (0 ≤ k ∧ k < ((n + 1 : Nat) : Int)) ∧ f k = z) (b := f n) hn.1 ⟨n, by omega, rfl⟩ m.toNat (by omega)
    rw [cN_c (Q := fun z => ∃ k, (0 ≤ k ∧ k < (n : Int)) ∧ f k = z) _ (fun z _ _ => ⟨fun ⟨⟨k, hk, e⟩, hz⟩ => ⟨k, ⟨hk.1, by
      by_cases hkn : k = n
      · subst hkn; exact absurd e.symm hz
      · omega⟩, e⟩, fun ⟨k, hk, e⟩ => ⟨⟨k, by omega, e⟩, fun r => h2 k n hk.1 hk.2 (by omega) (by rw [e, r])⟩⟩), ih] at q
    omega
theorem PD_lt {I : Nat → Int → Int} {p o : Int} (K : WK I) (P : PD I p) (hp : 0 ≤ p ∧ p < 40) (ho : 0 ≤ o ∧ o < I 94 0) (hn : ∀ k, 0 ≤ k → k < I 111 p → I 112 (120 * p + k) ≠ o) : I 111 p < I 94 0 := by
  have hk := K.2 p hp.1 hp.2
  have e1 : ((I 111 p).toNat : Int) = I 111 p := Int.toNat_of_nonneg hk.1.1
  have q := pig (f := fun k => I 112 (120 * p + k)) (m := I 94 0) (o := o) (I 111 p).toNat (fun i a b => (hk.2 i a (by omega)).1) (fun i j a b c => P i j a b (by omega))
  have q2 := cN_lt (P := fun z => ∃ k, (0 ≤ k ∧ k < ((I 111 p).toNat : Int)) ∧ I 112 (120 * p + k) = z) (Q := fun _ => True) (b := o) ho.1 trivial (fun ⟨k, hk, e⟩ => hn k hk.1 (by omega) e) (I 94 0).toNat (by omega) (fun _ _ _ _ => trivial)
  have q3 := cN_b (P := fun _ => True) (I 94 0).toNat
  omega
theorem en_111 {I : Nat → Int → Int} {p o b : Int} : en I p o b 111 = up1 (I 111) p (I 111 p + 1) := by
  unfold en
  rw [rowU_eq]
theorem en_112 {I : Nat → Int → Int} {p o b : Int} : en I p o b 112 = up1 (I 112) (120 * p + I 111 p) o := by
  unfold en
  rw [rowU_ne (by decide), rowU_ne (by decide), rowU_ne (by decide), rowU_eq]
theorem en_113 {I : Nat → Int → Int} {p o b : Int} : en I p o b 113 = up1 (I 113) (120 * p + I 111 p) b := by
  unfold en
  rw [rowU_ne (by decide), rowU_ne (by decide), rowU_eq]
theorem en_114 {I : Nat → Int → Int} {p o b : Int} : en I p o b 114 = up1 (I 114) (120 * p + I 111 p) 0 := by
  unfold en
  rw [rowU_ne (by decide), rowU_eq]
theorem WK_en {I : Nat → Int → Int} {p o b : Int} (K : WK I) (hp : 0 ≤ p ∧ p < 40) (ho : 0 ≤ o ∧ o < I 94 0) (hb : -1 ≤ b ∧ b < I 111 p) (hm : I 111 p < 100) : WK (en I p o b) := by
  refine ⟨fun s hs => by rw [en_f (by omega)]; exact K.1 s hs, fun q q0 q1 => ?_⟩
  have hq := K.2 q q0 q1
  have hpp := (K.2 p hp.1 hp.2).1
  rw [en_111, en_112, en_113, en_f (a := 94) (by omega)]
  by_cases e : q = p
  · subst e
    rw [up1_eq]
    refine ⟨by omega, fun k k0 k1 => ?_⟩
    by_cases ek : k = I 111 q
    · subst ek
      rw [up1_eq, up1_eq]
      exact ⟨ho, hb⟩
    · rw [up1_ne (by omega), up1_ne (by omega)]
      exact hq.2 k k0 (by omega)
  · rw [up1_ne e]
    refine ⟨hq.1, fun k k0 k1 => ?_⟩
    rw [up1_ne (by omega), up1_ne (by omega)]
    exact hq.2 k k0 k1
theorem PD_en {I : Nat → Int → Int} {p o b : Int} (P : PD I p) (hm : 0 ≤ I 111 p) (hn : ∀ k, 0 ≤ k → k < I 111 p → I 112 (120 * p + k) ≠ o) : PD (en I p o b) p := by
  intro i j h0 h1 h2
  rw [en_111, up1_eq] at h2
  rw [en_112]
  by_cases ej : j = I 111 p
  · subst ej
    rw [up1_eq, up1_ne (by omega)]
    exact hn i h0 h1
  · rw [up1_ne (by omega), up1_ne (by omega)]
    exact P i j h0 h1 (by omega)
/-- what holds of a pack while it is filled: R is what is still to come -/
def PG (I : Nat → Int → Int) (p : Int) (R : Int → Prop) : Prop := WK I ∧ PD I p ∧ ∀ k, 0 ≤ k → k < I 111 p → ¬R (I 112 (120 * p + k))
theorem P1_f {I : Nat → Int → Int} {e : Int → Int} {p o win deep t : Int} {a : Nat} (h : a < 111 ∨ 114 < a) : P1 I e p o win deep t a = I a := by
  unfold P1
  split
  · split
    · rw [en_f h, en_f h]
    · rw [en_f h]
  · rw [en_f h]
theorem eo_no {I : Nat → Int → Int} {p o : Int} (hm : 0 ≤ I 111 p) (h : eo I p o < 0) : ∀ k, 0 ≤ k → k < I 111 p → I 112 (120 * p + k) ≠ o := by
  have hb := eo_b (I := I) (p := p) (o := o) hm
  intro k k0 k1
  exact lastP_no (P := fun k => I 112 (120 * p + k) = o) (I 111 p).toNat (by unfold eo at h hb; omega) k k0 (by omega)
theorem PG_en {I : Nat → Int → Int} {p o b : Int} {R : Int → Prop} (G : PG I p R) (hT : I 94 0 ≤ 100) (hp : 0 ≤ p ∧ p < 40) (ho : 0 ≤ o ∧ o < I 94 0) (hb : -1 ≤ b ∧ b < I 111 p) (hn : ∀ k, 0 ≤ k → k < I 111 p → I 112 (120 * p + k) ≠ o) (hR : ¬R o) : PG (en I p o b) p R := by
  have hm := PD_lt G.1 G.2.1 hp ho hn
  have h0 := (G.1.2 p hp.1 hp.2).1
  refine ⟨WK_en G.1 hp ho hb (by omega), PD_en G.2.1 h0.1 hn, fun k k0 k1 => ?_⟩
  rw [en_111, up1_eq] at k1
  rw [en_112]
  by_cases ek : k = I 111 p
  · subst ek; rw [up1_eq]; exact hR
  · rw [up1_ne (by omega)]
    exact G.2.2 k k0 (by omega)
theorem PG_P1 {I : Nat → Int → Int} {e : Int → Int} {p o win deep t : Int} {R : Int → Prop} (G : PG I p R) (hT : I 94 0 ≤ 100) (E : EnN I e) (hp : 0 ≤ p ∧ p < 40) (ho : 0 ≤ o ∧ o < I 94 0) (hR : R o) (hd : t ≠ 0 → ∀ z, I 135 z ≠ 0 → ¬R z) : PG (P1 I e p o win deep t) p (fun j => R j ∧ j ≠ o) := by
  have G2 : PG I p (fun j => R j ∧ j ≠ o) := ⟨G.1, G.2.1, fun k k0 k1 q => G.2.2 k k0 k1 q.1⟩
  have h0 := (G.1.2 p hp.1 hp.2).1
  have hn : ∀ k, 0 ≤ k → k < I 111 p → I 112 (120 * p + k) ≠ o := fun k k0 k1 q => G.2.2 k k0 k1 (by rw [q]; exact hR)
  unfold P1
  split
  · next hc =>
    have hz : ∃ i, (0 ≤ i ∧ i < ((I 94 0).toNat : Int)) ∧ (b2 I e p o win deep).2 = e i ∧ ∃ b, C2 I p o (e i) b := by
      obtain q | q := gm_b (C := C2 I p o) (v := dlt I o) (e := e) (s := ((b1 I p o win deep).1, -1)) (I 94 0).toNat
      · have h2 := hc.2
        unfold b2 at h2
        rw [q] at h2
        dsimp only at h2
        omega
      · exact q
    obtain ⟨i, hi, ez, b, cz⟩ := hz
    have hzr : 0 ≤ (b2 I e p o win deep).2 ∧ (b2 I e p o win deep).2 < I 94 0 := by
      rw [ez]
      exact E.1 i hi.1 (by omega)
    have hz3 : ¬R (b2 I e p o win deep).2 := by
      rw [ez]
      exact hd hc.1 _ cz.1
    split
    · next hq =>
      have hno := eo_no h0.1 hq
      have G3 := PG_en (b := -1) G2 hT hp hzr (by omega) hno (fun q => hz3 q.1)
      refine PG_en G3 (by rw [en_f (by omega)]; exact hT) hp (by rw [en_f (by omega)]; exact ho) (by rw [en_111, up1_eq]; omega) (fun k k0 k1 => ?_) (fun q => q.2 rfl)
      rw [en_111, up1_eq] at k1
      rw [en_112]
      by_cases ek : k = I 111 p
      · subst ek
        rw [up1_eq]
        exact fun q => hz3 (by rw [q]; exact hR)
      · rw [up1_ne (by omega)]
        exact hn k k0 (by omega)
    · next hq =>
      have hb := eo_b (I := I) (p := p) (o := (b2 I e p o win deep).2) h0.1
      exact PG_en G2 hT hp ho ⟨hb.1, hb.2.1⟩ hn (fun q => q.2 rfl)
  · have hb := fo_b (C := C1 I p o deep) (v := V1 I p o) win.toNat (I 111 p - 1) (I 96 o, -1)
    have e1 : fo (C1 I p o deep) (V1 I p o) win.toNat (I 111 p - 1) (I 96 o, -1) = b1 I p o win deep := rfl
    rw [e1] at hb
    exact PG_en G2 hT hp ho (by dsimp only at hb; omega) hn (fun q => q.2 rfl)
/-- a pack is filled, object by object -/
noncomputable def PA (M : Nat → Int → Int) (en_ : Int → Int) (p win deep t : Int) (e : Int → Int) : Nat → Nat → Int → Int
  | 0 => M
  | n + 1 => P1 (zu2 (PA M en_ p win deep t e n) 136 (e n) 0) en_ p (e n) win deep t
theorem PA_c {M : Nat → Int → Int} {en_ : Int → Int} {p win deep t : Int} {e f : Int → Int} : ∀ n : Nat, (∀ i, 0 ≤ i → i < (n : Int) → e i = f i) → PA M en_ p win deep t e n = PA M en_ p win deep t f n
  | 0, _ => rfl
  | n + 1, h => by
    unfold PA
    rw [PA_c n (fun i a b => h i a (by omega)), h n (by omega) (by omega)]
theorem PA_f {M : Nat → Int → Int} {en_ e : Int → Int} {p win deep t : Int} {a : Nat} (h : (a < 111 ∨ 114 < a) ∧ a ≠ 136) : ∀ n : Nat, PA M en_ p win deep t e n a = M a
  | 0 => rfl
  | n + 1 => by
    unfold PA
    rw [P1_f h.1, zu2_row, rowU_ne h.2, PA_f h n]
theorem PA_s {M : Nat → Int → Int} {en_ e : Int → Int} {p win deep t c : Int} (hc : 0 ≤ c) : PA M en_ p win deep t e (c + 1).toNat = P1 (zu2 (PA M en_ p win deep t e c.toNat) 136 (e c) 0) en_ p (e c) win deep t := by
  have : (c + 1).toNat = c.toNat + 1 := by omega
  have e1 : ((c.toNat : Nat) : Int) = c := Int.toNat_of_nonneg hc
  have hd : ∀ n : Nat, PA M en_ p win deep t e (n + 1) = P1 (zu2 (PA M en_ p win deep t e n) 136 (e n) 0) en_ p (e n) win deep t := fun _ => rfl
  rw [this, hd, e1]
