/-! ===== the reference's methods (29): sweep ===== -/
def PR (I : Nat → Int → Int) (p : Int) : Prop := ∃ k, (0 ≤ k ∧ k < I 111 p) ∧ I 133 (I 112 (120 * p + k)) ≠ 0
theorem r258 {h : HP} {I : Nat → Int → Int} {p : Int} {v2 v3 : MV} (L : LX 11 h 94) (W : WB I) (K : WK I) (hp : 0 ≤ p ∧ p < 40) (hb : ∀ j, I 133 j = 0 ∨ I 133 j = 1) : Go 258 0 [.inr (.inl (some 94)), .inl p, v2, v3] [] (mI h I) = some (mI h I, .inl (some (.inl (b01 (PR I p))))) := by
  have hT := W.1
  have hk := K.2 p hp.1 hp.2
  rw [b258_0, ← b01_f (p := False) (fun q => q)]
  have key := lpE (fun k (q : Prop) => Go 258 4 [.inr (.inl (some 94)), .inl p, .inl (b01 q), .inl k] [] (mI h I)) (fun k q => q = ∃ i, (0 ≤ i ∧ i < k) ∧ I 133 (I 112 (120 * p + i)) ≠ 0) 0 (I 111 p) hk.1.1 ?_ False (propext ⟨False.elim, fun ⟨i, hi, _⟩ => by omega⟩)
  · obtain ⟨q, e, hq⟩ := key
    rw [b01_f (p := False) (fun q => q)] at e ⊢
    rw [e, b258_4 L hp, if_pos (Int.le_refl _), b258_26 (b01_or _), hq]
    rfl
  · intro k q k0 k1 hq
    have hkk := hk.2 k k0 k1
    refine ⟨q ∨ I 133 (I 112 (120 * p + k)) = 1, ?_, ?_⟩
    · rw [b258_4 L hp, if_neg (by omega), b258_10 L (by omega) (by omega) (by omega) (by omega) (by omega), b01_x (hb (I 112 (120 * p + k))), zor_b]
      congr 6
      rw [← b01_x (hb (I 112 (120 * p + k)))]
    · rw [hq]
      apply propext
      constructor
      · rintro (⟨i, hi, c⟩ | c)
        · exact ⟨i, by omega, c⟩
        · exact ⟨k, by omega, fun q => by omega⟩
      · rintro ⟨i, hi, c⟩
        by_cases hik : i = k
        · subst hik; exact Or.inr ((hb _).resolve_left c)
        · exact Or.inl ⟨i, by omega, c⟩
def s1C (M : Nat → Int → Int) (s o : Int) : Prop := 0 < M 101 (120 * s + o) ∧ (M 133 o = 0 ∨ HE M s o 1)
noncomputable def sw1 (M : Nat → Int → Int) (s o : Int) : Nat → Int → Int := @ite _ (s1C M s o) (Classical.propDecidable _) (zu2 (dO M s 2 o) 101 (120 * s + o) 0) M
noncomputable def SW (M : Nat → Int → Int) (s : Int) (e : Int → Int) : Nat → (Nat → Int → Int) × Int
  | 0 => (M, 0)
  | n + 1 => (sw1 (SW M s e n).1 s (e n), (SW M s e n).2 + b01 (s1C (SW M s e n).1 s (e n)))
def s2C (M : Nat → Int → Int) (p : Int) : Prop := M 109 p ≠ 0 ∧ ¬PR M p
noncomputable def sp1 (M : Nat → Int → Int) (s p : Int) : Nat → Int → Int := @ite _ (s2C M p) (Classical.propDecidable _) (zu2 (dO M s 3 p) 109 p 0) M
noncomputable def SP (M : Nat → Int → Int) (s : Int) : Nat → (Nat → Int → Int) × Int
  | 0 => (M, 0)
  | n + 1 => (sp1 (SP M s n).1 s (20 * s + n), (SP M s n).2 + b01 (s2C (SP M s n).1 (20 * s + n)))
theorem SW_s {M : Nat → Int → Int} {s c : Int} {e : Int → Int} (hc : 0 ≤ c) : SW M s e (c + 1).toNat = (sw1 (SW M s e c.toNat).1 s (e c), (SW M s e c.toNat).2 + b01 (s1C (SW M s e c.toNat).1 s (e c))) := by
  have : (c + 1).toNat = c.toNat + 1 := by omega
  have e1 : ((c.toNat : Nat) : Int) = c := Int.toNat_of_nonneg hc
  have hd : ∀ n : Nat, SW M s e (n + 1) = (sw1 (SW M s e n).1 s (e n), (SW M s e n).2 + b01 (s1C (SW M s e n).1 s (e n))) := fun _ => rfl
  rw [this, hd, e1]
theorem SP_s {M : Nat → Int → Int} {s c : Int} (hc : 0 ≤ c) : SP M s (c + 1).toNat = (sp1 (SP M s c.toNat).1 s (20 * s + c), (SP M s c.toNat).2 + b01 (s2C (SP M s c.toNat).1 (20 * s + c))) := by
  have : (c + 1).toNat = c.toNat + 1 := by omega
  have e1 : ((c.toNat : Nat) : Int) = c := Int.toNat_of_nonneg hc
  have hd : ∀ n : Nat, SP M s (n + 1) = (sp1 (SP M s n).1 s (20 * s + n), (SP M s n).2 + b01 (s2C (SP M s n).1 (20 * s + n))) := fun _ => rfl
  rw [this, hd, e1]
theorem sw1_f {M : Nat → Int → Int} {s o : Int} {a : Nat} (h : a < 101 ∨ (107 < a ∧ a < 110) ∨ (110 < a ∧ a < 120) ∨ 122 < a) : sw1 M s o a = M a := by
  unfold sw1
  split
  · rw [zu2_row, rowU_ne (by omega), dO_f h]
  · rfl
theorem sp1_f {M : Nat → Int → Int} {s p : Int} {a : Nat} (h : a < 101 ∨ a = 108 ∨ (110 < a ∧ a < 120) ∨ 122 < a) : sp1 M s p a = M a := by
  unfold sp1
  split
  · rw [zu2_row, rowU_ne (by omega), dO_f (by omega)]
  · rfl
theorem SW_f {M : Nat → Int → Int} {s : Int} {e : Int → Int} {a : Nat} (h : a < 101 ∨ (107 < a ∧ a < 110) ∨ (110 < a ∧ a < 120) ∨ 122 < a) : ∀ n : Nat, (SW M s e n).1 a = M a
  | 0 => rfl
  | n + 1 => by
    exact (sw1_f h).trans (SW_f h n)
theorem SP_f {M : Nat → Int → Int} {s : Int} {a : Nat} (h : a < 101 ∨ a = 108 ∨ (110 < a ∧ a < 120) ∨ 122 < a) : ∀ n : Nat, (SP M s n).1 a = M a
  | 0 => rfl
  | n + 1 => by
    exact (sp1_f h).trans (SP_f h n)
theorem WT_SW {M : Nat → Int → Int} {s : Int} {e : Int → Int} (W : WT M) (hs : s = 0 ∨ s = 1) : ∀ n : Nat, WT (SW M s e n).1
  | 0 => W
  | n + 1 => by
    have ih := WT_SW W hs (e := e) n
    unfold SW sw1
    dsimp only
    split
    · exact WT_101 (WT_dO ih hs) (by decide)
    · exact ih
theorem WT_SP {M : Nat → Int → Int} {s : Int} (W : WT M) (hs : s = 0 ∨ s = 1) : ∀ n : Nat, WT (SP M s n).1
  | 0 => W
  | n + 1 => by
    have ih := WT_SP W hs n
    unfold SP sp1
    dsimp only
    split
    · exact WT_109 (WT_dO ih hs) (Or.inl rfl)
    · exact ih
theorem SW_b {M : Nat → Int → Int} {s : Int} {e : Int → Int} : ∀ n : Nat, 0 ≤ (SW M s e n).2 ∧ (SW M s e n).2 ≤ n
  | 0 => ⟨Int.le_refl _, Int.le_refl _⟩
  | n + 1 => by
    have ih := SW_b (M := M) (s := s) (e := e) n
    have := b01_or (s1C (SW M s e n).1 s (e n))
    unfold SW
    dsimp only
    omega
theorem SP_b {M : Nat → Int → Int} {s : Int} : ∀ n : Nat, 0 ≤ (SP M s n).2 ∧ (SP M s n).2 ≤ n
  | 0 => ⟨Int.le_refl _, Int.le_refl _⟩
  | n + 1 => by
    have ih := SP_b (M := M) (s := s) n
    have := b01_or (s2C (SP M s n).1 (20 * s + n))
    unfold SP
    dsimp only
    omega
theorem r259n {h : HP} {I : Nat → Int → Int} {e : Int → Int} {x1 x2 n : Int} {w5 w6 : MV} (L : LX 11 h 94) (ht : 0 ≤ I 94 0 ∧ I 94 0 ≤ 120) (D : NmD I) (X : WX I) (E : EnN I e) (h0 : 0 ≤ n) (h1 : n < I 94 0) :
    ∃ u6 : Int, Go 259 19 [.inr (.inl (some 94)), .inl x1, .inl x2, .inl (lst I e n), .inl n, w5, w6] [] (mI h I) = Go 259 50 [.inr (.inl (some 94)), .inl x1, .inl x2, .inl (lst I e n), .inl n, .inl (e n), .inl u6] [] (mI h I) := by
  have t : TO (fun k => (0 ≤ k ∧ k < I 94 0) ∧ lst I e n < I 98 k) (fun a b => I 98 a < I 98 b) := TO_nm D (fun j q => q.1)
  rw [b259_19]
  have key := lpE (fun k (l : Int) => Go 259 23 [.inr (.inl (some 94)), .inl x1, .inl x2, .inl (lst I e n), .inl n, .inl l, .inl k] [] (mI h I)) (fun k l => MinB (fun k => (0 ≤ k ∧ k < I 94 0) ∧ lst I e n < I 98 k) (fun a b => I 98 a < I 98 b) k l) 0 (I 94 0) ht.1 ?_ (-1) MinB_0
  · obtain ⟨l, e1, hl⟩ := key
    have := MinB_u t hl (nxN E X h0 h1)
    subst this
    refine ⟨I 94 0, ?_⟩
    rw [e1, b259_23 L, if_pos (Int.le_refl _)]
  · intro k l k0 k1 hl
    have hll : -1 ≤ l ∧ l < k := by
      obtain ⟨q, _⟩ | ⟨q, _⟩ := hl
      · omega
      · omega
    rw [b259_23 L, if_neg (by omega), b259_27 L (by omega)]
    by_cases q1 : I 98 k ≤ lst I e n
    · refine ⟨l, ?_, MinB_n t hl (fun q => by have := q.2; omega)⟩
      rw [if_pos q1, b259_46, b259_47 (by omega)]
    · rw [if_neg q1, b259_33]
      by_cases q2 : l < 0
      · refine ⟨k, ?_, MinB_y t k0 hl ⟨⟨k0, k1⟩, by omega⟩ (Or.inl q2)⟩
        rw [if_pos q2, b259_44, b259_47 (by omega)]
      · rw [if_neg q2, b259_35 L (by omega) (by omega)]
        by_cases q3 : I 98 l ≤ I 98 k
        · refine ⟨l, ?_, MinB_n t hl (fun _ => ⟨by omega, by omega⟩)⟩
          rw [if_pos q3, b259_46, b259_47 (by omega)]
        · refine ⟨k, ?_, MinB_y t k0 hl ⟨⟨k0, k1⟩, by omega⟩ (Or.inr (by omega))⟩
          rw [if_neg q3, b259_44, b259_47 (by omega)]
theorem r259a {h : HP} {M : Nat → Int → Int} {e : Int → Int} {s : Int} {w5 w6 : MV} (L : LX 11 h 94) (W : WT M) (D : NmD M) (X : WX M) (E : EnN M e) (hs : s = 0 ∨ s = 1) :
    ∃ l u5 u6, Go 259 15 [.inr (.inl (some 94)), .inl s, .inl 0, .inl (-1), .inl 0, w5, w6] [] (mI h M) = Go 259 98 [.inr (.inl (some 94)), .inl s, .inl (SW M s e (M 94 0).toNat).2, .inl l, .inl (M 94 0), u5, u6] [] (mI h (SW M s e (M 94 0).toNat).1) := by
  have ht := WB_t W.1
  have hT := W.1.1
  have key := lpE (fun k (x : MV × MV) => Go 259 15 [.inr (.inl (some 94)), .inl s, .inl (SW M s e k.toNat).2, .inl (lst M e k), .inl k, x.1, x.2] [] (mI h (SW M s e k.toNat).1)) (fun _ _ => True) 0 (M 94 0) ht.1 ?_ (w5, w6) trivial
  · obtain ⟨⟨u5, u6⟩, e1, -⟩ := key
    refine ⟨lst M e (M 94 0), u5, u6, ?_⟩
    refine Eq.trans e1 ?_
    dsimp only
    rw [b259_15 L, SW_f (by omega), if_pos (Int.le_refl _)]
  · rintro k ⟨u5, u6⟩ k0 k1 -
    have hek := E.1 k k0 k1
    have WS := WT_SW (e := e) W hs k.toNat
    have hb := SW_b (M := M) (s := s) (e := e) k.toNat
    have f94 := SW_f (M := M) (s := s) (e := e) (a := 94) (by omega) k.toNat
    have f98 := SW_f (M := M) (s := s) (e := e) (a := 98) (by omega) k.toNat
    rw [SW_s k0, lst_s k0]
    generalize (SW M s e k.toNat).1 = Y at *
    generalize (SW M s e k.toNat).2 = n at *
    have DY : NmD Y := by unfold NmD; rw [f94, f98]; exact D
    have XY : WX Y := by unfold WX; rw [f94, f98]; exact X
    have EY : EnN Y e := by unfold EnN; rw [f94, f98]; exact E
    have lY : lst Y e k = lst M e k := by unfold lst; rw [f98]
    have htY := WB_t WS.1
    obtain ⟨z, e2⟩ := r259n (h := h) (I := Y) (e := e) (x1 := s) (x2 := n) (n := k) (w5 := u5) (w6 := u6) L htY DY XY EY k0 (by rw [f94]; exact k1)
    rw [lY] at e2
    dsimp only
    refine ⟨(.inl (e k), .inl z), ?_, trivial⟩
    have hdd := WS.2.2.2.2.2.1 s hs
    have hdj := dJ_104 hdd
    rw [b259_15 L, f94, if_neg (by omega), e2, b259_50 L (by omega) (by omega) (by omega) (by omega), f98]
    have no : ¬s1C Y s (e k) → Go 259 96 [.inr (.inl (some 94)), .inl s, .inl n, .inl (M 98 (e k)), .inl k, .inl (e k), .inl z] [] (mI h Y) = Go 259 15 [.inr (.inl (some 94)), .inl s, .inl (n + b01 (s1C Y s (e k))), .inl (M 98 (e k)), .inl (k + 1), .inl (e k), .inl z] [] (mI h (sw1 Y s (e k))) := by
      intro q
      rw [b259_96 (by omega), b01_f q, Int.add_zero]
      unfold sw1
      rw [if_neg q]
    have yes : s1C Y s (e k) → Go 259 75 [.inr (.inl (some 94)), .inl s, .inl n, .inl (M 98 (e k)), .inl k, .inl (e k), .inl z] [] (mI h Y) = Go 259 15 [.inr (.inl (some 94)), .inl s, .inl (n + b01 (s1C Y s (e k))), .inl (M 98 (e k)), .inl (k + 1), .inl (e k), .inl z] [] (mI h (sw1 Y s (e k))) := by
      intro q
      rw [b259_75 L, r186 L htY WS.2.1 WS.2.2.1 WS.2.2.2.2.1 hs hdd, caln_r, b259_81, if_pos hdj.1, b259_84, b259_85 (by omega) L (by omega) (by omega) (by omega), b259_96 (by omega), b01_t q]
      unfold sw1
      rw [if_pos q]
    by_cases q1 : Y 101 (120 * s + e k) ≤ 0
    · rw [if_pos q1, no (fun q => by have := q.1; omega)]
    · rw [if_neg q1, b259_64 L (by omega)]
      by_cases q2 : Y 133 (e k) = 0
      · rw [if_pos q2, yes ⟨by omega, Or.inl q2⟩]
      · rw [if_neg q2, b259_69 L, r178 L WS.2.2.2.1 hs, caln_r, b259_74]
        by_cases q3 : HE Y s (e k) 1
        · rw [b01_t q3, if_neg neg1_ne, yes ⟨by omega, Or.inr q3⟩]
        · rw [b01_f q3, if_pos rfl, no (fun q => q.2.elim q2 q3)]
theorem r259b {h : HP} {M : Nat → Int → Int} {s n x3 x4 : Int} {w5 w6 : MV} (L : LX 11 h 94) (W : WT M) (hb : ∀ j, M 133 j = 0 ∨ M 133 j = 1) (hs : s = 0 ∨ s = 1) (hn : 0 ≤ n ∧ n ≤ 1000) :
    Go 259 98 [.inr (.inl (some 94)), .inl s, .inl n, .inl x3, .inl x4, w5, w6] [] (mI h M) = some (mI h (SP M s (M 108 s).toNat).1, .inl (some (.inl (n + (SP M s (M 108 s).toNat).2)))) := by
  have hm := W.2.2.2.1.1 s hs
  have key := lpU (fun i => Go 259 102 [.inr (.inl (some 94)), .inl s, .inl (n + (SP M s i.toNat).2), .inl x3, .inl (20 * s + i), w5, w6] [] (mI h (SP M s i.toNat).1)) 0 (M 108 s) hm.1 ?_
  · rw [b259_98 (by omega)]
    have e0 : Go 259 102 [.inr (.inl (some 94)), .inl s, .inl n, .inl x3, .inl (20 * s), w5, w6] [] (mI h M) = Go 259 102 [.inr (.inl (some 94)), .inl s, .inl (n + (SP M s (0 : Int).toNat).2), .inl x3, .inl (20 * s + 0), w5, w6] [] (mI h (SP M s (0 : Int).toNat).1) := by
      rw [Int.add_zero]
      show _ = Go 259 102 [.inr (.inl (some 94)), .inl s, .inl (n + 0), .inl x3, .inl (20 * s), w5, w6] [] (mI h M)
      rw [Int.add_zero]
    rw [e0, key, b259_102 (by omega) L (by omega) (by rw [SP_f (by omega)]; omega), SP_f (by omega), if_pos (Int.le_refl _), b259_140]
  · intro i i0 i1
    have WS := WT_SP W hs i.toNat
    have hbb := SP_b (M := M) (s := s) i.toNat
    have f108 := SP_f (M := M) (s := s) (a := 108) (by omega) i.toNat
    have f133 := SP_f (M := M) (s := s) (a := 133) (by omega) i.toNat
    rw [SP_s i0]
    generalize (SP M s i.toNat).1 = Y at *
    generalize (SP M s i.toNat).2 = c at *
    have htY := WB_t WS.1
    have hdd := WS.2.2.2.2.2.1 s hs
    have hdj := dJ_104 hdd
    dsimp only
    rw [b259_102 (by omega) L (by omega) (by rw [f108]; omega), f108, if_neg (by omega), b259_112 L (by omega)]
    have no : ¬s2C Y (20 * s + i) → Go 259 138 [.inr (.inl (some 94)), .inl s, .inl (n + c), .inl x3, .inl (20 * s + i), w5, w6] [] (mI h Y) = Go 259 102 [.inr (.inl (some 94)), .inl s, .inl (n + (c + b01 (s2C Y (20 * s + i)))), .inl x3, .inl (20 * s + (i + 1)), w5, w6] [] (mI h (sp1 Y s (20 * s + i))) := by
      intro q
      rw [b259_138 (by omega), b01_f q, Int.add_zero, Int.add_assoc]
      unfold sp1
      rw [if_neg q]
    by_cases q1 : Y 109 (20 * s + i) = 0
    · rw [if_pos q1, no (fun q => q.1 q1)]
    · rw [if_neg q1, b259_117 L, r258 L WS.1 WS.2.2.2.1 (by omega) (by rw [f133]; exact hb), caln_r, b259_120]
      by_cases q2 : PR Y (20 * s + i)
      · rw [b01_t q2, if_pos neg1_ne, no (fun q => q.2 q2)]
      · have hq : s2C Y (20 * s + i) := ⟨q1, q2⟩
        rw [b01_f q2, if_neg (fun q => q rfl), b259_121 L, r186 L htY WS.2.1 WS.2.2.1 WS.2.2.2.2.1 hs hdd, caln_r, b259_127, if_pos hdj.1, b259_130, b259_131 (by omega) L (by omega), b259_138 (by omega), b01_t hq, Int.add_assoc, Int.add_assoc]
        unfold sp1
        rw [if_pos hq]
/-- the memory after a sweep, from the memory with the roots' set; and the number -/
noncomputable def swJ (X : Nat → Int → Int) (s : Int) (e : Int → Int) : Nat → Int → Int := (SP (SW X s e (X 94 0).toNat).1 s (X 108 s).toNat).1
noncomputable def swN (X : Nat → Int → Int) (s : Int) (e : Int → Int) : Int := (SW X s e (X 94 0).toNat).2 + (SP (SW X s e (X 94 0).toNat).1 s (X 108 s).toNat).2
theorem Rt_t {I : Nat → Int → Int} {t : Int} : Rt (tH I t) = Rt I := by
  funext s j
  unfold Rt Lg Ob Ro
  rw [tH_94 (by decide), tH_94 (by decide)]
  rfl
theorem WG_t {I : Nat → Int → Int} {t : Int} : WG (tH I t) = WG I := by
  unfold WG
  rw [tH_94 (by decide), tH_94 (by decide)]
  rfl
theorem WR_t {I : Nat → Int → Int} {t : Int} : WR (tH I t) = WR I := by
  unfold WR
  rw [tH_94 (by decide)]
  rfl
theorem WRp_t {I : Nat → Int → Int} {t : Int} : WRp (tH I t) = WRp I := by
  unfold WRp
  rw [tH_94 (by decide)]
  rfl
theorem r259 {h : HP} {I : Nat → Int → Int} {e : Int → Int} {s : Int} {v2 v3 v4 v5 v6 : MV} (L : LX 11 h 94) (W : WT I) (D : NmD I) (X : WX I) (E : EnN I e) (R : WR I) (G : WG I) (Rp : WRp I) (Z : ∃ P, S3 P ∧ I 133 = ind P) :
    Go 259 0 [.inr (.inl (some 94)), .inl s, v2, v3, v4, v5, v6] [] (mI h I) = aq h (s = 0 ∨ s = 1) (swJ (rowU (tH I 0) 133 (ind (Cl (Eg I s) (Rt I s)))) s e) (swN (rowU (tH I 0) 133 (ind (Cl (Eg I s) (Rt I s)))) s e) I 1 := by
  rw [b259_0 L, r210 L]
  by_cases hs : s = 0 ∨ s = 1
  · have W2 : WT (tH I 0) := by rw [WT_tH]; exact W
    rw [aq_t hs, aq_t hs, caln_r, b259_3, if_pos neg1_ne, b259_6 L, r256 L W2 (by rw [WR_t]; exact R) (by rw [WG_t]; exact G) (by rw [WRp_t]; exact Rp) (Z_S3 (I := tH I 0) Z) hs, Eg_t, Rt_t, caln_v, b259_9]
    obtain ⟨C, hC⟩ : ∃ C, C = Cl (Eg I s) (Rt I s) := ⟨_, rfl⟩
    rw [← hC]
    obtain ⟨Y, hY⟩ : ∃ Y, Y = rowU (tH I 0) 133 (ind C) := ⟨_, rfl⟩
    rw [← hY]
    have Y94 : Y 94 0 = I 94 0 := by rw [hY, rowU_ne (by decide)]; exact tH_94 (by decide)
    have Y98 : Y 98 = I 98 := by rw [hY]; rfl
    have Y133 : Y 133 = ind C := by rw [hY, rowU_eq]
    have WY : WT Y := by
      rw [hY]
      unfold WT
      rw [WB_U (by decide), WK_U (by decide)]
      exact W2
    have DY : NmD Y := by unfold NmD; rw [Y94, Y98]; exact D
    have XY : WX Y := by unfold WX; rw [Y94, Y98]; exact X
    have EY : EnN Y e := by unfold EnN; rw [Y94, Y98]; exact E
    obtain ⟨l, u5, u6, e1⟩ := r259a (h := h) (M := Y) (e := e) (s := s) (w5 := v5) (w6 := v6) L WY DY XY EY hs
    have hb := SW_b (M := Y) (s := s) (e := e) (Y 94 0).toNat
    have WS := WT_SW (e := e) WY hs (Y 94 0).toNat
    have hT := W.1.1
    have f133 := SW_f (M := Y) (s := s) (e := e) (a := 133) (by omega) (Y 94 0).toNat
    have f108 := SW_f (M := Y) (s := s) (e := e) (a := 108) (by omega) (Y 94 0).toNat
    rw [e1, r259b L WS (by rw [f133, Y133]; exact fun j => b01_or _) hs (by omega), f108]
    rfl
  · rw [aq_f hs, aq_f hs, caln_r, b259_3, if_neg (fun q => q rfl), b259_4]
theorem r260 {h : HP} {I : Nat → Int → Int} (L : LX 11 h 94) (hb : I 94 9 = 0 ∨ I 94 9 = 1) : Go 260 0 [.inr (.inl (some 94))] [] (mI h I) = some (mI h (rowU (tH I 0) 94 (up1 (tH I 0 94) 9 (b01 (I 94 9 = 0)))), .inl (some (.inl (b01 (I 94 9 ≠ 0))))) := by
  rw [b260_0 L, zu2_tI, tH_94 (by decide)]
  by_cases h0 : I 94 9 = 0
  · rw [if_neg (fun q => q h0), b260_7, b260_10 L (Or.inr rfl), zu2_row, rowU_eq, up1_eq, if_pos (by decide), b260_16, b260_17 (Or.inl rfl), b01_t h0, b01_f (p := I 94 9 ≠ 0) (fun q => q h0)]
  · rw [if_pos h0, b260_9, b260_10 L (Or.inl rfl), zu2_row, rowU_eq, up1_eq, if_neg (by decide), b260_14, b260_17 (Or.inr rfl), b01_f h0, b01_t (p := I 94 9 ≠ 0) h0]
