/-! ===== the reference's methods (21): walk ===== -/
theorem MinB_u {R : Int → Prop} {A : Int → Int → Prop} (t : TO R A) {n x y : Int} (hx : MinB R A n x) (hy : MinB R A n y) : x = y := by
  obtain ⟨q1, q2⟩ | ⟨q1, q2⟩ := hx
  · obtain ⟨r1, r2⟩ | ⟨r1, r2⟩ := hy
    · omega
    · exact absurd r1.2.2 (q2 y r1.1 r1.2.1)
  · obtain ⟨r1, r2⟩ | ⟨r1, r2⟩ := hy
    · exact absurd q1.2.2 (r2 x q1.1 q1.2.1)
    · obtain q | q := q2 y r1.1 r1.2.1 r1.2.2
      · exact q.symm
      · obtain r | r := r2 x q1.1 q1.2.1 q1.2.2
        · exact r
        · exact absurd (t.2.1 x y x q1.2.2 r1.2.2 q1.2.2 q r) (t.2.2 x q1.2.2)
theorem TO_s {S R : Int → Prop} {A : Int → Int → Prop} (t : TO S A) (q : ∀ j, R j → S j) : TO R A := ⟨fun a b x y => t.1 a b (q a x) (q b y), fun a b c x y z => t.2.1 a b c (q a x) (q b y) (q c z), fun a x => t.2.2 a (q a x)⟩
/-- names are unlike -/
def NmD (I : Nat → Int → Int) : Prop := ∀ a b, 0 ≤ a → a < I 94 0 → 0 ≤ b → b < I 94 0 → I 98 a = I 98 b → a = b
theorem TO_Ah {I : Nat → Int → Int} (D : NmD I) {s : Int} {f : Int → Int} {T : Int → Prop} (hT : ∀ j, T j → 0 ≤ j ∧ j < I 94 0) : TO T (Ah I s f) := by
  refine ⟨fun a b x y q => ?_, fun a b c _ _ _ x y => ?_, fun a _ x => ?_⟩
  · have ha := hT a x
    have hb := hT b y
    have : I 98 a ≠ I 98 b := fun r => q (D a b ha.1 ha.2 hb.1 hb.2 r)
    unfold Ah
    omega
  · unfold Ah at *
    omega
  · unfold Ah at x
    omega
def wS (J : Nat → Int → Int) (s x y j : Int) : Prop := Cl (Es J s 0) (fun i => i = fnd J x) j ∧ ¬(y ≠ -1 ∧ Cl (Es J s 0) (fun i => i = fnd J y) j)
/-- the memory after a walk -/
def Wk (J : Nat → Int → Int) (s x y : Int) (K : Nat → Int → Int) (c : Int) : Prop :=
  ((∀ a, a < 132 ∨ (133 < a ∧ a < 137) ∨ 138 < a → a ≠ 94 → K a = J a) ∧ K 94 = up1 (J 94) 41 c ∧ (∃ P, S3 P ∧ K 133 = ind P) ∧ (∃ P, S3 P ∧ K 137 = ind P)) ∧
  c = cN (wS J s x y) (J 94 0).toNat ∧ ∃ f e, Gn (Es J s 0) (Cl (Es J s 0) (fun i => i = fnd J x)) f ∧ Enum (wS J s x y) (Ah J s f) c e ∧ ∀ i, 0 ≤ i → i < c → K 132 i = J 98 (e i)
theorem ind_at {P : Int → Prop} {k : Int} : (ind P k = 0) = ¬P k := b01_e0
theorem fillR_ind {P Q : Int → Prop} (hP : S3 P) (hQ : S3 Q) : fillR (ind P) 0 120 (ind Q) = ind Q := by
  funext j
  unfold fillR
  split
  · rfl
  · unfold ind
    rw [b01_f (fun q => by have := hP j q; omega), b01_f (fun q => by have := hQ j q; omega)]
theorem r232a {h : HP} {J : Nat → Int → Int} {s x y : Int} {v4 v5 : MV} (L : LX 11 h 94) (W : WB J) (N : WN J) (V : WV J) (A : AC J) (D : NmD J) (hb : ∀ j, 0 ≤ J 97 j ∧ J 97 j ≤ 9999) (Z : Z133 J) (Z7 : ∃ Q, S3 Q ∧ J 137 = ind Q) (hs : s = 0 ∨ s = 1) (hx : kI J x 2) (hy : y = -1 ∨ kI J y 2) :
    ∃ K c, Wk J s x y K c ∧ Go 232 44 [.inr (.inl (some 94)), .inl s, .inl x, .inl y, v4, v5] [] (mI h J) = some (mI h K, .inl (some (.inl c))) := by
  have ht := WB_t W
  have hT := W.1
  have vx := kI_v W hx
  obtain ⟨Q, hQ, eQ⟩ := Z7
  obtain ⟨H, hH⟩ : ∃ H : Int → Prop, H = fun j => y ≠ -1 ∧ Cl (Es J s 0) (fun i => i = fnd J y) j := ⟨_, rfl⟩
  have cV : ∀ z, Vs J z → ∀ j, Cl (Es J s 0) (fun i => i = z) j → Vs J j := fun z vz j c => Cl_ind c (fun a q => by rw [q]; exact vz) (fun a b ha e => Es_v W N V hs ha e)
  have hHV : ∀ j, H j → Vs J j := fun j q => by
    rw [hH] at q
    exact cV _ (kI_v W (hy.resolve_left q.1)) j q.2
  have h60 : Go 232 44 [.inr (.inl (some 94)), .inl s, .inl x, .inl y, v4, v5] [] (mI h J) = Go 232 60 [.inr (.inl (some 94)), .inl s, .inl x, .inl y, v4, v5] [] (mI h (rowU J 133 (ind H))) := by
    rw [b232_44 L, r172 L Z, caln_v, b232_46]
    by_cases h1 : y = -1
    · rw [if_pos h1, hH, rowU_ind (Q := fun j => y ≠ -1 ∧ Cl (Es J s 0) (fun i => i = fnd J y) j) (fun j => ⟨False.elim, fun q => q.1 h1⟩)]
    · have vy := kI_v W (hy.resolve_left h1)
      have vyl := vy.1
      rw [if_neg h1, b232_49 L, r165 L (by simp only [rowU, Nat.reduceEqDiff, ↓reduceIte]; exact ht), fnd_U (by decide), caln_r, b232_54 L (by omega), zu2_row, rowU_tw, rowU_eq, up1_ind1, ind_eq, r226 L W N V hs (S := fun j => j = fnd J y) (fun j q => by rw [q]; exact vy), caln_v, hH,
        rowU_ind (Q := fun j => y ≠ -1 ∧ Cl (Es J s 0) (fun i => i = fnd J y) j) (fun j => ⟨fun q => ⟨h1, q⟩, And.right⟩)]
  have S3H : S3 H := S3_v W hHV
  obtain ⟨J1, hJ1⟩ : ∃ J1, J1 = rowU J 137 (ind H) := ⟨_, rfl⟩
  have h75 : Go 232 60 [.inr (.inl (some 94)), .inl s, .inl x, .inl y, v4, v5] [] (mI h (rowU J 133 (ind H))) = Go 232 75 [.inr (.inl (some 94)), .inl s, .inl x, .inl y, .inl 120, v5] [] (mI h (rowU J1 133 (ind H))) := by
    rw [b232_60]
    have key := lpU (fun k => Go 232 62 [.inr (.inl (some 94)), .inl s, .inl x, .inl y, .inl k, v5] [] (mI h (rowU (rowU J 133 (ind H)) 137 (fillR (J 137) 0 k (ind H))))) 0 120 (by omega) ?_
    · rw [fillR_0 (by omega), show rowU (rowU J 133 (ind H)) 137 (J 137) = rowU J 133 (ind H) by
        have := rowU_id (rowU J 133 (ind H)) 137
        rwa [rowU_ne (by decide)] at this] at key
      rw [key, b232_62, if_pos (by decide), eQ, fillR_ind hQ S3H, rowU_cm (by decide), ← hJ1]
    · intro k h0 h1
      rw [b232_62, if_neg (by omega), b232_65 L (by omega) (by simp only [rowU, Nat.reduceEqDiff, ↓reduceIte]; exact b01_or _) (by omega), zu2_row, rowU_tw, rowU_eq, rowU_ne (by decide), rowU_eq, fillR_s h0 rfl]
  have W1 : WB J1 := by rw [hJ1, WB_U (by decide)]; exact W
  have N1 : WN J1 := by rw [hJ1, WN_U (by decide)]; exact N
  have V1 : WV J1 := by rw [hJ1, WV_U (by decide)]; exact V
  have E1 : Es J1 = Es J := by rw [hJ1, Es_U (by decide)]
  have f1 : fnd J1 = fnd J := by rw [hJ1, fnd_U (by decide)]
  have J1e : ∀ a, a ≠ 137 → J1 a = J a := fun a q => by rw [hJ1, rowU_ne q]
  have Vs1 : Vs J1 = Vs J := by
    funext j
    unfold Vs
    rw [J1e _ (by decide), J1e _ (by decide)]
  have A1 : AC J1 := by
    unfold AC
    rw [Vs1, E1]
    exact A
  obtain ⟨C, hC⟩ : ∃ C : Int → Prop, C = Cl (Es J s 0) (fun i => i = fnd J x) := ⟨_, rfl⟩
  have hCV : ∀ j, C j → Vs J j := fun j q => by
    rw [hC] at q
    exact cV _ vx j q
  have h88 : Go 232 75 [.inr (.inl (some 94)), .inl s, .inl x, .inl y, .inl 120, v5] [] (mI h (rowU J1 133 (ind H))) = Go 232 88 [.inr (.inl (some 94)), .inl s, .inl x, .inl y, .inl 120, v5] [] (mI h (rowU J1 133 (ind C))) := by
    have vxl := vx.1
    rw [b232_75 L, r172 L (Z133_i S3H), caln_v, rowU_tw, b232_77 L, r165 L (by simp only [rowU, Nat.reduceEqDiff, ↓reduceIte]; rw [J1e _ (by decide)]; exact ht), fnd_U (by decide), f1, caln_r, b232_82 L (by omega), zu2_row, rowU_tw, rowU_eq, up1_ind1, ind_eq,
      r226 L W1 N1 V1 hs (S := fun j => j = fnd J x) (fun j q => by rw [Vs1, q]; exact vx), caln_v, E1, hC]
  obtain ⟨f, hGn, e88⟩ := r229 (h := h) (I := J1) (P := C) (s := s) (v2 := vU) (v3 := vU) (v4 := vU) (v5 := vU) (v6 := vU) L W1 N1 V1 A1 hs (fun j q => by rw [Vs1]; exact hCV j q) (fun a b ha e => by rw [E1] at e; rw [hC] at ha ⊢; exact Cl_step ha e)
  rw [E1] at hGn
  obtain ⟨J2, hJ2⟩ : ∃ J2, J2 = rowU J1 138 f := ⟨_, rfl⟩
  have J2e : ∀ a, a ≠ 137 → a ≠ 138 → J2 a = J a := fun a q r => by rw [hJ2, rowU_ne r, J1e a q]
  have J237 : J2 137 = ind H := by rw [hJ2, rowU_ne (by decide), hJ1, rowU_eq]
  have J238 : J2 138 = f := by rw [hJ2, rowU_eq]
  obtain ⟨Mm, hMm⟩ : ∃ Mm : (Int → Prop) → (Int → Int) → Int → Nat → Int → Int, Mm = fun Rm e c => rowU (rowU (rowU J2 133 (ind (fun j => Rm j ∨ (C j ∧ H j)))) 132 (fun i => if 0 ≤ i ∧ i < c then J 98 (e i) else J 132 i)) 94 (up1 (J 94) 41 c) := ⟨_, rfl⟩
  obtain ⟨S, hS⟩ : ∃ S : Int → Prop, S = fun j => C j ∧ ¬H j := ⟨_, rfl⟩
  have SV : ∀ j, S j → Vs J j := fun j q => by rw [hS] at q; exact hCV j q.1
  have t : TO S (Ah J s f) := TO_Ah D (fun j q => (SV j q).1)
  have Me : ∀ Rm e c a, a ≠ 137 → a ≠ 138 → a ≠ 133 → a ≠ 132 → a ≠ 94 → Mm Rm e c a = J a := fun Rm e c a q1 q2 q3 q4 q5 => by
    rw [hMm]
    dsimp only
    rw [rowU_ne q5, rowU_ne q4, rowU_ne q3, J2e a q1 q2]
  have M133 : ∀ Rm e c, Mm Rm e c 133 = ind (fun j => Rm j ∨ (C j ∧ H j)) := fun Rm e c => by rw [hMm]; rfl
  have M137 : ∀ Rm e c, Mm Rm e c 137 = ind H := fun Rm e c => by rw [hMm, ← J237]; rfl
  have M138 : ∀ Rm e c, Mm Rm e c 138 = f := fun Rm e c => by rw [hMm, ← J238]; rfl
  have M94 : ∀ Rm e c, Mm Rm e c 94 = up1 (J 94) 41 c := fun Rm e c => by rw [hMm]; rfl
  have h96 : Go 232 88 [.inr (.inl (some 94)), .inl s, .inl x, .inl y, .inl 120, v5] [] (mI h (rowU J1 133 (ind C))) = Go 232 96 [.inr (.inl (some 94)), .inl s, .inl x, .inl y, .inl 0, v5] [] (mI h (Mm S (fun _ => 0) 0)) := by
    have e0 : (fun i : Int => if 0 ≤ i ∧ i < 0 then J 98 0 else J 132 i) = J 132 := by
      funext i
      rw [if_neg (by omega)]
    rw [b232_88 L, e88, caln_v, b232_91 L, zu2_row, rowU_cm (a := 133) (b := 138) (by decide), ← hJ2, hMm]
    dsimp only
    rw [e0]
    have e1 : rowU (rowU J2 133 (ind (fun j => S j ∨ (C j ∧ H j)))) 132 (J 132) = rowU J2 133 (ind C) := by
      have := rowU_id (rowU J2 133 (ind (fun j => S j ∨ (C j ∧ H j)))) 132
      rw [rowU_ne (by decide), J2e _ (by decide) (by decide)] at this
      rw [this]
      apply rowU_ind
      intro j
      rw [hS]
      exact ⟨fun q => q.elim And.left And.left, fun q => (Classical.em (H j)).elim (fun r => Or.inr ⟨q, r⟩) (fun r => Or.inl ⟨q, r⟩)⟩
    rw [e1, rowU_ne (by decide), J2e 94 (by decide) (by decide)]
  have inner : ∀ (Rm : Int → Prop) e c (z : Int) (w : MV) (y0 : Int), (∀ j, Rm j → S j) → 0 ≤ z → MinB Rm (Ah J s f) (J 94 0) y0 → ∃ w1 : Int, Go 232 96 [.inr (.inl (some 94)), .inl s, .inl x, .inl y, .inl z, w] [] (mI h (Mm Rm e c)) = Go 232 130 [.inr (.inl (some 94)), .inl s, .inl x, .inl y, .inl y0, .inl w1] [] (mI h (Mm Rm e c)) := by
    intro Rm e c z w y0 hR hz hy0
    have tR := TO_s t hR
    have hAh : Ah (Mm Rm e c) s f = Ah J s f := by
      funext a b
      unfold Ah dt sa
      rw [Me _ _ _ 97 (by decide) (by decide) (by decide) (by decide) (by decide), Me _ _ _ 98 (by decide) (by decide) (by decide) (by decide) (by decide), Me _ _ _ 118 (by decide) (by decide) (by decide) (by decide) (by decide)]
    have eM0 : Mm Rm e c 94 0 = J 94 0 := by rw [M94, up1_ne (by decide)]
    have NM : WN (Mm Rm e c) := by
      unfold WN
      rw [Me _ _ _ 118 (by decide) (by decide) (by decide) (by decide) (by decide)]
      exact N
    have hbM : ∀ j, 0 ≤ Mm Rm e c 97 j ∧ Mm Rm e c 97 j ≤ 9999 := by
      rw [Me _ _ _ 97 (by decide) (by decide) (by decide) (by decide) (by decide)]
      exact hb
    have key := lpE (fun k (l : Int) => Go 232 102 [.inr (.inl (some 94)), .inl s, .inl x, .inl y, .inl l, .inl k] [] (mI h (Mm Rm e c))) (fun k l => MinB Rm (Ah J s f) k l) 0 (J 94 0) ht.1 ?_ (-1) MinB_0
    · obtain ⟨l, e1, hl⟩ := key
      have := MinB_u tR hl hy0
      subst this
      refine ⟨J 94 0, ?_⟩
      rw [b232_96, if_neg (by omega), b232_98, e1, b232_102 L, eM0, if_pos (Int.le_refl _)]
    · intro k l k0 k1 hl
      have hll : -1 ≤ l ∧ l < k := by
        obtain ⟨q, _⟩ | ⟨q, _⟩ := hl
        · omega
        · omega
      have yes : (Rm k ∧ (l < 0 ∨ Ah J s f k l)) → Go 232 124 [.inr (.inl (some 94)), .inl s, .inl x, .inl y, .inl l, .inl k] [] (mI h (Mm Rm e c)) = Go 232 102 [.inr (.inl (some 94)), .inl s, .inl x, .inl y, .inl k, .inl (k + 1)] [] (mI h (Mm Rm e c)) ∧ MinB Rm (Ah J s f) (k + 1) k := by
        intro q
        exact ⟨by rw [b232_124, b232_127 (by omega)], MinB_y tR k0 hl q.1 q.2⟩
      have no : (Rm k → 0 ≤ l ∧ ¬Ah J s f k l) → Go 232 126 [.inr (.inl (some 94)), .inl s, .inl x, .inl y, .inl l, .inl k] [] (mI h (Mm Rm e c)) = Go 232 102 [.inr (.inl (some 94)), .inl s, .inl x, .inl y, .inl l, .inl (k + 1)] [] (mI h (Mm Rm e c)) ∧ MinB Rm (Ah J s f) (k + 1) l := by
        intro q
        exact ⟨by rw [b232_126, b232_127 (by omega)], MinB_n tR hl q⟩
      rw [b232_102 L, eM0, if_neg (by omega), b232_106 L (by omega), M133]
      by_cases q1 : Rm k ∨ (C k ∧ H k)
      · rw [if_neg (by rw [ind_at]; exact fun q => q q1), b232_111 L (by omega), M137]
        by_cases q2 : H k
        · rw [if_pos (by rw [ne_eq, ind_at]; exact fun q => q q2)]
          obtain ⟨e1, e2⟩ := no (fun q => absurd q2 (by have := hR k q; rw [hS] at this; exact this.2))
          exact ⟨l, e1, e2⟩
        · have hRk : Rm k := q1.resolve_right (fun q => q2 q.2)
          rw [if_neg (by rw [ne_eq, ind_at]; exact fun q => q q2), b232_116]
          by_cases q3 : l < 0
          · rw [if_pos q3]
            obtain ⟨e1, e2⟩ := yes ⟨hRk, Or.inl q3⟩
            exact ⟨k, e1, e2⟩
          · rw [if_neg q3, b232_118 L, r231 L NM hbM hs (by omega) (by omega), M138, hAh, caln_r, b232_123]
            by_cases q4 : Ah J s f k l
            · rw [b01_t q4, if_neg neg1_ne]
              obtain ⟨e1, e2⟩ := yes ⟨hRk, Or.inr q4⟩
              exact ⟨k, e1, e2⟩
            · rw [b01_f q4, if_pos rfl]
              obtain ⟨e1, e2⟩ := no (fun _ => ⟨by omega, q4⟩)
              exact ⟨l, e1, e2⟩
      · rw [if_pos (by rw [ind_at]; exact q1)]
        obtain ⟨e1, e2⟩ := no (fun q => absurd (Or.inl q) q1)
        exact ⟨l, e1, e2⟩
  have sel := lpSel S (Ah J s f) (J 94 0) t (fun j q => (SV j q).1) ht.1 (fun Rm e c (q : Int × MV) => Go 232 96 [.inr (.inl (some 94)), .inl s, .inl x, .inl y, .inl q.1, q.2] [] (mI h (Mm Rm e c))) (fun Rm e c q => 0 ≤ q.1) ?_ (fun _ => 0) (0, v5) (Int.le_refl _)
  · obtain ⟨e, ⟨z, w⟩, e1, hE, hz⟩ := sel
    dsimp only at e1 hz
    obtain ⟨w1, e2⟩ := inner (fun _ => False) e (cN S (J 94 0).toNat) z w (-1) (fun j q => q.elim) hz (Or.inl ⟨rfl, fun k _ _ q => q⟩)
    have hSS : S = wS J s x y := by
      rw [hS, hC, hH]
      rfl
    refine ⟨Mm (fun _ => False) e (cN S (J 94 0).toNat), cN S (J 94 0).toNat, ⟨⟨fun a q r => Me _ _ _ a (by omega) (by omega) (by omega) (by omega) r, M94 _ _ _, ⟨_, ?_, M133 _ _ _⟩, ⟨H, S3H, M137 _ _ _⟩⟩, by rw [← hSS], f, e, by rw [← hC]; exact hGn, hSS ▸ hE, fun i a b => ?_⟩, ?_⟩
    · exact fun j q => S3H j (q.elim (fun q => q.elim) And.right)
    · rw [hMm]
      show (if 0 ≤ i ∧ i < _ then J 98 (e i) else _) = _
      rw [if_pos ⟨a, b⟩]
    · rw [h60, h75, h88, h96, e1, e2, b232_130, if_pos (by decide), b232_96, if_pos (by decide), b232_153 L, M94, up1_eq]
  · rintro Rm e c ⟨z, w⟩ y0 hR hc hcc hz hy0 h0
    dsimp only at hz ⊢
    obtain ⟨w1, e2⟩ := inner Rm e c z w y0 hR hz hy0
    obtain ⟨q, _⟩ | ⟨q1, _⟩ := hy0
    · omega
    have hbb := cN_b (P := S) (J 94 0).toNat
    have h1c := cN_1 (P := Rm) q1.1 q1.2.2 (n := (J 94 0).toNat) (by omega)
    have e41 : zu2 (Mm Rm e c) 133 y0 0 94 41 = c := by rw [zu2_row, rowU_ne (by decide), M94, up1_eq]
    have e41b : ∀ v, zu2 (zu2 (Mm Rm e c) 133 y0 0) 132 c v 94 41 = c := fun v => by rw [zu2_row, rowU_ne (by decide), e41]
    have e98 : zu2 (Mm Rm e c) 133 y0 0 98 y0 = J 98 y0 := by rw [zu2_row, rowU_ne (by decide), Me _ _ _ 98 (by decide) (by decide) (by decide) (by decide) (by decide)]
    refine ⟨(y0, .inl w1), ?_, h0⟩
    rw [e2, b232_130, if_neg (by omega), b232_132 L (by omega) (by rw [e41]; omega) (by rw [e41, e98, e41b]; omega), e41, e98, e41b]
    congr 2
    rw [hMm]
    dsimp only
    funext a
    by_cases a1 : a = 94
    · subst a1
      rw [zu2_row, rowU_eq, rowU_eq, zu2_row, rowU_ne (by decide), zu2_row, rowU_ne (by decide), rowU_eq]
      funext j
      unfold up1
      split <;> rfl
    · rw [zu2_row, rowU_ne a1, rowU_ne a1]
      by_cases a2 : a = 132
      · subst a2
        rw [zu2_row, rowU_eq, rowU_eq, zu2_row, rowU_ne (by decide), rowU_ne (by decide), rowU_eq]
        funext j
        unfold up1
        by_cases hj : j = c
        · subst hj
          rw [if_pos rfl, if_pos (by omega), if_pos rfl]
        · rw [if_neg hj]
          dsimp only
          rw [if_neg hj]
          by_cases hj2 : 0 ≤ j ∧ j < c
          · rw [if_pos hj2, if_pos (by omega)]
          · rw [if_neg hj2, if_neg (by omega)]
      · rw [zu2_row, rowU_ne a2, rowU_ne a2]
        by_cases a3 : a = 133
        · subst a3
          rw [zu2_row, rowU_eq, rowU_eq, rowU_ne (by decide), rowU_ne (by decide), rowU_eq, up1_ind0]
          apply ind_c
          intro j
          constructor
          · rintro ⟨q | q, r⟩
            · exact Or.inl ⟨q, r⟩
            · exact Or.inr q
          · rintro (⟨q, r⟩ | q)
            · exact ⟨Or.inl q, r⟩
            · refine ⟨Or.inr q, fun r => ?_⟩
              have := hR y0 q1.2.2
              rw [hS] at this
              exact this.2 (r ▸ q.2)
        · rw [zu2_row, rowU_ne a3, rowU_ne a1, rowU_ne a2, rowU_ne a3, rowU_ne a3]
