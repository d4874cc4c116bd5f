/-! ===== the reference's methods (37): missingAt, mend ===== -/
theorem r271 {h : HP} {I : Nat → Int → Int} {P : Int → Prop} {y : Int} {v1 v2 : MV} (L : LX 11 h 94) (ht : 0 ≤ I 94 0 ∧ I 94 0 ≤ 120) (D : NmD I) (h3 : I 133 = ind P) (hP : ∀ j, P j → 0 ≤ j ∧ j < I 94 0) (hy : MinB P (fun a b => I 98 a < I 98 b) (I 94 0) y) : Go 271 0 [.inr (.inl (some 94)), v1, v2] [] (mI h I) = some (mI h I, .inl (some (.inl y))) := by
  have t : TO P (fun a b => I 98 a < I 98 b) := TO_nm D hP
  rw [b271_0]
  have key := lpE (fun k (l : Int) => Go 271 4 [.inr (.inl (some 94)), .inl l, .inl k] [] (mI h I)) (fun k l => MinB P (fun a b => I 98 a < I 98 b) k l) 0 (I 94 0) ht.1 ?_ (-1) MinB_0
  · obtain ⟨l, e1, hl⟩ := key
    have := MinB_u t hl hy
    subst this
    rw [e1, b271_4 L, if_pos (Int.le_refl _), b271_30]
  · intro k l k0 k1 hl
    have hll : -1 ≤ l ∧ l < k := by
      obtain ⟨q, _⟩ | ⟨q, _⟩ := hl
      · omega
      · omega
    rw [b271_4 L, if_neg (by omega), b271_8 L (by omega), h3]
    by_cases q1 : P k
    · rw [if_neg (by rw [ind_at]; exact fun q => q q1), b271_13]
      by_cases q2 : l < 0
      · refine ⟨k, ?_, MinB_y t k0 hl q1 (Or.inl q2)⟩
        rw [if_pos q2, b271_24, b271_27 (by omega)]
      · rw [if_neg q2, b271_15 L (by omega) (by omega)]
        by_cases q3 : I 98 l ≤ I 98 k
        · refine ⟨l, ?_, MinB_n t hl (fun _ => ⟨by omega, by omega⟩)⟩
          rw [if_pos q3, b271_26, b271_27 (by omega)]
        · refine ⟨k, ?_, MinB_y t k0 hl q1 (Or.inr (by omega))⟩
          rw [if_neg q3, b271_24, b271_27 (by omega)]
    · refine ⟨l, ?_, MinB_n t hl (fun q => absurd q q1)⟩
      rw [if_pos (by rw [ind_at]; exact q1), b271_26, b271_27 (by omega)]
/-- what is left of a set behind its first k -/
def Lf (S : Int → Prop) (e : Int → Int) (k j : Int) : Prop := S j ∧ ∀ i, 0 ≤ i → i < k → e i ≠ j
theorem Lf_0 {S : Int → Prop} {e : Int → Int} (j : Int) : Lf S e 0 j ↔ S j := ⟨And.left, fun q => ⟨q, fun i a b => by omega⟩⟩
theorem Lf_s {S : Int → Prop} {e : Int → Int} {k : Int} (hk : 0 ≤ k) (j : Int) : Lf S e (k + 1) j ↔ Lf S e k j ∧ j ≠ e k := by
  constructor
  · rintro ⟨q1, q2⟩
    exact ⟨⟨q1, fun i a b => q2 i a (by omega)⟩, fun q => q2 k hk (by omega) q.symm⟩
  · rintro ⟨⟨q1, q2⟩, q3⟩
    refine ⟨q1, fun i a b => ?_⟩
    by_cases hi : i = k
    · subst hi; exact fun q => q3 q.symm
    · exact q2 i a (by omega)
theorem Lf_m {S : Int → Prop} {A : Int → Int → Prop} {e : Int → Int} {n c k : Int} (t : TO S A) (E : Enum S A c e) (hS : ∀ j, S j → 0 ≤ j ∧ j < n) (h0 : 0 ≤ k) (h1 : k < c) : MinB (Lf S e k) A n (e k) := by
  have hk := E.1 k h0 h1
  refine Or.inr ⟨⟨(hS _ hk).1, (hS _ hk).2, hk, fun i a b q => ?_⟩, fun j j0 j1 q => ?_⟩
  · have := E.2.1 i k a b h1
    rw [q] at this
    exact t.2.2 _ hk this
  · obtain ⟨i, hi, ei⟩ := E.2.2 j q.1
    by_cases h2 : i = k
    · left; rw [← ei, h2]
    · by_cases h3 : k < i
      · right
        have := E.2.1 k i h0 h3 hi.2
        rw [ei] at this
        exact this
      · exact absurd ei (q.2 i hi.1 (by omega))
theorem Lf_e {S : Int → Prop} {A : Int → Int → Prop} {e : Int → Int} {n c : Int} (E : Enum S A c e) : MinB (Lf S e c) A n (-1) := by
  refine Or.inl ⟨rfl, fun j _ _ q => ?_⟩
  obtain ⟨i, hi, ei⟩ := E.2.2 j q.1
  exact q.2 i hi.1 hi.2 ei
theorem Mi_r {I : Nat → Int → Int} (W : WB I) (R : WR I) {s : Int} (hs : s = 0 ∨ s = 1) : ∀ j, Mi I s j → 0 ≤ j ∧ j < I 94 0 := fun j q => Cl_lt W (fun j ⟨k, a, b, c, d⟩ => by have := R k (by omega) (by omega); omega) j q.1
noncomputable def mN (I : Nat → Int → Int) (s : Int) : Int := cN (Mi I s) (I 94 0).toNat
/-- what is missing, by names -/
def EnM (I : Nat → Int → Int) (s : Int) (e : Int → Int) : Prop := Enum (Mi I s) (fun a b => I 98 a < I 98 b) (mN I s) e
theorem EnM_ex {I : Nat → Int → Int} (W : WB I) (R : WR I) (D : NmD I) {s : Int} (hs : s = 0 ∨ s = 1) : ∃ e, EnM I s e := Enum_ex (TO_nm D (Mi_r W R hs)) (Mi_r W R hs) W.1.1
theorem ag_Mi {I X : Nat → Int → Int} (g : AG I X) : Mi X = Mi I := by
  unfold Mi
  rw [ag_Eg g, ag_Rf g, ag_Gd g, ag_Th g, g.1 117 (by decide) (by decide)]
theorem r272 {h : HP} {I : Nat → Int → Int} {s p : Int} {e : Int → Int} {v3 : MV} (L : LX 11 h 94) (W : WT I) (Z : ∃ P, S3 P ∧ I 133 = ind P) (R : WR I) (D : NmD I) (E : s = 0 ∨ s = 1 → EnM I s e) :
    ∃ P, S3 P ∧ Go 272 0 [.inr (.inl (some 94)), .inl s, .inl p, v3] [] (mI h I) = @ite _ (s = 0 ∨ s = 1) (Classical.propDecidable _) (aq h (0 ≤ p ∧ p < mN I s) (rowU (tH I 0) 133 (ind P)) (I 98 (e p)) (rowU I 133 (ind P)) 1) (some (mI h (tH I 1), .inl (some (.inl 0)))) := by
  have ht := WB_t W.1
  have hT := W.1.1
  rw [b272_0 L, r210 L]
  by_cases hs : s = 0 ∨ s = 1
  · have g : AG I (tH I 0) := AG_t (AG_r I)
    have W2 : WT (tH I 0) := by rw [WT_tH]; exact W
    have hr := Mi_r W.1 R hs
    have hS3 : S3 (Mi I s) := S3_l W.1 hr
    have hE : EnM I s e := E hs
    have tO : TO (Mi I s) (fun a b => I 98 a < I 98 b) := TO_nm D hr
    have hcb := cN_b (P := Mi I s) (I 94 0).toNat
    have z1 : ∀ P t, zu2 (rowU (tH I 0) 133 (ind P)) 94 49 t = tH (rowU I 133 (ind P)) t := fun P t => by rw [zu2_tI, tH_rU (by decide), tH_tH, tH_rU (by decide)]
    simp only [if_pos hs]
    rw [aq_t hs, caln_r, b272_3, if_pos neg1_ne, b272_6 L, r269 L W2 (Z_S3 (I := tH I 0) Z) (by rw [WR_t]; exact R) hs, ag_Mi g, caln_v, b272_9 L, r237 L (by simp only [rowU, Nat.reduceEqDiff, ↓reduceIte]; exact WB_t W2.1), caln_r, cN_ind]
    simp only [rowU, Nat.reduceEqDiff, ↓reduceIte]
    rw [ag_0 g, show cN (Mi I s) (I 94 0).toNat = mN I s from rfl]
    have hcb2 : 0 ≤ mN I s ∧ mN I s ≤ 120 := by
      unfold mN
      omega
    rw [b272_14 (by omega), r163, caln_r, b272_17]
    by_cases hp : 0 ≤ p ∧ p < mN I s
    · refine ⟨Lf (Mi I s) e p, fun j q => hS3 j q.1, ?_⟩
      have z00 : tH (rowU I 133 (ind (Mi I s))) 0 = rowU (tH I 0) 133 (ind (Mi I s)) := tH_rU (by decide)
      rw [aq_t hp, b01_t (by omega), if_neg neg1_ne, b272_18, b272_21 L, z1, tH_49, if_pos (by decide), b272_27, z00]
      have key := lpU (fun k => Go 272 29 [.inr (.inl (some 94)), .inl s, .inl p, .inl k] [] (mI h (rowU (tH I 0) 133 (ind (Lf (Mi I s) e k))))) 0 p hp.1 ?_
      · rw [rowU_ind (P := Lf (Mi I s) e 0) (Q := Mi I s) Lf_0] at key
        have gP : AG I (rowU (tH I 0) 133 (ind (Lf (Mi I s) e p))) := AG_U g (by decide)
        have hm := Lf_m (n := I 94 0) tO hE hr hp.1 hp.2
        have hep := hr _ (hE.1 p hp.1 hp.2)
        rw [key, b272_29, if_pos (Int.le_refl _), b272_40 L, r271 (P := Lf (Mi I s) e p) (y := e p) L (by rw [ag_0 gP]; exact ht) (by rw [ag_NmD gP]; exact D) rowU_eq (fun j q => by rw [ag_0 gP]; exact hr j q.1) (by rw [gP.1 98 (by decide) (by decide), ag_0 gP]; exact hm), caln_r, b272_44 L (by omega), gP.1 98 (by decide) (by decide)]
      · intro k k0 k1
        have gP : AG I (rowU (tH I 0) 133 (ind (Lf (Mi I s) e k))) := AG_U g (by decide)
        have hm := Lf_m (n := I 94 0) tO hE hr k0 (show k < mN I s by omega)
        have hep := hr _ (hE.1 k k0 (by omega))
        rw [b272_29, if_neg (by omega), b272_32 L, r271 (P := Lf (Mi I s) e k) (y := e k) L (by rw [ag_0 gP]; exact ht) (by rw [ag_NmD gP]; exact D) rowU_eq (fun j q => by rw [ag_0 gP]; exact hr j q.1) (by rw [gP.1 98 (by decide) (by decide), ag_0 gP]; exact hm), caln_r, b272_36 L (by omega) (by omega), zu2_row, rowU_tw, rowU_eq, up1_ind0,
          rowU_ind (Q := Lf (Mi I s) e (k + 1)) (fun j => (Lf_s k0 j).symm)]
    · refine ⟨Mi I s, hS3, ?_⟩
      rw [aq_f hp, b01_f (by omega), if_pos rfl, b272_20, b272_21 L, z1, tH_49, if_neg (by decide), b272_25]
  · obtain ⟨P, hP, _⟩ := Z
    refine ⟨P, hP, ?_⟩
    rw [aq_f hs, if_neg hs, caln_r, b272_3, if_neg (fun q => q rfl), b272_4]
theorem WT_126 {I : Nat → Int → Int} {f : Int → Int} (W : WT I) : WT (rowU I 126 f) := by
  have e : ∀ b, b ≠ 126 → rowU I 126 f b = I b := fun b h => rowU_ne h
  refine ⟨?_, W.2.1, W.2.2.1, ?_, W.2.2.2.2.1, W.2.2.2.2.2.1, W.2.2.2.2.2.2⟩
  · rw [WB_e rfl (e 95 (by omega)) (e 96 (by omega)) (e 97 (by omega)) (e 98 (by omega))]; exact W.1
  · rw [WK_e rfl (e 108 (by omega)) (e 111 (by omega)) (e 112 (by omega)) (e 113 (by omega))]; exact W.2.2.2.1
theorem WT_wW {I : Nat → Int → Int} {s o : Int} (W : WT I) (hs : s = 0 ∨ s = 1) : WT (wW I s o) := by
  have W1 : WT (wR I s o) := by unfold wR; exact WT_126 W
  unfold wW
  split
  · exact W1
  · have hj := dJ_104 (I := wR I s o) (s := s) (W1.2.2.2.2.2.1 s hs)
    rw [← zu2_row]
    exact WT_101 (WT_dO W1 hs) (by omega)
noncomputable def md1 (M : Nat → Int → Int) (s o : Int) : Nat → Int → Int := @ite _ (Gd M (1 - s) o) (Classical.propDecidable _) (wW M s o) M
noncomputable def MD (M : Nat → Int → Int) (s : Int) (e : Int → Int) : Nat → (Nat → Int → Int) × Int
  | 0 => (M, 0)
  | n + 1 => (md1 (zu2 (MD M s e n).1 133 (e n) 0) s (e n), (MD M s e n).2 + b01 (Gd (zu2 (MD M s e n).1 133 (e n) 0) (1 - s) (e n)))
theorem MD_s {M : Nat → Int → Int} {s c : Int} {e : Int → Int} (hc : 0 ≤ c) : MD M s e (c + 1).toNat = (md1 (zu2 (MD M s e c.toNat).1 133 (e c) 0) s (e c), (MD M s e c.toNat).2 + b01 (Gd (zu2 (MD M s e c.toNat).1 133 (e c) 0) (1 - s) (e c))) := by
  have : (c + 1).toNat = c.toNat + 1 := by omega
  have e1 : ((c.toNat : Nat) : Int) = c := Int.toNat_of_nonneg hc
  have hd : ∀ n : Nat, MD M s e (n + 1) = (md1 (zu2 (MD M s e n).1 133 (e n) 0) s (e n), (MD M s e n).2 + b01 (Gd (zu2 (MD M s e n).1 133 (e n) 0) (1 - s) (e n))) := fun _ => rfl
  rw [this, hd, e1]
theorem md1_f {M : Nat → Int → Int} {s o : Int} {a : Nat} (h : a < 101 ∨ (107 < a ∧ a < 110) ∨ (110 < a ∧ a < 120) ∨ (122 < a ∧ a ≠ 126)) : md1 M s o a = M a := by
  unfold md1
  split
  · exact wW_f h
  · rfl
theorem MD_f {M : Nat → Int → Int} {s : Int} {e : Int → Int} {a : Nat} (h : (a < 101 ∨ (107 < a ∧ a < 110) ∨ (110 < a ∧ a < 120) ∨ (122 < a ∧ a ≠ 126)) ∧ a ≠ 133) : ∀ n : Nat, (MD M s e n).1 a = M a
  | 0 => rfl
  | n + 1 => by
    have : (MD M s e (n + 1)).1 = md1 (zu2 (MD M s e n).1 133 (e n) 0) s (e n) := rfl
    rw [this, md1_f h.1, zu2_row, rowU_ne h.2, MD_f h n]
theorem WT_133 {I : Nat → Int → Int} {k v : Int} (W : WT I) : WT (zu2 I 133 k v) := by
  rw [zu2_row, ag_WT (AG_U (AG_r I) (by decide))]
  exact W
theorem WT_md1 {I : Nat → Int → Int} {s o : Int} (W : WT I) (hs : s = 0 ∨ s = 1) : WT (md1 I s o) := by
  unfold md1
  split
  · exact WT_wW W hs
  · exact W
theorem WT_MD {M : Nat → Int → Int} {s : Int} {e : Int → Int} (W : WT M) (hs : s = 0 ∨ s = 1) : ∀ n : Nat, WT (MD M s e n).1
  | 0 => W
  | n + 1 => WT_md1 (WT_133 (WT_MD W hs n)) hs
theorem MD_b {M : Nat → Int → Int} {s : Int} {e : Int → Int} : ∀ n : Nat, 0 ≤ (MD M s e n).2 ∧ (MD M s e n).2 ≤ n
  | 0 => ⟨Int.le_refl _, Int.le_refl _⟩
  | n + 1 => by
    have ih := MD_b (M := M) (s := s) (e := e) n
    have := b01_or (Gd (zu2 (MD M s e n).1 133 (e n) 0) (1 - s) (e n))
    unfold MD
    dsimp only
    omega
theorem MD_133 {M : Nat → Int → Int} {s : Int} {e : Int → Int} {S : Int → Prop} (h : M 133 = ind S) : ∀ n : Nat, (MD M s e n).1 133 = ind (Lf S e n)
  | 0 => by
    rw [show (MD M s e 0).1 = M from rfl, h]
    exact ind_c (fun j => (Lf_0 j).symm)
  | n + 1 => by
    have : (MD M s e (n + 1)).1 = md1 (zu2 (MD M s e n).1 133 (e n) 0) s (e n) := rfl
    rw [this, md1_f (by decide), zu2_row, rowU_eq, MD_133 h n, up1_ind0]
    refine ind_c (fun j => ?_)
    have := Lf_s (S := S) (e := e) (k := n) (by omega) j
    rw [show ((n + 1 : Nat) : Int) = (n : Int) + 1 by omega, this]
theorem r273 {h : HP} {I : Nat → Int → Int} {s : Int} {e : Int → Int} {v2 v3 : MV} (L : LX 11 h 94) (W : WT I) (Z : ∃ P, S3 P ∧ I 133 = ind P) (R : WR I) (D : NmD I) (E : s = 0 ∨ s = 1 → EnM I s e) :
    Go 273 0 [.inr (.inl (some 94)), .inl s, v2, v3] [] (mI h I) = @ite _ (s = 0 ∨ s = 1) (Classical.propDecidable _) (aq h (I 94 9 = 0) (MD (rowU (tH I 0) 133 (ind (Mi I s))) s e (mN I s).toNat).1 (MD (rowU (tH I 0) 133 (ind (Mi I s))) s e (mN I s).toNat).2 I 2) (some (mI h (tH I 1), .inl (some (.inl 0)))) := by
  have ht := WB_t W.1
  have hT := W.1.1
  have bad : ∀ t : Int, 0 < t → Go 273 12 [.inr (.inl (some 94)), .inl s, v2, v3] [.inl t, .inr (.inl (some 94))] (mI h I) = some (mI h (tH I t), .inl (some (.inl 0))) := by
    intro t h0
    rw [b273_12 L, zu2_tI, tH_49, if_neg (by omega), b273_16]
  rw [b273_0, r164, caln_r, b273_3]
  by_cases hs : s = 0 ∨ s = 1
  · rw [if_pos hs, b01_t hs, if_pos neg1_ne, b273_6 L]
    by_cases h9 : I 94 9 = 0
    · have g : AG I (tH I 0) := AG_t (AG_r I)
      have W2 : WT (tH I 0) := by rw [WT_tH]; exact W
      have hr := Mi_r W.1 R hs
      have hE : EnM I s e := E hs
      have tO : TO (Mi I s) (fun a b => I 98 a < I 98 b) := TO_nm D hr
      have hcb := cN_b (P := Mi I s) (I 94 0).toNat
      have hcb2 : 0 ≤ mN I s ∧ mN I s ≤ 120 := by
        unfold mN
        omega
      rw [aq_t h9, if_pos h9, b273_11, b273_12 L, zu2_tI, tH_49, if_pos (by decide), b273_18 L, r269 L W2 (Z_S3 (I := tH I 0) Z) (by rw [WR_t]; exact R) hs, ag_Mi g, caln_v, b273_21 L]
      obtain ⟨M, hM⟩ : ∃ M, M = rowU (tH I 0) 133 (ind (Mi I s)) := ⟨_, rfl⟩
      rw [← hM]
      have gM : AG I M := by rw [hM]; exact AG_U g (by decide)
      have WM : WT M := by rw [ag_WT gM]; exact W
      have M133 : M 133 = ind (Mi I s) := by rw [hM, rowU_eq]
      have hl : ∀ (k : Int), 0 ≤ k → ∀ y, MinB (Lf (Mi I s) e k) (fun a b => I 98 a < I 98 b) (I 94 0) y → Go 271 0 [.inr (.inl (some 94)), vU, vU] [] (mI h (MD M s e k.toNat).1) = some (mI h (MD M s e k.toNat).1, .inl (some (.inl y))) := by
        intro k k0 y hy
        have f94 := MD_f (M := M) (s := s) (e := e) (a := 94) (by decide) k.toNat
        have f98 := MD_f (M := M) (s := s) (e := e) (a := 98) (by decide) k.toNat
        have f133 := MD_133 (s := s) (e := e) M133 k.toNat
        rw [Int.toNat_of_nonneg k0] at f133
        have e0 : (MD M s e k.toNat).1 94 0 = I 94 0 := by rw [f94, ag_0 gM]
        have e98 : (MD M s e k.toNat).1 98 = I 98 := by rw [f98, gM.1 98 (by decide) (by decide)]
        exact r271 (P := Lf (Mi I s) e k) L (by rw [e0]; exact ht) (by unfold NmD; rw [e0, e98]; exact D) f133 (fun j q => by rw [e0]; exact hr j q.1) (by rw [e98, e0]; exact hy)
      have key := lpU (fun k => caln 273 [.inr (.inl (some 94)), .inl s, .inl (MD M s e k.toNat).2, (if k = 0 then v3 else .inl (e (k - 1)))] [] (if k = 0 then 25 else 47) (Go 271 0 [.inr (.inl (some 94)), vU, vU] [] (mI h (MD M s e k.toNat).1))) 0 (mN I s) hcb2.1 ?_
      · have e00 : (MD M s e (0 : Int).toNat).2 = 0 := rfl
        have e01 : (MD M s e (0 : Int).toNat).1 = M := rfl
        rw [e00, e01, if_pos rfl, if_pos rfl] at key
        rw [key, hl (mN I s) hcb2.1 (-1) (Lf_e hE)]
        by_cases c0 : mN I s = 0
        · rw [if_pos c0, if_pos c0, caln_r, b273_25, b273_26, if_pos (by decide), b273_49]
        · rw [if_neg c0, if_neg c0, caln_r, b273_47, b273_26, if_pos (by decide), b273_49]
      · intro k k0 k1
        have hm := Lf_m (n := I 94 0) tO hE hr k0 k1
        have hep := hr _ (hE.1 k k0 k1)
        have WS := WT_MD (e := e) WM hs k.toNat
        have hbb := MD_b (M := M) (s := s) (e := e) k.toNat
        rw [hl k k0 (e k) hm, MD_s k0]
        generalize (MD M s e k.toNat).1 = Y at *
        generalize (MD M s e k.toNat).2 = n at *
        have h28 : caln 273 [.inr (.inl (some 94)), .inl s, .inl n, (if k = 0 then v3 else .inl (e (k - 1)))] [] (if k = 0 then 25 else 47) (some (mI h Y, .inl (some (.inl (e k))))) = Go 273 28 [.inr (.inl (some 94)), .inl s, .inl n, .inl (e k)] [] (mI h Y) := by
          by_cases c0 : k = 0
          · rw [if_pos c0, if_pos c0, caln_r, b273_25, b273_26, if_neg (by omega)]
          · rw [if_neg c0, if_neg c0, caln_r, b273_47, b273_26, if_neg (by omega)]
        rw [h28, b273_28 L (by omega) (by omega)]
        have WZ : WT (zu2 Y 133 (e k) 0) := WT_133 WS
        obtain ⟨Q, hQ⟩ : ∃ Q, Q = zu2 Y 133 (e k) 0 := ⟨_, rfl⟩
        rw [← hQ] at WZ ⊢
        have hk1 : ¬(k + 1 = 0) := by omega
        rw [r181 L WZ.2.2.2.1 WZ.2.1 (by omega) (by omega), caln_r, b273_39]
        dsimp only
        rw [if_neg hk1, if_neg hk1, show k + 1 - 1 = k by omega]
        unfold md1
        by_cases c : Gd Q (1 - s) (e k)
        · rw [b01_t c, if_neg neg1_ne, if_pos c, b273_40 L, r188 L (WB_t WZ.1) WZ.2.1 WZ.2.2.1 WZ.2.2.2.1 WZ.2.2.2.2.1 hs (by omega) (WZ.2.2.2.2.2.1 s hs), caln_v, b273_44 (by omega), b273_45 L]
        · rw [b01_f c, if_pos rfl, if_neg c, b273_45 L, Int.add_zero]
    · rw [aq_f h9, if_neg h9, b273_9, bad 2 (by decide)]
  · rw [if_neg hs, b01_f hs, if_neg (fun q => q rfl), b273_4, bad 1 (by decide)]
