/-! ===== the reference's methods (3): what is there ===== -/
def WK (I : Nat → Int → Int) : Prop := (∀ s, s = 0 ∨ s = 1 → 0 ≤ I 108 s ∧ I 108 s ≤ 20) ∧ ∀ p, 0 ≤ p → p < 40 → (0 ≤ I 111 p ∧ I 111 p ≤ 100) ∧ ∀ k, 0 ≤ k → k < I 111 p → (0 ≤ I 112 (120 * p + k) ∧ I 112 (120 * p + k) < I 94 0) ∧ -1 ≤ I 113 (120 * p + k) ∧ I 113 (120 * p + k) < k
def WL (I : Nat → Int → Int) : Prop := (∀ j, I 103 j = 0 ∨ I 103 j = 1) ∧ (∀ j, I 107 j = 0 ∨ I 107 j = 1) ∧ ∀ j, 0 ≤ I 101 j ∧ I 101 j ≤ 31
theorem WK_U {I : Nat → Int → Int} {a : Nat} {f : Int → Int} (ha : 115 ≤ a) : WK (rowU I a f) = WK I := by
  unfold WK
  rw [rowU_ne (by omega), rowU_ne (by omega), rowU_ne (by omega), rowU_ne (by omega), rowU_ne (by omega)]
theorem WL_U {I : Nat → Int → Int} {a : Nat} {f : Int → Int} (ha : 108 ≤ a) : WL (rowU I a f) = WL I := by
  unfold WL
  rw [rowU_ne (by omega), rowU_ne (by omega), rowU_ne (by omega)]
/-- an entry all of whose bases are good -/
def GE (I : Nat → Int → Int) (p e : Int) : Prop := ∀ x, Cl (fun a b => b = I 113 (120 * p + a) ∧ 0 ≤ b) (fun j => j = e) x → I 114 (120 * p + x) = 0
theorem GE_e {I : Nat → Int → Int} {p e : Int} : GE I p e ↔ I 114 (120 * p + e) = 0 ∧ (0 ≤ I 113 (120 * p + e) → GE I p (I 113 (120 * p + e))) := by
  constructor
  · intro g
    refine ⟨g e (Cl_base rfl), fun h0 x c => g x (Cl_ind c (fun a q => ?_) (fun a b q r => Cl_step q r))⟩
    subst q
    exact Cl_step (Cl_base rfl) ⟨rfl, h0⟩
  · rintro ⟨g0, g1⟩ x c
    have : x = e ∨ (0 ≤ I 113 (120 * p + e) ∧ Cl (fun a b => b = I 113 (120 * p + a) ∧ 0 ≤ b) (fun j => j = I 113 (120 * p + e)) x) :=
      Cl_ind (P := fun x => x = e ∨ (0 ≤ I 113 (120 * p + e) ∧ Cl (fun a b => b = I 113 (120 * p + a) ∧ 0 ≤ b) (fun j => j = I 113 (120 * p + e)) x)) c (fun a q => Or.inl q) (fun a b q r => by
        right
        obtain q | ⟨q0, q⟩ := q
        · subst q; exact ⟨r.1 ▸ r.2, Cl_base r.1⟩
        · exact ⟨q0, Cl_step q r⟩)
    obtain q | ⟨q0, q⟩ := this
    · rw [q]; exact g0
    · exact g1 q0 x q
theorem r177 {h : HP} {I : Nat → Int → Int} {p e : Int} {v3 v4 : MV} (L : LX 11 h 94) (K : WK I) (hp : 0 ≤ p ∧ p < 40) (he : 0 ≤ e ∧ e < I 111 p) :
    Go 177 0 [.inr (.inl (some 94)), .inl p, .inl e, v3, v4] [] (mI h I) = some (mI h I, .inl (some (.inl (b01 (GE I p e))))) := by
  have hm := K.2 p hp.1 hp.2
  rw [b177_0, ← b01_t (p := True) trivial]
  refine Eq.trans (lpW (fun x : Int × Prop => Go 177 4 [.inr (.inl (some 94)), .inl p, .inl e, .inl x.1, .inl (b01 x.2)] [] (mI h I)) (fun x => -1 ≤ x.1 ∧ x.1 < I 111 p ∧ (GE I p e ↔ (x.2 ∧ (0 ≤ x.1 → GE I p x.1)))) (fun r => r = some (mI h I, .inl (some (.inl (b01 (GE I p e)))))) (fun x => (x.1 + 1).toNat) ?_ (e, True) ⟨by omega, he.2, ⟨fun g => ⟨trivial, fun _ => g⟩, fun g => g.2 he.1⟩⟩) rfl
  rintro ⟨k, q⟩ ⟨h0, h1, hq⟩
  dsimp only at h0 h1 hq ⊢
  by_cases hk : k < 0
  · left
    rw [b177_4]
    simp (disch := first | assumption | exact b01_or _ | (simp (decide := true) only [WB_U, WK_U, WL_U]; assumption) | omega | (simp only [rowU, Nat.reduceEqDiff, ↓reduceIte]; omega)) only [ne_eq, not_true_eq_false, not_false_eq_true, if_true, if_false, ite_true, ite_false, caln_v, caln_r, caln_x, Int.reduceEq, Int.reduceNe, Int.reduceLT, Int.reduceLE, Int.reduceAdd, Int.reduceMul, Int.reduceSub, b177_0, b177_6, b177_16, b177_18, b177_19, b177_31, hk]
    rw [b01_c (q := GE I p e) (hq.trans ⟨fun q => q.1, fun q => ⟨q, fun q => by omega⟩⟩).symm]
  · right
    have hb := (hm.2 k (by omega) h1).2
    refine ⟨(I 113 (120 * p + k), q ∧ I 114 (120 * p + k) = 0), ?_, ⟨hb.1, by omega, ?_⟩, by dsimp only; omega⟩
    · rw [b177_4]
      clear hq
      by_cases hc : I 114 (120 * p + k) = 0
      · simp (disch := first | assumption | exact b01_or _ | (simp (decide := true) only [WB_U, WK_U, WL_U]; assumption) | omega | (simp only [rowU, Nat.reduceEqDiff, ↓reduceIte]; omega)) only [ne_eq, not_true_eq_false, not_false_eq_true, if_true, if_false, ite_true, ite_false, caln_v, caln_r, caln_x, Int.reduceEq, Int.reduceNe, Int.reduceLT, Int.reduceLE, Int.reduceAdd, Int.reduceMul, Int.reduceSub, b177_0, b177_6, b177_16, b177_18, b177_19, b177_31, hk, hc, zand_1, and_true]
      · simp (disch := first | assumption | exact b01_or _ | (simp (decide := true) only [WB_U, WK_U, WL_U]; assumption) | omega | (simp only [rowU, Nat.reduceEqDiff, ↓reduceIte]; omega)) only [ne_eq, not_true_eq_false, not_false_eq_true, if_true, if_false, ite_true, ite_false, caln_v, caln_r, caln_x, Int.reduceEq, Int.reduceNe, Int.reduceLT, Int.reduceLE, Int.reduceAdd, Int.reduceMul, Int.reduceSub, b177_0, b177_6, b177_16, b177_18, b177_19, b177_31, hk, hc, zand_0, and_false, b01_f (fun q : False => q)]
    · dsimp only
      rw [hq, and_assoc]
      exact and_congr_right (fun _ => ⟨fun g => (GE_e.mp (g (by omega))), fun g _ => GE_e.mpr g⟩)
/-- a store has an entry of an object, a good one if g is not 0 -/
def HE (I : Nat → Int → Int) (s o g : Int) : Prop := ∃ p k, 20 * s ≤ p ∧ p < 20 * s + I 108 s ∧ I 109 p ≠ 0 ∧ 0 ≤ k ∧ k < I 111 p ∧ I 112 (120 * p + k) = o ∧ (g ≠ 0 → GE I p k)
theorem GE_U {I : Nat → Int → Int} {a : Nat} {f : Int → Int} (ha : 115 ≤ a) : GE (rowU I a f) = GE I := by
  unfold GE
  rw [rowU_ne (by omega), rowU_ne (by omega)]
theorem HE_U {I : Nat → Int → Int} {a : Nat} {f : Int → Int} (ha : 115 ≤ a) : HE (rowU I a f) = HE I := by
  unfold HE
  rw [GE_U ha, rowU_ne (by omega), rowU_ne (by omega), rowU_ne (by omega), rowU_ne (by omega)]
theorem r178 {h : HP} {I : Nat → Int → Int} {s o g : Int} {v4 v5 v6 : MV} (L : LX 11 h 94) (K : WK I) (hs : s = 0 ∨ s = 1) :
    Go 178 0 [.inr (.inl (some 94)), .inl s, .inl o, .inl g, v4, v5, v6] [] (mI h I) = some (mI h I, .inl (some (.inl (b01 (HE I s o g))))) := by
  have hm := K.1 s hs
  rw [b178_0 (by omega), ← b01_f (p := False) (fun q => q)]
  have key := lpE (fun p (x : Prop × MV) => Go 178 6 [.inr (.inl (some 94)), .inl s, .inl o, .inl g, .inl (b01 x.1), .inl p, x.2] [] (mI h I))
    (fun p x => x.1 ↔ ∃ p1 k, 20 * s ≤ p1 ∧ p1 < p ∧ I 109 p1 ≠ 0 ∧ 0 ≤ k ∧ k < I 111 p1 ∧ I 112 (120 * p1 + k) = o ∧ (g ≠ 0 → GE I p1 k)) (20 * s) (20 * s + I 108 s) (by omega) ?_ (False, v6) ⟨False.elim, fun ⟨p1, k, a, b, _⟩ => by omega⟩
  · obtain ⟨⟨q, v⟩, e, hq⟩ := key
    dsimp only at e hq
    replace hq : q = HE I s o g := propext hq
    rw [e, b178_6 (by omega) L (by omega) (by omega)]
    rw [hq]
    simp (disch := first | assumption | exact b01_or _ | (simp (decide := true) only [WB_U, WK_U, WL_U]; assumption) | omega | (simp only [rowU, Nat.reduceEqDiff, ↓reduceIte]; omega)) only [ne_eq, not_true_eq_false, not_false_eq_true, if_true, if_false, ite_true, ite_false, caln_v, caln_r, caln_x, Int.reduceEq, Int.reduceNe, Int.reduceLT, Int.reduceLE, Int.reduceAdd, Int.reduceMul, Int.reduceSub, Int.le_refl, b178_56]
  · rintro p ⟨q, v⟩ hp0 hp1 hq
    dsimp only at hq ⊢
    replace hq := propext hq
    have hpl : ¬ 20 * s + I 108 s ≤ p := by omega
    have hpm := K.2 p (by omega) (by omega)
    have h18 : Go 178 6 [.inr (.inl (some 94)), .inl s, .inl o, .inl g, .inl (b01 q), .inl p, v] [] (mI h I) = Go 178 18 [.inr (.inl (some 94)), .inl s, .inl o, .inl g, .inl (b01 q), .inl p, .inl 0] [] (mI h I) := by
      rw [b178_6 (by omega) L (by omega) (by omega)]
      simp (disch := first | assumption | exact b01_or _ | (simp (decide := true) only [WB_U, WK_U, WL_U]; assumption) | omega | (simp only [rowU, Nat.reduceEqDiff, ↓reduceIte]; omega)) only [ne_eq, not_true_eq_false, not_false_eq_true, if_true, if_false, ite_true, ite_false, caln_v, caln_r, caln_x, Int.reduceEq, Int.reduceNe, Int.reduceLT, Int.reduceLE, Int.reduceAdd, Int.reduceMul, Int.reduceSub, hpl, b178_16]
    have b1 : -2147483648 ≤ p + 1 ∧ p + 1 < 2147483648 := by omega
    rw [h18]
    by_cases hpk : I 109 p = 0
    · refine ⟨(q, .inl 0), ?_, ?_⟩
      · rw [b178_18 L (by omega)]
        by_cases hz : I 111 p ≤ 0
        · simp (disch := first | assumption | exact b01_or _ | (simp (decide := true) only [WB_U, WK_U, WL_U]; assumption) | omega | (simp only [rowU, Nat.reduceEqDiff, ↓reduceIte]; omega)) only [ne_eq, not_true_eq_false, not_false_eq_true, if_true, if_false, ite_true, ite_false, caln_v, caln_r, caln_x, Int.reduceEq, Int.reduceNe, Int.reduceLT, Int.reduceLE, Int.reduceAdd, Int.reduceMul, Int.reduceSub, hz, b178_54]
        · simp (disch := first | assumption | exact b01_or _ | (simp (decide := true) only [WB_U, WK_U, WL_U]; assumption) | omega | (simp only [rowU, Nat.reduceEqDiff, ↓reduceIte]; omega)) only [ne_eq, not_true_eq_false, not_false_eq_true, if_true, if_false, ite_true, ite_false, caln_v, caln_r, caln_x, Int.reduceEq, Int.reduceNe, Int.reduceLT, Int.reduceLE, Int.reduceAdd, Int.reduceMul, Int.reduceSub, hz, b178_24, hpk, b178_54]
      · dsimp only
        rw [hq]
        constructor
        · rintro ⟨p1, k, a, b, c⟩; exact ⟨p1, k, a, by omega, c⟩
        · rintro ⟨p1, k, a, b, c⟩
          by_cases hpp : p1 = p
          · subst hpp; exact absurd hpk c.1
          · exact ⟨p1, k, a, by omega, c⟩
    · have key2 := lpE (fun k (x : Prop) => Go 178 18 [.inr (.inl (some 94)), .inl s, .inl o, .inl g, .inl (b01 x), .inl p, .inl k] [] (mI h I))
        (fun k x => x ↔ (q ∨ ∃ k1, 0 ≤ k1 ∧ k1 < k ∧ I 112 (120 * p + k1) = o ∧ (g ≠ 0 → GE I p k1))) 0 (I 111 p) hpm.1.1 ?_ q ⟨Or.inl, fun c => c.elim id (fun ⟨k, a, b, _⟩ => by omega)⟩
      · obtain ⟨r, e, hr⟩ := key2
        refine ⟨(r, .inl (I 111 p)), ?_, ?_⟩
        · replace hr := propext hr
          rw [e, b178_18 L (by omega)]
          simp (disch := first | assumption | exact b01_or _ | (simp (decide := true) only [WB_U, WK_U, WL_U]; assumption) | omega | (simp only [rowU, Nat.reduceEqDiff, ↓reduceIte]; omega)) only [ne_eq, not_true_eq_false, not_false_eq_true, if_true, if_false, ite_true, ite_false, caln_v, caln_r, caln_x, Int.reduceEq, Int.reduceNe, Int.reduceLT, Int.reduceLE, Int.reduceAdd, Int.reduceMul, Int.reduceSub, Int.le_refl, b178_54]
        · dsimp only
          rw [hr, hq]
          constructor
          · rintro (⟨p1, k, a, b, c⟩ | ⟨k, a, b, c⟩)
            · exact ⟨p1, k, a, by omega, c⟩
            · exact ⟨p, k, hp0, by omega, hpk, a, b, c⟩
          · rintro ⟨p1, k, a, b, c⟩
            by_cases hpp : p1 = p
            · subst hpp; exact Or.inr ⟨k, c.2⟩
            · exact Or.inl ⟨p1, k, a, by omega, c⟩
      · intro k x hk0 hk1 hx
        replace hx := propext hx
        have hkl : ¬ I 111 p ≤ k := by omega
        have ho : 120 * p + k < 4800 := by omega
        refine ⟨x ∨ (I 112 (120 * p + k) = o ∧ (g ≠ 0 → GE I p k)), ?_, ?_⟩
        · rw [b178_18 L (by omega)]
          by_cases hoo : I 112 (120 * p + k) = o
          · by_cases hg : g = 0
            · rw [b01_t (p := x ∨ (I 112 (120 * p + k) = o ∧ (g ≠ 0 → GE I p k))) (Or.inr ⟨hoo, fun q => absurd hg q⟩)]
              simp (disch := first | assumption | exact b01_or _ | (simp (decide := true) only [WB_U, WK_U, WL_U]; assumption) | omega | (simp only [rowU, Nat.reduceEqDiff, ↓reduceIte]; omega)) only [ne_eq, not_true_eq_false, not_false_eq_true, if_true, if_false, ite_true, ite_false, caln_v, caln_r, caln_x, Int.reduceEq, Int.reduceNe, Int.reduceLT, Int.reduceLE, Int.reduceAdd, Int.reduceMul, Int.reduceSub, b178_0, b178_24, b178_29, b178_40, b178_42, b178_46, b178_47, b178_49, b178_50, hkl, hpk, hoo, hg, zor_1]
            · by_cases hge : GE I p k
              · rw [b01_t (p := x ∨ (I 112 (120 * p + k) = o ∧ (g ≠ 0 → GE I p k))) (Or.inr ⟨hoo, fun _ => hge⟩)]
                simp (disch := first | assumption | exact b01_or _ | (simp (decide := true) only [WB_U, WK_U, WL_U]; assumption) | omega | (simp only [rowU, Nat.reduceEqDiff, ↓reduceIte]; omega)) only [ne_eq, not_true_eq_false, not_false_eq_true, if_true, if_false, ite_true, ite_false, caln_v, caln_r, caln_x, Int.reduceEq, Int.reduceNe, Int.reduceLT, Int.reduceLE, Int.reduceAdd, Int.reduceMul, Int.reduceSub, b178_0, b178_24, b178_29, b178_40, b178_42, b178_46, b178_47, b178_49, b178_50, hkl, hpk, hoo, hg, r177, b01_t hge, zor_1]
              · rw [b01_c (p := x ∨ (I 112 (120 * p + k) = o ∧ (g ≠ 0 → GE I p k))) (q := x) ⟨fun c => c.elim id (fun c => absurd (c.2 hg) hge), Or.inl⟩]
                simp (disch := first | assumption | exact b01_or _ | (simp (decide := true) only [WB_U, WK_U, WL_U]; assumption) | omega | (simp only [rowU, Nat.reduceEqDiff, ↓reduceIte]; omega)) only [ne_eq, not_true_eq_false, not_false_eq_true, if_true, if_false, ite_true, ite_false, caln_v, caln_r, caln_x, Int.reduceEq, Int.reduceNe, Int.reduceLT, Int.reduceLE, Int.reduceAdd, Int.reduceMul, Int.reduceSub, b178_0, b178_24, b178_29, b178_40, b178_42, b178_46, b178_47, b178_49, b178_50, hkl, hpk, hoo, hg, r177, b01_f hge, zor_0]
          · rw [b01_c (p := x ∨ (I 112 (120 * p + k) = o ∧ (g ≠ 0 → GE I p k))) (q := x) ⟨fun c => c.elim id (fun c => absurd c.1 hoo), Or.inl⟩]
            simp (disch := first | assumption | exact b01_or _ | (simp (decide := true) only [WB_U, WK_U, WL_U]; assumption) | omega | (simp only [rowU, Nat.reduceEqDiff, ↓reduceIte]; omega)) only [ne_eq, not_true_eq_false, not_false_eq_true, if_true, if_false, ite_true, ite_false, caln_v, caln_r, caln_x, Int.reduceEq, Int.reduceNe, Int.reduceLT, Int.reduceLE, Int.reduceAdd, Int.reduceMul, Int.reduceSub, b178_0, b178_24, b178_29, b178_40, b178_42, b178_46, b178_47, b178_49, b178_50, hkl, hpk, hoo, zor_0]
        · rw [hx, or_assoc]
          refine or_congr_right ⟨?_, ?_⟩
          · rintro (⟨k1, a, b, c⟩ | c)
            · exact ⟨k1, a, by omega, c⟩
            · exact ⟨k, hk0, by omega, c⟩
          · rintro ⟨k1, a, b, c⟩
            by_cases hkk : k1 = k
            · subst hkk; exact Or.inr c
            · exact Or.inl ⟨k1, a, by omega, c⟩
/-- a spoilt loose file -/
def BL (I : Nat → Int → Int) (s o : Int) : Prop := (I 101 (120 * s + o) = 1 ∧ I 103 (120 * s + o) = 1) ∨ (I 101 (120 * s + o) ≠ 1 ∧ I 107 (30 * s + I 101 (120 * s + o) - 2) = 1)
theorem BL_U {I : Nat → Int → Int} {a : Nat} {f : Int → Int} (ha : 108 ≤ a) : BL (rowU I a f) = BL I := by
  unfold BL
  rw [rowU_ne (by omega), rowU_ne (by omega), rowU_ne (by omega)]
theorem r176 {h : HP} {I : Nat → Int → Int} {s o : Int} {v3 : MV} (L : LX 11 h 94) (E : WL I) (hs : s = 0 ∨ s = 1) (ho : 0 ≤ o ∧ o < 120) (hl : 0 < I 101 (120 * s + o)) :
    Go 176 0 [.inr (.inl (some 94)), .inl s, .inl o, v3] [] (mI h I) = some (mI h I, .inl (some (.inl (b01 (BL I s o))))) := by
  have hb := E.2.2 (120 * s + o)
  have h3 := E.1 (120 * s + o)
  have h7 := E.2.1 (30 * s + I 101 (120 * s + o) - 2)
  by_cases hc : I 101 (120 * s + o) = 1
  · have : BL I s o ↔ I 103 (120 * s + o) = 1 := ⟨fun q => q.elim And.right (fun q => absurd hc q.1), fun q => Or.inl ⟨hc, q⟩⟩
    rw [b01_c this, ← b01_x h3]
    clear this
    simp (disch := first | assumption | exact b01_or _ | (simp (decide := true) only [WB_U, WK_U, WL_U]; assumption) | omega | (simp only [rowU, Nat.reduceEqDiff, ↓reduceIte]; omega)) only [ne_eq, not_true_eq_false, not_false_eq_true, if_true, if_false, ite_true, ite_false, caln_v, caln_r, caln_x, Int.reduceEq, Int.reduceNe, Int.reduceLT, Int.reduceLE, Int.reduceAdd, Int.reduceMul, Int.reduceSub, b176_0, b176_12, b176_17, b176_30, hc]
  · have : BL I s o ↔ I 107 (30 * s + I 101 (120 * s + o) - 2) = 1 := ⟨fun q => q.elim (fun q => absurd q.1 hc) And.right, fun q => Or.inr ⟨hc, q⟩⟩
    rw [b01_c this, ← b01_x h7]
    clear this
    simp (disch := first | assumption | exact b01_or _ | (simp (decide := true) only [WB_U, WK_U, WL_U]; assumption) | omega | (simp only [rowU, Nat.reduceEqDiff, ↓reduceIte]; omega)) only [ne_eq, not_true_eq_false, not_false_eq_true, if_true, if_false, ite_true, ite_false, caln_v, caln_r, caln_x, Int.reduceEq, Int.reduceNe, Int.reduceLT, Int.reduceLE, Int.reduceAdd, Int.reduceMul, Int.reduceSub, b176_0, b176_12, b176_17, b176_30, hc]
def Th (I : Nat → Int → Int) (s o : Int) : Prop := 0 < I 101 (120 * s + o) ∨ HE I s o 0
theorem Th_U {I : Nat → Int → Int} {a : Nat} {f : Int → Int} (ha : 115 ≤ a) : Th (rowU I a f) = Th I := by
  unfold Th
  rw [HE_U ha, rowU_ne (by omega)]
theorem r179 {h : HP} {I : Nat → Int → Int} {s o : Int} (L : LX 11 h 94) (K : WK I) (hs : s = 0 ∨ s = 1) (ho : 0 ≤ o ∧ o < 120) :
    Go 179 0 [.inr (.inl (some 94)), .inl s, .inl o] [] (mI h I) = some (mI h I, .inl (some (.inl (b01 (Th I s o))))) := by
  by_cases hc : 0 < I 101 (120 * s + o)
  · rw [b01_t (p := Th I s o) (Or.inl hc)]
    simp (disch := first | assumption | exact b01_or _ | (simp (decide := true) only [WB_U, WK_U, WL_U]; assumption) | omega | (simp only [rowU, Nat.reduceEqDiff, ↓reduceIte]; omega)) only [ne_eq, not_true_eq_false, not_false_eq_true, if_true, if_false, ite_true, ite_false, caln_v, caln_r, caln_x, Int.reduceEq, Int.reduceNe, Int.reduceLT, Int.reduceLE, Int.reduceAdd, Int.reduceMul, Int.reduceSub, b179_0, b179_9, b179_14, b179_15, b179_17, b179_18, hc]
  · by_cases he : HE I s o 0
    · rw [b01_t (p := Th I s o) (Or.inr he)]
      simp (disch := first | assumption | exact b01_or _ | (simp (decide := true) only [WB_U, WK_U, WL_U]; assumption) | omega | (simp only [rowU, Nat.reduceEqDiff, ↓reduceIte]; omega)) only [ne_eq, not_true_eq_false, not_false_eq_true, if_true, if_false, ite_true, ite_false, caln_v, caln_r, caln_x, Int.reduceEq, Int.reduceNe, Int.reduceLT, Int.reduceLE, Int.reduceAdd, Int.reduceMul, Int.reduceSub, b179_0, b179_9, b179_14, b179_15, b179_17, b179_18, hc, r178, b01_t he]
    · rw [b01_f (p := Th I s o) (fun q => q.elim hc he)]
      simp (disch := first | assumption | exact b01_or _ | (simp (decide := true) only [WB_U, WK_U, WL_U]; assumption) | omega | (simp only [rowU, Nat.reduceEqDiff, ↓reduceIte]; omega)) only [ne_eq, not_true_eq_false, not_false_eq_true, if_true, if_false, ite_true, ite_false, caln_v, caln_r, caln_x, Int.reduceEq, Int.reduceNe, Int.reduceLT, Int.reduceLE, Int.reduceAdd, Int.reduceMul, Int.reduceSub, b179_0, b179_9, b179_14, b179_15, b179_17, b179_18, hc, r178, b01_f he]
def GL (I : Nat → Int → Int) (s o : Int) : Prop := 0 < I 101 (120 * s + o) ∧ ¬BL I s o
theorem GL_U {I : Nat → Int → Int} {a : Nat} {f : Int → Int} (ha : 108 ≤ a) : GL (rowU I a f) = GL I := by
  unfold GL
  rw [BL_U ha, rowU_ne (by omega)]
theorem r180 {h : HP} {I : Nat → Int → Int} {s o : Int} (L : LX 11 h 94) (E : WL I) (hs : s = 0 ∨ s = 1) (ho : 0 ≤ o ∧ o < 120) :
    Go 180 0 [.inr (.inl (some 94)), .inl s, .inl o] [] (mI h I) = some (mI h I, .inl (some (.inl (b01 (GL I s o))))) := by
  by_cases hc : I 101 (120 * s + o) ≤ 0
  · rw [b01_f (fun q => by have := q.1; omega)]
    simp (disch := first | assumption | exact b01_or _ | (simp (decide := true) only [WB_U, WK_U, WL_U]; assumption) | omega | (simp only [rowU, Nat.reduceEqDiff, ↓reduceIte]; omega)) only [ne_eq, not_true_eq_false, not_false_eq_true, if_true, if_false, ite_true, ite_false, caln_v, caln_r, caln_x, Int.reduceEq, Int.reduceNe, Int.reduceLT, Int.reduceLE, Int.reduceAdd, Int.reduceMul, Int.reduceSub, b180_0, b180_9, b180_13, b180_14, b180_16, b180_17, hc]
  · have hc2 : 0 < I 101 (120 * s + o) := by omega
    by_cases hb : BL I s o
    · rw [b01_f (fun q => q.2 hb)]
      simp (disch := first | assumption | exact b01_or _ | (simp (decide := true) only [WB_U, WK_U, WL_U]; assumption) | omega | (simp only [rowU, Nat.reduceEqDiff, ↓reduceIte]; omega)) only [ne_eq, not_true_eq_false, not_false_eq_true, if_true, if_false, ite_true, ite_false, caln_v, caln_r, caln_x, Int.reduceEq, Int.reduceNe, Int.reduceLT, Int.reduceLE, Int.reduceAdd, Int.reduceMul, Int.reduceSub, b180_0, b180_9, b180_13, b180_14, b180_16, b180_17, hc, r176, b01_t hb]
    · rw [b01_t ⟨hc2, hb⟩]
      simp (disch := first | assumption | exact b01_or _ | (simp (decide := true) only [WB_U, WK_U, WL_U]; assumption) | omega | (simp only [rowU, Nat.reduceEqDiff, ↓reduceIte]; omega)) only [ne_eq, not_true_eq_false, not_false_eq_true, if_true, if_false, ite_true, ite_false, caln_v, caln_r, caln_x, Int.reduceEq, Int.reduceNe, Int.reduceLT, Int.reduceLE, Int.reduceAdd, Int.reduceMul, Int.reduceSub, b180_0, b180_9, b180_13, b180_14, b180_16, b180_17, hc, r176, b01_f hb]
def Gd (I : Nat → Int → Int) (s o : Int) : Prop := GL I s o ∨ HE I s o 1
theorem Gd_U {I : Nat → Int → Int} {a : Nat} {f : Int → Int} (ha : 115 ≤ a) : Gd (rowU I a f) = Gd I := by
  unfold Gd
  rw [HE_U ha, GL_U (by omega)]
theorem r181 {h : HP} {I : Nat → Int → Int} {s o : Int} (L : LX 11 h 94) (K : WK I) (E : WL I) (hs : s = 0 ∨ s = 1) (ho : 0 ≤ o ∧ o < 120) :
    Go 181 0 [.inr (.inl (some 94)), .inl s, .inl o] [] (mI h I) = some (mI h I, .inl (some (.inl (b01 (Gd I s o))))) := by
  by_cases hc : GL I s o
  · rw [b01_t (p := Gd I s o) (Or.inl hc)]
    simp (disch := first | assumption | exact b01_or _ | (simp (decide := true) only [WB_U, WK_U, WL_U]; assumption) | omega | (simp only [rowU, Nat.reduceEqDiff, ↓reduceIte]; omega)) only [ne_eq, not_true_eq_false, not_false_eq_true, if_true, if_false, ite_true, ite_false, caln_v, caln_r, caln_x, Int.reduceEq, Int.reduceNe, Int.reduceLT, Int.reduceLE, Int.reduceAdd, Int.reduceMul, Int.reduceSub, b181_0, b181_4, b181_5, b181_10, b181_11, b181_13, b181_14, r180, b01_t hc]
  · by_cases he : HE I s o 1
    · rw [b01_t (p := Gd I s o) (Or.inr he)]
      simp (disch := first | assumption | exact b01_or _ | (simp (decide := true) only [WB_U, WK_U, WL_U]; assumption) | omega | (simp only [rowU, Nat.reduceEqDiff, ↓reduceIte]; omega)) only [ne_eq, not_true_eq_false, not_false_eq_true, if_true, if_false, ite_true, ite_false, caln_v, caln_r, caln_x, Int.reduceEq, Int.reduceNe, Int.reduceLT, Int.reduceLE, Int.reduceAdd, Int.reduceMul, Int.reduceSub, b181_0, b181_4, b181_5, b181_10, b181_11, b181_13, b181_14, r180, r178, b01_f hc, b01_t he]
    · rw [b01_f (p := Gd I s o) (fun q => q.elim hc he)]
      simp (disch := first | assumption | exact b01_or _ | (simp (decide := true) only [WB_U, WK_U, WL_U]; assumption) | omega | (simp only [rowU, Nat.reduceEqDiff, ↓reduceIte]; omega)) only [ne_eq, not_true_eq_false, not_false_eq_true, if_true, if_false, ite_true, ite_false, caln_v, caln_r, caln_x, Int.reduceEq, Int.reduceNe, Int.reduceLT, Int.reduceLE, Int.reduceAdd, Int.reduceMul, Int.reduceSub, b181_0, b181_4, b181_5, b181_10, b181_11, b181_13, b181_14, r180, r178, b01_f hc, b01_f he]
/-- an object and all that it leads to in a store is there or promised -/
def Wh (I : Nat → Int → Int) (s o : Int) : Prop := ∀ j, Cl (Eg I s) (fun j => j = o) j → Th I s j ∨ I 117 (120 * s + j) ≠ 0
theorem Cl_lt {I : Nat → Int → Int} (W : WB I) {s : Int} {S : Int → Prop} (hS : ∀ j, S j → 0 ≤ j ∧ j < I 94 0) (j : Int) (c : Cl (Eg I s) S j) : 0 ≤ j ∧ j < I 94 0 :=
  Cl_ind c hS (fun a b ha e => by have := Eg_lt W ha e; omega)
theorem r182 {h : HP} {I : Nat → Int → Int} {s o : Int} {v3 v4 : MV} (L : LX 11 h 94) (W : WB I) (K : WK I) (Z : Z133 I) (hs : s = 0 ∨ s = 1) (ho : 0 ≤ o ∧ o < I 94 0) :
    Go 182 0 [.inr (.inl (some 94)), .inl s, .inl o, v3, v4] [] (mI h I) = some (mI h (rowU I 133 (ind (Cl (Eg I s) (fun j => j = o)))), .inl (some (.inl (b01 (Wh I s o))))) := by
  have ht := WB_t W
  have hcl := Cl_lt W (s := s) (S := fun j => j = o) (fun j q => by omega)
  simp (disch := first | assumption | exact b01_or _ | (simp (decide := true) only [WB_U, WK_U, WL_U]; assumption) | omega | (simp only [rowU, Nat.reduceEqDiff, ↓reduceIte]; omega)) only [ne_eq, not_true_eq_false, not_false_eq_true, if_true, if_false, ite_true, ite_false, caln_v, caln_r, caln_x, Int.reduceEq, Int.reduceNe, Int.reduceLT, Int.reduceLE, Int.reduceAdd, Int.reduceMul, Int.reduceSub, b182_0, r174, b182_4]
  generalize hC : Cl (Eg I s) (fun j => j = o) = C at hcl
  have key := lpU (fun k => Go 182 8 [.inr (.inl (some 94)), .inl s, .inl o, .inl (b01 (∀ j, j < k → C j → Th I s j ∨ I 117 (120 * s + j) ≠ 0)), .inl k] [] (mI h (rowU I 133 (ind C)))) 0 (I 94 0) ht.1 ?_
  · rw [b01_t (p := ∀ j, j < 0 → C j → Th I s j ∨ I 117 (120 * s + j) ≠ 0) (fun j q c => by have := hcl j c; omega)] at key
    rw [key, b182_8 L]
    have : (∀ j, j < I 94 0 → C j → Th I s j ∨ I 117 (120 * s + j) ≠ 0) = Wh I s o := by
      unfold Wh
      rw [hC]
      exact propext ⟨fun q j c => q j (hcl j c).2 c, fun q j _ c => q j c⟩
    rw [this]
    simp (disch := first | assumption | exact b01_or _ | (simp (decide := true) only [WB_U, WK_U, WL_U]; assumption) | omega | (simp only [rowU, Nat.reduceEqDiff, ↓reduceIte]; omega)) only [ne_eq, not_true_eq_false, not_false_eq_true, if_true, if_false, ite_true, ite_false, caln_v, caln_r, caln_x, Int.reduceEq, Int.reduceNe, Int.reduceLT, Int.reduceLE, Int.reduceAdd, Int.reduceMul, Int.reduceSub, rowU, Nat.reduceEqDiff, ↓reduceIte, Int.le_refl, b182_39]
  · intro k h0 h1
    have hk : ¬ I 94 0 ≤ k := by omega
    have eq : ∀ q : Prop, (q = (C k → Th I s k ∨ I 117 (120 * s + k) ≠ 0)) → ((∀ j, j < k → C j → Th I s j ∨ I 117 (120 * s + j) ≠ 0) ∧ q) = (∀ j, j < k + 1 → C j → Th I s j ∨ I 117 (120 * s + j) ≠ 0) := by
      rintro q rfl
      apply propext
      constructor
      · rintro ⟨q1, q2⟩ j hj
        by_cases hjk : j = k
        · subst hjk; exact q2
        · exact q1 j (by omega)
      · intro q
        exact ⟨fun j hj => q j (by omega), q k (by omega)⟩
    rw [b182_8 L, ← eq _ rfl]
    clear eq
    by_cases hc : C k
    · by_cases hth : Th I s k
      · rw [← zand_b, b01_t (p := C k → _) (fun _ => Or.inl hth)]
        simp (disch := first | assumption | exact b01_or _ | (simp (decide := true) only [WB_U, WK_U, WL_U]; assumption) | omega | (simp only [rowU, Nat.reduceEqDiff, ↓reduceIte]; omega)) only [ne_eq, not_true_eq_false, not_false_eq_true, if_true, if_false, ite_true, ite_false, caln_v, caln_r, caln_x, Int.reduceEq, Int.reduceNe, Int.reduceLT, Int.reduceLE, Int.reduceAdd, Int.reduceMul, Int.reduceSub, rowU, Nat.reduceEqDiff, ↓reduceIte, b182_0, b182_4, b182_12, b182_18, b182_22, b182_23, b182_32, b182_34, b182_35, b182_39, hk, ind, b01_t hc, r179, Th_U, b01_t hth]
      · by_cases hpr : I 117 (120 * s + k) = 0
        · rw [← zand_b, b01_f (p := C k → _) (fun q => (q hc).elim hth (fun q => q hpr))]
          simp (disch := first | assumption | exact b01_or _ | (simp (decide := true) only [WB_U, WK_U, WL_U]; assumption) | omega | (simp only [rowU, Nat.reduceEqDiff, ↓reduceIte]; omega)) only [ne_eq, not_true_eq_false, not_false_eq_true, if_true, if_false, ite_true, ite_false, caln_v, caln_r, caln_x, Int.reduceEq, Int.reduceNe, Int.reduceLT, Int.reduceLE, Int.reduceAdd, Int.reduceMul, Int.reduceSub, rowU, Nat.reduceEqDiff, ↓reduceIte, b182_0, b182_4, b182_12, b182_18, b182_22, b182_23, b182_32, b182_34, b182_35, b182_39, hk, ind, b01_t hc, r179, Th_U, b01_f hth, hpr]
        · rw [← zand_b, b01_t (p := C k → _) (fun _ => Or.inr hpr)]
          simp (disch := first | assumption | exact b01_or _ | (simp (decide := true) only [WB_U, WK_U, WL_U]; assumption) | omega | (simp only [rowU, Nat.reduceEqDiff, ↓reduceIte]; omega)) only [ne_eq, not_true_eq_false, not_false_eq_true, if_true, if_false, ite_true, ite_false, caln_v, caln_r, caln_x, Int.reduceEq, Int.reduceNe, Int.reduceLT, Int.reduceLE, Int.reduceAdd, Int.reduceMul, Int.reduceSub, rowU, Nat.reduceEqDiff, ↓reduceIte, b182_0, b182_4, b182_12, b182_18, b182_22, b182_23, b182_32, b182_34, b182_35, b182_39, hk, ind, b01_t hc, r179, Th_U, b01_f hth, hpr]
    · rw [← zand_b, b01_t (p := C k → _) (fun q => absurd q hc)]
      simp (disch := first | assumption | exact b01_or _ | (simp (decide := true) only [WB_U, WK_U, WL_U]; assumption) | omega | (simp only [rowU, Nat.reduceEqDiff, ↓reduceIte]; omega)) only [ne_eq, not_true_eq_false, not_false_eq_true, if_true, if_false, ite_true, ite_false, caln_v, caln_r, caln_x, Int.reduceEq, Int.reduceNe, Int.reduceLT, Int.reduceLE, Int.reduceAdd, Int.reduceMul, Int.reduceSub, rowU, Nat.reduceEqDiff, ↓reduceIte, b182_0, b182_4, b182_12, b182_18, b182_22, b182_23, b182_32, b182_34, b182_35, b182_39, hk, ind, b01_f hc]
