/-! ===== the class (9): one object into a pack ===== -/
theorem fo_v {C : Int → Int → Prop} {v : Int → Int} : ∀ (n : Nat) (k : Int) (s : Int × Int), fo C v n k s = s ∨ ((0 ≤ (fo C v n k s).2 ∧ (fo C v n k s).2 ≤ k) ∧ (fo C v n k s).1 = v (fo C v n k s).2)
  | 0, _, _ => Or.inl rfl
  | n + 1, k, s => by
    unfold fo
    by_cases hk : k < 0
    · rw [if_pos hk]; exact Or.inl rfl
    · rw [if_neg hk]
      by_cases hc : C k s.1
      · rw [if_pos hc]
        obtain q | q := fo_v (C := C) (v := v) n (k - 1) (v k, k)
        · rw [q]; exact Or.inr ⟨⟨by dsimp only; omega, Int.le_refl _⟩, rfl⟩
        · exact Or.inr ⟨⟨q.1.1, by omega⟩, q.2⟩
      · rw [if_neg hc]
        obtain q | q := fo_v (C := C) (v := v) n (k - 1) s
        · exact Or.inl q
        · exact Or.inr ⟨⟨q.1.1, by omega⟩, q.2⟩
theorem gm_v {C : Int → Int → Prop} {v e : Int → Int} {s : Int × Int} : ∀ n : Nat, gm C v e s n = s ∨ (gm C v e s n).1 = v (gm C v e s n).2
  | 0 => Or.inl rfl
  | n + 1 => by
    unfold gm
    by_cases hc : C (e n) (gm C v e s n).1
    · rw [if_pos hc]; exact Or.inr rfl
    · rw [if_neg hc]; exact gm_v n
theorem k68 {h : HP} {I J : Nat → Int → Int} {a : Nat} {p z : Int} {v3 : MV} (L0 : LX 0 h 2) (L : LX 6 h 81) (B : BC I J) (R : RB J) (C : PC h I J a p) (K : WK J) (hp : 0 ≤ p ∧ p < 40) (hz : 0 ≤ z ∧ z < J 94 0) (hm : eo J p z < 0 → J 111 p < 100) :
    ∃ I1, Go 68 0 [.inr (.inl (some 81)), .inr (.inl (some a)), .inl z, v3] [] (mI h I) = some (mI h I1, .inl (some (.inl (if eo J p z < 0 then J 111 p else eo J p z)))) ∧ (∀ c, c < a ∨ a + 5 < c → I1 c = I c) ∧ PC h I1 (if eo J p z < 0 then en J p z (-1) else J) a p := by
  have hT := R.1.1
  have hk := K.2 p hp.1 hp.2
  have hb := eo_b (I := J) (p := p) (o := z) hk.1.1
  rw [b68_0 C.1, k56 C, if_pos (by omega), caln_r, b68_3]
  by_cases h0 : eo J p z < 0
  · have h1 : eo J p z = -1 := by omega
    obtain ⟨I1, e, q1, q2⟩ := k59 (h := h) (I := I) (J := J) (a := a) (p := p) (o := z) (b := -1) (z := J 96 z) C R.1 K hp hz (by omega) (by rw [if_pos (by decide)]) (hm h0)
    refine ⟨I1, ?_, q1, ?_⟩
    · rw [if_neg (fun q => q h1), b68_7 L L0, k5 L0 B R, lnO_t hz, caln_r, b68_14 C.1, e, caln_r, b68_15, b68_17, if_pos h0]
    · rw [if_pos h0]; exact q2
  · refine ⟨I, ?_, fun _ _ => rfl, ?_⟩
    · rw [if_pos (by omega), b68_16, b68_17, if_neg h0]
    · rw [if_neg h0]; exact C
theorem k67a {h : HP} {I J : Nat → Int → Int} {a ro : Nat} {p o win deep : Int} {v9 v10 : MV} (L0 : LX 0 h 2) (L : LX 6 h 81) (B : BC I J) (R : RB J) (C : PC h I J a p) (K : WK J) (hp : 0 ≤ p ∧ p < 40) (ho : 0 ≤ o ∧ o < J 94 0) (hw : 0 ≤ win ∧ win ≤ 100) :
    ∀ (n : Nat) (k best by_ : Int), -1 ≤ k → k < J 111 p → k - n = J 111 p - 1 - win → best ≤ J 96 o → ∃ k1 : Int, Go 67 12 [.inr (.inl (some 81)), .inr (.inl (some a)), .inl o, .inr (.inl (some ro)), .inl win, .inl deep, .inl best, .inl by_, .inl k, v9, v10] [] (mI h I) = Go 67 44 [.inr (.inl (some 81)), .inr (.inl (some a)), .inl o, .inr (.inl (some ro)), .inl win, .inl deep, .inl (fo (C1 J p o deep) (V1 J p o) n k (best, by_)).1, .inl (fo (C1 J p o deep) (V1 J p o) n k (best, by_)).2, .inl k1, v9, v10] [] (mI h I) ∧ (fo (C1 J p o deep) (V1 J p o) n k (best, by_)).1 ≤ J 96 o := by
  have hT := R.1.1
  have hkp := K.2 p hp.1 hp.2
  have hd : ∀ k, 0 ≤ k → k < J 111 p → I (a + 3) k = dpt J p k := fun k k0 k1 => (C.2.2.2.1 k k0 k1).2.1
  intro n
  induction n with
  | zero =>
    intro k best by_ h0 h1 h2 hb
    refine ⟨k, ?_, hb⟩
    rw [b67_12]
    by_cases hk : k < 0
    · rw [if_pos hk]; rfl
    · rw [if_neg hk, b67_14 C.1 (by rw [C.2.2.1.1]; omega), C.2.2.1.1, if_pos (by omega)]; rfl
  | succ n ih =>
    intro k best by_ h0 h1 h2 hb
    by_cases hk : k < 0
    · have e1 : fo (C1 J p o deep) (V1 J p o) (n + 1) k (best, by_) = (best, by_) := if_pos hk
      refine ⟨k, ?_, by rw [e1]; exact hb⟩
      rw [b67_12, if_pos hk, e1]
    · have hek := hkp.2 k (by omega) h1
      have e1 : fo (C1 J p o deep) (V1 J p o) (n + 1) k (best, by_) = fo (C1 J p o deep) (V1 J p o) n (k - 1) (@ite _ (C1 J p o deep k best) (Classical.propDecidable _) (V1 J p o k, k) (best, by_)) := if_neg hk
      rw [e1]
      have h20 : Go 67 12 [.inr (.inl (some 81)), .inr (.inl (some a)), .inl o, .inr (.inl (some ro)), .inl win, .inl deep, .inl best, .inl by_, .inl k, v9, v10] [] (mI h I) = if deep ≤ dpt J p k then Go 67 42 [.inr (.inl (some 81)), .inr (.inl (some a)), .inl o, .inr (.inl (some ro)), .inl win, .inl deep, .inl best, .inl by_, .inl k, v9, v10] [] (mI h I) else Go 67 25 [.inr (.inl (some 81)), .inr (.inl (some a)), .inl o, .inr (.inl (some ro)), .inl win, .inl deep, .inl best, .inl by_, .inl k, v9, v10] [] (mI h I) := by
        rw [b67_12, if_neg hk, b67_14 C.1 (by rw [C.2.2.1.1]; omega), C.2.2.1.1, if_neg (by omega), b67_20 C.1, k58 (J := J) (p := p) C.1 C.2.2.1.1 hd (by omega), if_pos (by omega), caln_r, b67_23]
      rw [h20]
      have no : ¬C1 J p o deep k best → ∃ k1 : Int, Go 67 42 [.inr (.inl (some 81)), .inr (.inl (some a)), .inl o, .inr (.inl (some ro)), .inl win, .inl deep, .inl best, .inl by_, .inl k, v9, v10] [] (mI h I) = Go 67 44 [.inr (.inl (some 81)), .inr (.inl (some a)), .inl o, .inr (.inl (some ro)), .inl win, .inl deep, .inl (fo (C1 J p o deep) (V1 J p o) n (k - 1) (@ite _ (C1 J p o deep k best) (Classical.propDecidable _) (V1 J p o k, k) (best, by_))).1, .inl (fo (C1 J p o deep) (V1 J p o) n (k - 1) (@ite _ (C1 J p o deep k best) (Classical.propDecidable _) (V1 J p o k, k) (best, by_))).2, .inl k1, v9, v10] [] (mI h I) ∧ (fo (C1 J p o deep) (V1 J p o) n (k - 1) (@ite _ (C1 J p o deep k best) (Classical.propDecidable _) (V1 J p o k, k) (best, by_))).1 ≤ J 96 o := by
        intro hc
        rw [if_neg hc, b67_42 (by omega), show k + -1 = k - 1 by omega]
        exact ih (k - 1) best by_ (by omega) (by omega) (by omega) hb
      by_cases q1 : deep ≤ dpt J p k
      · rw [if_pos q1]
        exact no (fun q => by have := q.2.1; omega)
      · have h57 := k57 (x := k) C (by omega)
        rw [if_pos (by omega)] at h57
        rw [if_neg q1, b67_25 C.1, h57, caln_r, b67_30 L, k69 L0 L B R ho hek.1, caln_r, b67_31]
        by_cases q2 : best ≤ sW J o (J 112 (120 * p + k))
        · rw [if_pos q2]
          refine no (fun q => ?_)
          have q3 := q.2.2
          unfold sW at q2
          rw [if_pos q.1.symm] at q2
          omega
        · have hkd : J 95 o = J 95 (J 112 (120 * p + k)) := by
            apply Classical.byContradiction
            intro q
            unfold sW at q2
            rw [if_neg q] at q2
            omega
          have eW : sW J o (J 112 (120 * p + k)) = V1 J p o k := if_pos hkd
          rw [eW] at q2
          have hc : C1 J p o deep k best := ⟨hkd.symm, by omega, by unfold V1 at q2; omega⟩
          rw [if_neg (by rw [eW]; exact q2), if_pos hc, b67_33 C.1, h57, caln_r, b67_38 L, k69 L0 L B R ho hek.1, caln_r, b67_39, b67_42 (by omega), eW, show k + -1 = k - 1 by omega]
          exact ih (k - 1) (V1 J p o k) k (by omega) (by omega) (by omega) (by omega)
/-- the offered row, where bases may be told -/
def OfR (J : Nat → Int → Int) (p deep t : Int) (Of : Int → Prop) : Prop := (t = 0 ∧ ∀ z, 0 ≤ z → z < J 94 0 → ¬Of z) ∨ (t = 1 ∧ 0 < deep ∧ ∀ z, 0 ≤ z → z < J 94 0 → (Of z ↔ J 135 z ≠ 0 ∧ Gd J (p / 20) z))
theorem k67b {h : HP} {I J : Nat → Int → Int} {a ro : Nat} {p o win deep t best x7 : Int} {Of : Int → Prop} {v8 v9 v10 : MV} (L0 : LX 0 h 2) (L : LX 6 h 81) (Lr : hK h ro = (1, 100)) (B : BC I J) (R : RB J) (ho : 0 ≤ o ∧ o < J 94 0) (hr : I ro = ind Of) (hO : OfR J p deep t Of) (hb : best ≤ J 96 o) (h8 : ∃ z, v8 = .inl z) :
    ∃ (u9 : Int) (u10 : MV), Go 67 44 [.inr (.inl (some 81)), .inr (.inl (some a)), .inl o, .inr (.inl (some ro)), .inl win, .inl deep, .inl best, .inl x7, v8, v9, v10] [] (mI h I) = Go 67 80 [.inr (.inl (some 81)), .inr (.inl (some a)), .inl o, .inr (.inl (some ro)), .inl win, .inl deep, .inl (if t = 0 then (best, -1) else gm (C2 J p o) (dlt J o) (I 9) (best, -1) (J 94 0).toNat).1, .inl x7, .inl (if t = 0 then (best, -1) else gm (C2 J p o) (dlt J o) (I 9) (best, -1) (J 94 0).toNat).2, .inl u9, u10] [] (mI h I) := by
  have hT := R.1.1
  have E := B.2.2
  obtain ⟨z8, rfl⟩ := h8
  rw [b67_44]
  obtain ⟨t0, hO⟩ | ⟨t1, hd, hO⟩ := hO
  · rw [if_pos t0]
    by_cases hz : J 94 0 ≤ 0
    · exact ⟨0, v10, by rw [b67_48 L L0, B.1, if_pos hz]⟩
    · by_cases hd : deep ≤ 0
      · exact ⟨0, v10, by rw [b67_48 L L0, B.1, if_neg hz, b67_53, if_pos hd]⟩
      · have key := lpE (fun k (v : MV) => Go 67 48 [.inr (.inl (some 81)), .inr (.inl (some a)), .inl o, .inr (.inl (some ro)), .inl win, .inl deep, .inl best, .inl x7, .inl (-1), .inl k, v] [] (mI h I)) (fun _ _ => True) 0 (J 94 0) hT.1 ?_ v10 trivial
        · obtain ⟨v, e, -⟩ := key
          exact ⟨J 94 0, v, by rw [e, b67_48 L L0, B.1, if_pos (Int.le_refl _)]⟩
        · intro k v k0 k1 _
          have hek := E.1 k k0 k1
          have e2 : I ro (I 9 k) = 0 := by rw [hr]; exact b01_f (hO _ hek.1 hek.2)
          refine ⟨.inl (I 9 k), ?_, trivial⟩
          rw [b67_48 L L0, B.1, if_neg (by omega), b67_53, if_neg hd, b67_55 L L0 (by omega) Lr (by omega), e2, if_pos rfl, b67_78 (by omega)]
  · have ht : ¬ t = 0 := by omega
    rw [if_neg ht]
    have key := lpE (fun k (x : MV) => Go 67 48 [.inr (.inl (some 81)), .inr (.inl (some a)), .inl o, .inr (.inl (some ro)), .inl win, .inl deep, .inl (gm (C2 J p o) (dlt J o) (I 9) (best, -1) k.toNat).1, .inl x7, .inl (gm (C2 J p o) (dlt J o) (I 9) (best, -1) k.toNat).2, .inl k, x] [] (mI h I)) (fun k _ => (gm (C2 J p o) (dlt J o) (I 9) (best, -1) k.toNat).1 ≤ J 96 o) 0 (J 94 0) hT.1 ?_ v10 hb
    · obtain ⟨v, e, -⟩ := key
      refine ⟨J 94 0, v, ?_⟩
      refine Eq.trans e ?_
      rw [b67_48 L L0, B.1, if_pos (Int.le_refl _)]
    · intro k v k0 k1 hbk
      have hek := E.1 k k0 k1
      have hO2 := hO _ hek.1 hek.2
      rw [gm_s k0]
      generalize gm (C2 J p o) (dlt J o) (I 9) (best, -1) k.toNat = g at *
      obtain ⟨g1, g2⟩ := g
      dsimp only at hbk ⊢
      have e2 : I ro (I 9 k) = b01 (Of (I 9 k)) := by rw [hr]; rfl
      have no : ¬C2 J p o (I 9 k) g1 → ∃ w : MV, Go 67 78 [.inr (.inl (some 81)), .inr (.inl (some a)), .inl o, .inr (.inl (some ro)), .inl win, .inl deep, .inl g1, .inl x7, .inl g2, .inl k, .inl (I 9 k)] [] (mI h I) = Go 67 48 [.inr (.inl (some 81)), .inr (.inl (some a)), .inl o, .inr (.inl (some ro)), .inl win, .inl deep, .inl (@ite (Int × Int) (C2 J p o (I 9 k) g1) (Classical.propDecidable _) (dlt J o (I 9 k), I 9 k) (g1, g2)).1, .inl x7, .inl (@ite (Int × Int) (C2 J p o (I 9 k) g1) (Classical.propDecidable _) (dlt J o (I 9 k), I 9 k) (g1, g2)).2, .inl (k + 1), w] [] (mI h I) ∧ (@ite (Int × Int) (C2 J p o (I 9 k) g1) (Classical.propDecidable _) (dlt J o (I 9 k), I 9 k) (g1, g2)).1 ≤ J 96 o := by
        intro hc
        rw [if_neg hc]
        exact ⟨.inl (I 9 k), by rw [b67_78 (by omega)], hbk⟩
      have h65 : Go 67 48 [.inr (.inl (some 81)), .inr (.inl (some a)), .inl o, .inr (.inl (some ro)), .inl win, .inl deep, .inl g1, .inl x7, .inl g2, .inl k, v] [] (mI h I) = if b01 (Of (I 9 k)) = 0 then Go 67 78 [.inr (.inl (some 81)), .inr (.inl (some a)), .inl o, .inr (.inl (some ro)), .inl win, .inl deep, .inl g1, .inl x7, .inl g2, .inl k, .inl (I 9 k)] [] (mI h I) else Go 67 65 [.inr (.inl (some 81)), .inr (.inl (some a)), .inl o, .inr (.inl (some ro)), .inl win, .inl deep, .inl g1, .inl x7, .inl g2, .inl k, .inl (I 9 k)] [] (mI h I) := by
        rw [b67_48 L L0, B.1, if_neg (by omega), b67_53, if_neg (by omega), b67_55 L L0 (by omega) Lr (by omega), e2]
      rw [h65]
      by_cases q1 : Of (I 9 k)
      · rw [b01_t q1, if_neg neg1_ne, b67_65 L, k69 L0 L B R ho hek, caln_r, b67_69]
        by_cases q2 : g1 ≤ sW J o (I 9 k)
        · rw [if_pos q2]
          refine no (fun q => ?_)
          unfold sW at q2
          rw [if_pos q.2.1.symm] at q2
          have := q.2.2.2
          omega
        · have hkd : J 95 o = J 95 (I 9 k) := by
            apply Classical.byContradiction
            intro q
            unfold sW at q2
            rw [if_neg q] at q2
            omega
          have eW : sW J o (I 9 k) = dlt J o (I 9 k) := if_pos hkd
          rw [eW] at q2
          have q1b := hO2.mp q1
          have hc : C2 J p o (I 9 k) g1 := ⟨q1b.1, hkd.symm, q1b.2, by omega⟩
          rw [if_neg (by rw [eW]; exact q2), if_pos hc, b67_71 L, k69 L0 L B R ho hek, caln_r, b67_75, b67_78 (by omega), eW]
          exact ⟨.inl (I 9 k), rfl, by dsimp only; omega⟩
      · rw [b01_f q1, if_pos rfl]
        exact no (fun q => q1 (hO2.mpr ⟨q.1, q.2.2.1⟩))
theorem k67 {h : HP} {I J : Nat → Int → Int} {a ro : Nat} {p o win deep t : Int} {Of Rm : Int → Prop} {v6 v7 v8 v9 v10 : MV} (L0 : LX 0 h 2) (L : LX 6 h 81) (Lr : hK h ro = (1, 100)) (B : BC I J) (R : RB J) (C : PC h I J a p) (G : PG J p Rm) (hp : 0 ≤ p ∧ p < 40) (ho : 0 ≤ o ∧ o < J 94 0) (hRo : Rm o) (hw : 0 ≤ win ∧ win ≤ 100) (hr : I ro = ind Of) (hO : OfR J p deep t Of) (hd : t ≠ 0 → ∀ z, J 135 z ≠ 0 → ¬Rm z) :
    ∃ I1, Go 67 0 [.inr (.inl (some 81)), .inr (.inl (some a)), .inl o, .inr (.inl (some ro)), .inl win, .inl deep, v6, v7, v8, v9, v10] [] (mI h I) = some (mI h I1, .inl none) ∧ (∀ c, c < a ∨ a + 5 < c → I1 c = I c) ∧ PC h I1 (P1 J (I 9) p o win deep t) a p := by
  have hT := R.1.1
  have K := G.1
  have hk := K.2 p hp.1 hp.2
  have hnot : ∀ k, 0 ≤ k → k < J 111 p → J 112 (120 * p + k) ≠ o := fun k k0 k1 q => G.2.2 k k0 k1 (by rw [q]; exact hRo)
  have hm1 := PD_lt K G.2.1 hp ho hnot
  have E := B.2.2
  obtain ⟨k1, e1, hb1⟩ := k67a (h := h) (I := I) (J := J) (a := a) (ro := ro) (p := p) (o := o) (win := win) (deep := deep) (v9 := v9) (v10 := v10) L0 L B R C K hp ho hw win.toNat (J 111 p - 1) (J 96 o) (-1) (by omega) (by omega) (by omega) (Int.le_refl _)
  have e2 : fo (C1 J p o deep) (V1 J p o) win.toNat (J 111 p - 1) (J 96 o, -1) = b1 J p o win deep := rfl
  rw [e2] at e1 hb1
  obtain ⟨u9, u10, e3⟩ := k67b (h := h) (I := I) (J := J) (a := a) (ro := ro) (p := p) (o := o) (win := win) (deep := deep) (t := t) (best := (b1 J p o win deep).1) (x7 := (b1 J p o win deep).2) (v8 := .inl k1) (v9 := v9) (v10 := v10) L0 L Lr B R ho hr hO hb1 ⟨k1, rfl⟩
  have h80 : Go 67 0 [.inr (.inl (some 81)), .inr (.inl (some a)), .inl o, .inr (.inl (some ro)), .inl win, .inl deep, v6, v7, v8, v9, v10] [] (mI h I) = Go 67 80 [.inr (.inl (some 81)), .inr (.inl (some a)), .inl o, .inr (.inl (some ro)), .inl win, .inl deep, .inl (if t = 0 then ((b1 J p o win deep).1, -1) else gm (C2 J p o) (dlt J o) (I 9) ((b1 J p o win deep).1, -1) (J 94 0).toNat).1, .inl (b1 J p o win deep).2, .inl (if t = 0 then ((b1 J p o win deep).1, -1) else gm (C2 J p o) (dlt J o) (I 9) ((b1 J p o win deep).1, -1) (J 94 0).toNat).2, .inl u9, u10] [] (mI h I) := by
    rw [b67_0 L L0, k5 L0 B R, lnO_t ho, caln_r, b67_4 C.1 (by rw [C.2.2.1.1]; omega), C.2.2.1.1, e1, e3]
  have base : ∀ (z6 z8 : Int), z8 = -1 → z6 = (b1 J p o win deep).1 → ∃ I1, Go 67 80 [.inr (.inl (some 81)), .inr (.inl (some a)), .inl o, .inr (.inl (some ro)), .inl win, .inl deep, .inl z6, .inl (b1 J p o win deep).2, .inl z8, .inl u9, u10] [] (mI h I) = some (mI h I1, .inl none) ∧ (∀ c, c < a ∨ a + 5 < c → I1 c = I c) ∧ PC h I1 (en J p o (b1 J p o win deep).2) a p := by
    intro z6 z8 h8 h6
    have hv := fo_v (C := C1 J p o deep) (v := V1 J p o) win.toNat (J 111 p - 1) (J 96 o, -1)
    rw [e2] at hv
    have hbr : -1 ≤ (b1 J p o win deep).2 ∧ (b1 J p o win deep).2 < J 111 p := by
      obtain q | q := hv
      · rw [q]; dsimp only; omega
      · omega
    have hz : (b1 J p o win deep).1 = if (b1 J p o win deep).2 < 0 then J 96 o else dlt J o (J 112 (120 * p + (b1 J p o win deep).2)) := by
      obtain q | q := hv
      · rw [q]
        exact (if_pos (show (-1 : Int) < 0 by decide)).symm
      · rw [if_neg (by omega), q.2]
        rfl
    obtain ⟨I1, e, q1, q2⟩ := k59 (h := h) (I := I) (J := J) (a := a) (p := p) (o := o) (b := (b1 J p o win deep).2) (z := (b1 J p o win deep).1) C R.1 K hp ho hbr hz (by omega)
    refine ⟨I1, ?_, q1, q2⟩
    rw [b67_80, if_neg (fun q => q h8), b67_85, b67_91 C.1, h6, e, caln_r, b67_93]
  rw [h80]
  unfold P1
  obtain ⟨t0, _⟩ | ⟨t1, _, _⟩ := id hO
  · rw [if_pos t0, if_neg (fun q => q.1 t0)]
    exact base _ _ rfl rfl
  · have ht : ¬ t = 0 := by omega
    have e4 : gm (C2 J p o) (dlt J o) (I 9) ((b1 J p o win deep).1, -1) (J 94 0).toNat = b2 J (I 9) p o win deep := rfl
    rw [if_neg ht, e4]
    by_cases hc : (b2 J (I 9) p o win deep).2 < 0
    · rw [if_neg (fun q => by have := q.2; omega)]
      have key : ∀ n : Nat, (n : Int) ≤ J 94 0 → gm (C2 J p o) (dlt J o) (I 9) ((b1 J p o win deep).1, -1) n = ((b1 J p o win deep).1, -1) ∨ 0 ≤ (gm (C2 J p o) (dlt J o) (I 9) ((b1 J p o win deep).1, -1) n).2 := by
        intro n
        induction n with
        | zero => intro _; exact Or.inl rfl
        | succ n ih =>
          intro hn
          unfold gm
          by_cases hcc : C2 J p o (I 9 n) (gm (C2 J p o) (dlt J o) (I 9) ((b1 J p o win deep).1, -1) n).1
          · rw [if_pos hcc]
            exact Or.inr (E.1 n (by omega) (by omega)).1
          · rw [if_neg hcc]
            exact ih (by omega)
      have hfst : b2 J (I 9) p o win deep = ((b1 J p o win deep).1, -1) := by
        have := key (J 94 0).toNat (by omega)
        rw [e4] at this
        exact this.resolve_right (by omega)
      rw [hfst]
      exact base _ _ rfl rfl
    · have hg := gm_b (C := C2 J p o) (v := dlt J o) (e := I 9) (s := ((b1 J p o win deep).1, -1)) (J 94 0).toNat
      have hg2 := gm_v (C := C2 J p o) (v := dlt J o) (e := I 9) (s := ((b1 J p o win deep).1, -1)) (J 94 0).toNat
      rw [e4] at hg hg2
      obtain ⟨zz, hzz⟩ : ∃ zz, zz = (b2 J (I 9) p o win deep).2 := ⟨_, rfl⟩
      have hg3 : (b2 J (I 9) p o win deep).1 = dlt J o zz := by
        obtain q | q := hg2
        · rw [q] at hc
          dsimp only at hc
          omega
        · rw [q, hzz]
      obtain ⟨i, hi, ei, bb, cz⟩ := hg.resolve_left (fun q => by rw [q] at hc; dsimp only at hc; omega)
      have hzr := E.1 i hi.1 (by omega)
      rw [← ei, ← hzz] at hzr
      rw [← ei, ← hzz] at cz
      rw [← hzz] at hc ⊢
      rw [hg3]
      have hz3 := hd ht _ cz.1
      have hzo : zz ≠ o := fun q => hz3 (by rw [q]; exact hRo)
      have hb := eo_b (I := J) (p := p) (o := zz) hk.1.1
      have hno2 : eo J p zz < 0 → ∀ k, 0 ≤ k → k < J 111 p → J 112 (120 * p + k) ≠ zz := fun q => eo_no hk.1.1 q
      obtain ⟨I1, e5, q1, q2⟩ := k68 (h := h) (I := I) (J := J) (a := a) (p := p) (z := zz) (v3 := vU) L0 L B R C K hp hzr (fun q => by have := PD_lt K G.2.1 hp hzr (hno2 q); omega)
      rw [if_pos ⟨ht, by omega⟩]
      have tail : ∀ (J1 : Nat → Int → Int) (pl : Int), PC h I1 J1 a p → WB J1 → WK J1 → PD J1 p → J1 94 0 = J 94 0 → J1 96 = J 96 → J1 97 = J 97 → (-1 ≤ pl ∧ pl < J1 111 p) → 0 ≤ pl → J1 112 (120 * p + pl) = zz → (∀ k, 0 ≤ k → k < J1 111 p → J1 112 (120 * p + k) ≠ o) →
          ∃ I2, Go 67 91 [.inr (.inl (some 81)), .inr (.inl (some a)), .inl o, .inr (.inl (some ro)), .inl win, .inl deep, .inl (dlt J o zz), .inl (b1 J p o win deep).2, .inl zz, .inl u9, u10] [.inl pl, .inl o, .inr (.inl (some a))] (mI h I1) = some (mI h I2, .inl none) ∧ (∀ c, c < a ∨ a + 5 < c → I2 c = I1 c) ∧ PC h I2 (en J1 p o pl) a p := by
        intro J1 pl C1' W1 K1 P1' e94 e96 e97 hpl hpl0 epl hn1
        have hm2 := PD_lt K1 P1' hp (by rw [e94]; exact ho) hn1
        have ed : dlt J o zz = dlt J1 o zz := by
          unfold dlt hdI tlI hdI lsI
          rw [e96, e97]
        obtain ⟨I2, e, r1, r2⟩ := k59 (h := h) (I := I1) (J := J1) (a := a) (p := p) (o := o) (b := pl) (z := dlt J o zz) C1' W1 K1 hp (by rw [e94]; exact ho) hpl (by rw [if_neg (by omega), epl, ed]) (by omega)
        exact ⟨I2, by rw [b67_91 C.1, e, caln_r, b67_93], r1, r2⟩
      by_cases h0 : eo J p zz < 0
      · rw [if_pos h0] at e5 q2 ⊢
        have hno := hno2 h0
        have hm3 := PD_lt K G.2.1 hp hzr hno
        obtain ⟨I2, e6, r1, r2⟩ := tail (en J p zz (-1)) (J 111 p) q2 (by rw [WB_e (by rw [en_f (a := 94) (by omega)]) (en_f (by omega)) (en_f (by omega)) (en_f (by omega)) (en_f (by omega))]; exact R.1) (WK_en K hp hzr (by omega) (by omega)) (PD_en G.2.1 hk.1.1 hno) (by rw [en_f (a := 94) (by omega)]) (en_f (by omega)) (en_f (by omega)) (by rw [en_111, up1_eq]; omega) (by omega) (by rw [en_112, up1_eq]) (fun k k0 k1 => by
          rw [en_111, up1_eq] at k1
          rw [en_112]
          by_cases ek : k = J 111 p
          · rw [ek, up1_eq]; exact hzo
          · rw [up1_ne (by omega)]; exact hnot k k0 (by omega))
        refine ⟨I2, ?_, fun c hc => (r1 c hc).trans (q1 c hc), r2⟩
        rw [b67_80, if_pos (by omega), b67_87 L, e5, caln_r, e6]
      · rw [if_neg h0] at e5 q2 ⊢
        obtain ⟨I2, e6, r1, r2⟩ := tail J (eo J p zz) q2 R.1 K G.2.1 rfl rfl rfl ⟨hb.1, hb.2.1⟩ (by omega) (hb.2.2 (by omega)) hnot
        refine ⟨I2, ?_, fun c hc => (r1 c hc).trans (q1 c hc), r2⟩
        rw [b67_80, if_pos (by omega), b67_87 L, e5, caln_r, e6]
