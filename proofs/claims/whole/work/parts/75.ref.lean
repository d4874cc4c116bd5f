/-! ===== the reference's methods (26): packsAll ===== -/
def pkM (J : Nat → Int → Int) (s : Int) : Nat → Int → Int := rowU (rowU J 108 (up1 (J 108) s (J 108 s + 1))) 111 (up1 (J 111) (20 * s + J 108 s) 0)
noncomputable def pkX (J : Nat → Int → Int) (en_ e : Int → Int) (s win deep t : Int) : Nat → Int → Int := PA (pkM J s) en_ (20 * s + J 108 s) win deep t e (cN (fun z => J 136 z ≠ 0) (J 94 0).toNat).toNat
noncomputable def pkF (J : Nat → Int → Int) (en_ e : Int → Int) (s win deep t : Int) : Nat → Int → Int :=
  rowU (dO (pkX J en_ e s win deep t) s 1 (20 * s + J 108 s)) 109 (up1 (J 109) (20 * s + J 108 s) 1)
theorem r246 {h : HP} {J : Nat → Int → Int} {en_ : Int → Int} {s win deep t : Int} {P : Int → Prop} {v5 v6 v7 : MV} (L : LX 11 h 94) (W : WT J) (D : NmD J) (X : WX J) (E : EnN J en_) (hs : s = 0 ∨ s = 1) (hw : 0 ≤ win ∧ win ≤ 100) (ht : t = 0 ∨ t = 1) (hm : J 108 s < 20)
    (hP : J 136 = ind P) (hPr : ∀ j, P j → 0 ≤ j ∧ j < J 94 0) (hd : t ≠ 0 → ∀ z, J 135 z ≠ 0 → ¬P z) :
    ∃ e, Enum P (KO J) (cN P (J 94 0).toNat) e ∧ PG (pkX J en_ e s win deep t) (20 * s + J 108 s) (fun _ => False) ∧ (pkX J en_ e s win deep t 136 = ind (fun _ => False)) ∧ Go 246 0 [.inr (.inl (some 94)), .inl s, .inl win, .inl deep, .inl t, v5, v6, v7] [] (mI h J) = some (mI h (pkF J en_ e s win deep t), .inl (some (.inl (J 108 s)))) := by
  have hT := W.1.1
  have htt := WB_t W.1
  have K := W.2.2.2.1
  have hms := K.1 s hs
  obtain ⟨p, hp⟩ : ∃ p, p = 20 * s + J 108 s := ⟨_, rfl⟩
  have hpr : 0 ≤ p ∧ p < 40 := by omega
  have hcn : cN (fun z => J 136 z ≠ 0) (J 94 0).toNat = cN P (J 94 0).toNat := cN_c _ (fun k _ _ => by rw [hP, ne_eq, ind_at, Classical.not_not])
  have tk : TO P (KO J) := TO_KO D hPr
  obtain ⟨M0, hM0⟩ : ∃ M0, M0 = pkM J s := ⟨_, rfl⟩
  have M0e : ∀ a, a ≠ 108 → a ≠ 111 → M0 a = J a := fun a q r => by
    rw [hM0]
    unfold pkM
    rw [rowU_ne r, rowU_ne q]
  have M108 : M0 108 = up1 (J 108) s (J 108 s + 1) := by
    rw [hM0]
    unfold pkM
    rw [rowU_ne (by decide), rowU_eq]
  have M111 : M0 111 = up1 (J 111) p 0 := by
    rw [hM0, hp]
    unfold pkM
    rw [rowU_eq]
  have KM : WK M0 := by
    refine ⟨fun u hu => ?_, fun q q0 q1 => ?_⟩
    · have := K.1 u hu
      rw [M108]
      by_cases e : u = s
      · subst e; rw [up1_eq]; omega
      · rw [up1_ne e]; exact this
    · have hq := K.2 q q0 q1
      rw [M111, M0e 112 (by decide) (by decide), M0e 113 (by decide) (by decide), M0e 94 (by decide) (by decide)]
      by_cases e : q = p
      · subst e; rw [up1_eq]; exact ⟨by omega, fun k k0 k1 => by omega⟩
      · rw [up1_ne e]; exact hq
  have G0 : PG M0 p P := ⟨KM, fun i j a b c => by rw [M111, up1_eq] at c; omega, fun k a b => by rw [M111, up1_eq] at b; omega⟩
  have PAe : ∀ e n a, (a < 108 ∨ (108 < a ∧ a < 111) ∨ 114 < a) → a ≠ 136 → PA M0 en_ p win deep t e n a = J a := fun e n a q r => by rw [PA_f ⟨by omega, r⟩, M0e a (by omega) (by omega)]
  have z136 : ∀ (e : Int → Int) (n : Nat) (y : Int) (Rm : Int → Prop), PA M0 en_ p win deep t e n 136 = ind Rm → zu2 (PA M0 en_ p win deep t e n) 136 y 0 136 = ind (fun j => Rm j ∧ j ≠ y) := fun e n y Rm q => by rw [zu2_row, rowU_eq, q, up1_ind0]
  have start : Go 246 0 [.inr (.inl (some 94)), .inl s, .inl win, .inl deep, .inl t, v5, v6, v7] [] (mI h J) = Go 246 24 [.inr (.inl (some 94)), .inl s, .inl win, .inl deep, .inl t, .inl p, .inl 0, v7] [] (mI h M0) := by
    rw [b246_0 (by omega) L (by omega) (by omega) (by omega) (by omega), ← hp]
    congr 2
    rw [hM0]
    unfold pkM
    rw [zu2_row, zu2_row, rowU_ne (b := 111) (by decide), hp]
  have inner : ∀ (Rm : Int → Prop) (e : Int → Int) (n : Nat) (z : Int) (w : MV) (y : Int), (∀ j, Rm j → P j) → PA M0 en_ p win deep t e n 136 = ind Rm → 0 ≤ z → MinB Rm (KO J) (J 94 0) y →
      ∃ w1 : Int, Go 246 24 [.inr (.inl (some 94)), .inl s, .inl win, .inl deep, .inl t, .inl p, .inl z, w] [] (mI h (PA M0 en_ p win deep t e n)) = Go 246 52 [.inr (.inl (some 94)), .inl s, .inl win, .inl deep, .inl t, .inl p, .inl y, .inl w1] [] (mI h (PA M0 en_ p win deep t e n)) := by
    intro Rm e n z w y hR h136 hz hy
    have tR := TO_s tk hR
    have e95 := PAe e n 95 (by decide) (by decide)
    have e96 := PAe e n 96 (by decide) (by decide)
    have e98 := PAe e n 98 (by decide) (by decide)
    have e94 := PAe e n 94 (by decide) (by decide)
    have hKO : KO (PA M0 en_ p win deep t e n) = KO J := by
      unfold KO
      rw [e95, e96, e98]
    generalize PA M0 en_ p win deep t e n = Y at *
    have key := lpE (fun k (l : Int) => Go 246 30 [.inr (.inl (some 94)), .inl s, .inl win, .inl deep, .inl t, .inl p, .inl l, .inl k] [] (mI h Y)) (fun k l => MinB Rm (KO J) k l) 0 (J 94 0) htt.1 ?_ (-1) MinB_0
    · obtain ⟨l, e1, hl⟩ := key
      have := MinB_u tR hl hy
      subst this
      refine ⟨J 94 0, ?_⟩
      rw [b246_24, if_neg (by omega), b246_26, e1, b246_30 L, e94, if_pos (Int.le_refl _)]
    · intro k l k0 k1 hl
      have hll : -1 ≤ l ∧ l < k := by
        obtain ⟨q, _⟩ | ⟨q, _⟩ := hl
        · omega
        · omega
      rw [b246_30 L, e94, if_neg (by omega), b246_34 L (by omega), h136]
      by_cases q1 : Rm k
      · rw [if_neg (by rw [ind_at]; exact fun q => q q1), b246_39]
        by_cases q2 : l < 0
        · refine ⟨k, ?_, MinB_y tR k0 hl q1 (Or.inl q2)⟩
          rw [if_pos q2, b246_46, b246_49 (by omega)]
        · rw [if_neg q2, b246_41 L, r247 L (by omega) (by omega), caln_r, hKO, b246_45]
          by_cases q3 : KO J k l
          · refine ⟨k, ?_, MinB_y tR k0 hl q1 (Or.inr q3)⟩
            rw [b01_t q3, if_neg neg1_ne, b246_46, b246_49 (by omega)]
          · refine ⟨l, ?_, MinB_n tR hl (fun _ => ⟨by omega, q3⟩)⟩
            rw [b01_f q3, if_pos rfl, b246_48, b246_49 (by omega)]
      · refine ⟨l, ?_, MinB_n tR hl (fun q => absurd q q1)⟩
        rw [if_pos (by rw [ind_at]; exact q1), b246_48, b246_49 (by omega)]
  have sel := lpSel P (KO J) (J 94 0) tk hPr htt.1 (fun Rm e c (x : Int × MV) => Go 246 24 [.inr (.inl (some 94)), .inl s, .inl win, .inl deep, .inl t, .inl p, .inl x.1, x.2] [] (mI h (PA M0 en_ p win deep t e c.toNat)))
    (fun Rm e c x => 0 ≤ x.1 ∧ PA M0 en_ p win deep t e c.toNat 136 = ind Rm ∧ PG (PA M0 en_ p win deep t e c.toNat) p Rm) ?_ (fun _ => 0) (0, v7) ⟨Int.le_refl _, (M0e 136 (by decide) (by decide)).trans hP, G0⟩
  · obtain ⟨e, ⟨z, w⟩, e1, hE, hz, h136, hG⟩ := sel
    dsimp only at e1 hz h136 hG
    have hpk : pkX J en_ e s win deep t = PA M0 en_ p win deep t e (cN P (J 94 0).toNat).toNat := by
      unfold pkX
      rw [hcn, ← hM0, ← hp]
    obtain ⟨w1, e2⟩ := inner (fun _ => False) e (cN P (J 94 0).toNat).toNat z w (-1) (fun j q => q.elim) h136 hz (Or.inl ⟨rfl, fun k _ _ q => q⟩)
    refine ⟨e, hE, by rw [hpk, ← hp]; exact hG, by rw [hpk]; exact h136, ?_⟩
    have X94 := PAe e (cN P (J 94 0).toNat).toNat 94 (by decide) (by decide)
    have X109 := PAe e (cN P (J 94 0).toNat).toNat 109 (by decide) (by decide)
    have X101 := PAe e (cN P (J 94 0).toNat).toNat 101 (by decide) (by decide)
    have X103 := PAe e (cN P (J 94 0).toNat).toNat 103 (by decide) (by decide)
    have X104 := PAe e (cN P (J 94 0).toNat).toNat 104 (by decide) (by decide)
    have X107 := PAe e (cN P (J 94 0).toNat).toNat 107 (by decide) (by decide)
    have X118 := PAe e (cN P (J 94 0).toNat).toNat 118 (by decide) (by decide)
    unfold pkF
    rw [hpk, ← hp]
    have e1 : Go 246 24 [.inr (.inl (some 94)), .inl s, .inl win, .inl deep, .inl t, .inl p, .inl 0, v7] [] (mI h M0) = Go 246 24 [.inr (.inl (some 94)), .inl s, .inl win, .inl deep, .inl t, .inl p, .inl z, w] [] (mI h (PA M0 en_ p win deep t e (cN P (J 94 0).toNat).toNat)) := e1
    rw [start, e1, e2, b246_52, if_pos (by decide), b246_24, if_pos (by decide)]
    have hdd := W.2.2.2.2.2.1 s hs
    have hdj := dJ_104 (I := PA M0 en_ p win deep t e (cN P (J 94 0).toNat).toNat) (s := s) (by rw [X104]; exact hdd)
    generalize PA M0 en_ p win deep t e (cN P (J 94 0).toNat).toNat = Y at *
    have EY : WL Y := by
      unfold WL
      rw [X101, X103, X107]
      exact W.2.1
    have NY : WN Y := fun j => by rw [X118]; exact W.2.2.1 j
    have d109 : dO Y s 1 p 109 = J 109 := by rw [dO_f (by decide), X109]
    rw [b246_67 L, r186 L (by rw [X94]; exact htt) EY NY (by rw [X109]; exact W.2.2.2.2.1) hs (by rw [X104]; exact hdd), caln_r, b246_72 L hpr, if_pos hdj.1, b246_82 hpr.1, b246_85, zu2_row, d109, show p % 20 = J 108 s by omega]
  · rintro Rm e c ⟨z, w⟩ y hR hc hcc ⟨hz, h136, hG⟩ hy h0
    dsimp only at hz h136 hG ⊢
    obtain ⟨w1, e2⟩ := inner Rm e c.toNat z w y hR h136 hz hy
    obtain ⟨q, _⟩ | ⟨q1, _⟩ := hy
    · omega
    have hcon : PA M0 en_ p win deep t (up1 e c y) (c + 1).toNat = P1 (zu2 (PA M0 en_ p win deep t e c.toNat) 136 y 0) en_ p y win deep t := by
      rw [PA_s hc, up1_eq, PA_c c.toNat (fun i a b => up1_ne (by omega))]
    have hz136 := z136 e c.toNat y Rm h136
    have X94 := PAe e c.toNat 94 (by decide) (by decide)
    have X95 := PAe e c.toNat 95 (by decide) (by decide)
    have X96 := PAe e c.toNat 96 (by decide) (by decide)
    have X97 := PAe e c.toNat 97 (by decide) (by decide)
    have X98 := PAe e c.toNat 98 (by decide) (by decide)
    have X101 := PAe e c.toNat 101 (by decide) (by decide)
    have X103 := PAe e c.toNat 103 (by decide) (by decide)
    have X107 := PAe e c.toNat 107 (by decide) (by decide)
    have X135 := PAe e c.toNat 135 (by decide) (by decide)
    have Ze : ∀ a, a ≠ 136 → zu2 (PA M0 en_ p win deep t e c.toNat) 136 y 0 a = PA M0 en_ p win deep t e c.toNat a := fun a q => by rw [zu2_row, rowU_ne q]
    have GZ : PG (zu2 (PA M0 en_ p win deep t e c.toNat) 136 y 0) p Rm := by
      refine ⟨?_, ?_, ?_⟩
      · rw [WK_e (Ze 94 (by decide) ▸ rfl) (Ze 108 (by decide)) (Ze 111 (by decide)) (Ze 112 (by decide)) (Ze 113 (by decide))]
        exact hG.1
      · unfold PD
        rw [Ze 111 (by decide), Ze 112 (by decide)]
        exact hG.2.1
      · rw [Ze 111 (by decide), Ze 112 (by decide)]
        exact hG.2.2
    obtain ⟨Y, hY⟩ : ∃ Y, Y = zu2 (PA M0 en_ p win deep t e c.toNat) 136 y 0 := ⟨_, rfl⟩
    rw [← hY] at hcon hz136 Ze GZ
    have Y94 : Y 94 = J 94 := by rw [Ze _ (by decide), X94]
    have Y95 : Y 95 = J 95 := by rw [Ze _ (by decide), X95]
    have Y96 : Y 96 = J 96 := by rw [Ze _ (by decide), X96]
    have Y97 : Y 97 = J 97 := by rw [Ze _ (by decide), X97]
    have Y98 : Y 98 = J 98 := by rw [Ze _ (by decide), X98]
    have Y135 : Y 135 = J 135 := by rw [Ze _ (by decide), X135]
    have WY : WB Y := by rw [WB_e (by rw [Y94]) Y95 Y96 Y97 Y98]; exact W.1
    have EY : WL Y := by
      unfold WL
      rw [Ze 101 (by decide), Ze 103 (by decide), Ze 107 (by decide), X101, X103, X107]
      exact W.2.1
    have DY : NmD Y := by
      unfold NmD
      rw [Y94, Y98]
      exact D
    have XY : WX Y := by
      unfold WX
      rw [Y94, Y98]
      exact X
    have EnY : EnN Y en_ := by
      unfold EnN
      rw [Y94, Y98]
      exact E
    refine ⟨(y, .inl w1), ?_, h0, ?_, ?_⟩
    · rw [e2, b246_52, if_neg (by omega), b246_54 L (by omega), ← hY, r245 L WY GZ.1 EY DY XY EnY hpr (by rw [Y94]; exact hPr y (hR y q1.2.2)) hw ht, caln_v, b246_66, hcon]
    · rw [hcon, P1_f (by decide), hz136]
    · rw [hcon]
      exact PG_P1 GZ (by rw [Y94]; omega) EnY hpr (by rw [Y94]; exact hPr y (hR y q1.2.2)) q1.2.2 (fun q z hz => by rw [Y135] at hz; exact fun r => hd q z hz (hR z r))
