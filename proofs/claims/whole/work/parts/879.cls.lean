/-! ===== the class (10): filling a pack ===== -/
theorem BC_J {I J K : Nat → Int → Int} (h0 : K 94 0 = J 94 0) (h5 : K 95 = J 95) (h6 : K 96 = J 96) (h7 : K 97 = J 97) (h8 : K 98 = J 98) : BC I K = BC I J := by
  have e1 : nL K = nL J := by unfold nL; rw [h5, h6]
  have e2 : lkR K = lkR J := by
    unfold lkR lkP atR fnd
    rw [h5, h7, h8, h0]
  unfold BC EnN
  rw [h0, h5, h6, h7, h8, e1, e2]
theorem RB_J {J K : Nat → Int → Int} (h0 : K 94 0 = J 94 0) (h5 : K 95 = J 95) (h6 : K 96 = J 96) (h7 : K 97 = J 97) (h8 : K 98 = J 98) : RB K = RB J := by
  have e1 : so K = so J := by unfold so; rw [h5, h6, h7]
  unfold RB WNm
  rw [WB_e h0 h5 h6 h7 h8, h0, h7, h8, e1]
theorem KO_a {J : Nat → Int → Int} {x y : Int} (h : J 98 y < J 98 x) : KO J x y ↔ (J 95 x < J 95 y ∨ (J 95 x = J 95 y ∧ J 96 y < J 96 x)) := by
  unfold KO
  omega
theorem k65 {h : HP} {I J : Nat → Int → Int} {S : Int → Prop} {x n : Int} {v2 : MV} (L0 : LX 0 h 2) (L : LX 6 h 81) (B : BC I J) (R : RB J) (hx : 0 ≤ x ∧ x < J 94 0) (hS : ∀ j, S j → (0 ≤ j ∧ j < J 94 0) ∧ J 98 j < J 98 x) (h2 : I 81 2 = n) (hn : 0 ≤ n ∧ n < 100) (E : Enum S (KO J) n (I 82)) :
    ∃ f, Go 65 0 [.inr (.inl (some 81)), .inl x, v2] [] (mI h I) = some (mI h (rowU (rowU I 82 f) 81 (up1 (I 81) 2 (n + 1))), .inl none) ∧ Enum (fun j => S j ∨ j = x) (KO J) (n + 1) f := by
  have tO : TO (fun j => S j ∨ j = x) (KO J) := TO_KO (RB_nm R) (fun j q => q.elim (fun q => (hS j q).1) (fun q => by rw [q]; exact hx))
  have BU : ∀ f : Int → Int, BC (rowU I 82 f) J := fun f => by rw [BC_U (by decide)]; exact B
  have ins := lpIns (fun p g => Go 65 3 [.inr (.inl (some 81)), .inl x, .inl p] [] (mI h (rowU I 82 g))) (fun g => some (mI h (rowU (rowU I 82 g) 81 (up1 (I 81) 2 (n + 1))), .inl none)) (fun y => KO J x y) (I 82) x n hn.1 ?_ ?_
  · obtain ⟨p, hp, q1, q2, e⟩ := ins
    rw [rowU_id] at e
    refine ⟨up1 (shR (I 82) p n) p x, ?_, insE tO E (fun q => Int.lt_irrefl _ (hS x q).2) hp q1 q2⟩
    rw [b65_0 L, h2, e]
  · intro p g p0 p1 eg _ hc
    have hs := hS _ (E.1 (p - 1) (by omega) (by omega))
    rw [b65_3, if_neg (by omega), b65_5 L (by omega) (by omega), rowU_eq, eg, k66 L0 L (BU g) R hx hs.1, caln_r, b65_14, b01_t ((KO_a hs.2).mp hc), if_neg neg1_ne, b65_15 L (by omega) (by omega) (by omega) (by omega), zu2_row, rowU_tw, rowU_eq, eg, show p + -1 = p - 1 by omega]
  · intro p g p0 p1 hg hc
    have fin : Go 65 27 [.inr (.inl (some 81)), .inl x, .inl p] [] (mI h (rowU I 82 g)) = some (mI h (rowU (rowU I 82 (up1 g p x)) 81 (up1 (I 81) 2 (n + 1))), .inl none) := by
      have e1 : zu2 (rowU I 82 g) 82 p x = rowU I 82 (up1 g p x) := by rw [zu2_row, rowU_tw, rowU_eq]
      have e2 : rowU I 82 (up1 g p x) 81 = I 81 := rowU_ne (by decide)
      rw [b65_27 L (by omega) (by rw [e1, e2]; omega), e1, zu2_row, e2, h2]
    rw [b65_3]
    by_cases hp0 : p ≤ 0
    · rw [if_pos hp0, fin]
    · have eg := hg (p - 1) (by omega)
      have hs := hS _ (E.1 (p - 1) (by omega) (by omega))
      rw [if_neg hp0, b65_5 L (by omega) (by omega), rowU_eq, eg, k66 L0 L (BU g) R hx hs.1, caln_r, b65_14, b01_f (fun q => (hc.resolve_left (by omega)) ((KO_a hs.2).mpr q)), if_pos rfl, fin]
theorem k64a {h : HP} {I J : Nat → Int → Int} {a rp ro : Nat} {win deep : Int} {P : Int → Prop} {v6 v7 : MV} (L0 : LX 0 h 2) (L : LX 6 h 81) (Lp : hK h rp = (1, 100)) (B : BC I J) (R : RB J) (hp : I rp = ind P) (hr : rp ≠ 81 ∧ rp ≠ 82) (hP : ∀ j, P j → 0 ≤ j ∧ j < J 94 0) :
    ∃ (f : Int → Int) (w : MV), Go 64 0 [.inr (.inl (some 81)), .inr (.inl (some a)), .inr (.inl (some rp)), .inr (.inl (some ro)), .inl win, .inl deep, v6, v7] [] (mI h I) = Go 64 27 [.inr (.inl (some 81)), .inr (.inl (some a)), .inr (.inl (some rp)), .inr (.inl (some ro)), .inl win, .inl deep, .inl 0, w] [] (mI h (rowU (rowU I 82 f) 81 (up1 (I 81) 2 (cN P (J 94 0).toNat)))) ∧ Enum P (KO J) (cN P (J 94 0).toNat) f := by
  have hT := R.1.1
  have E9 := B.2.2
  have X := RB_x R
  have start : zu2 I 81 2 0 = rowU (rowU I 82 (I 82)) 81 (up1 (I 81) 2 0) := by rw [rowU_id, zu2_row]
  have key := lpE (fun k (x : (Int → Int) × Int × MV) => Go 64 5 [.inr (.inl (some 81)), .inr (.inl (some a)), .inr (.inl (some rp)), .inr (.inl (some ro)), .inl win, .inl deep, .inl k, x.2.2] [] (mI h (rowU (rowU I 82 x.1) 81 (up1 (I 81) 2 x.2.1))))
    (fun k x => (0 ≤ x.2.1 ∧ x.2.1 ≤ k) ∧ Enum (fun j => P j ∧ ∃ i, (0 ≤ i ∧ i < k) ∧ I 9 i = j) (KO J) x.2.1 x.1) 0 (J 94 0) hT.1 ?_ (I 82, 0, v7) ⟨by dsimp only; omega, fun i a b => by dsimp only at b; omega, fun i j a b c => by dsimp only at c; omega, fun x ⟨_, i, hi, _⟩ => by omega⟩
  · obtain ⟨⟨f, n, w⟩, e, hn, hE⟩ := key
    dsimp only at e hn hE
    have hE2 : Enum P (KO J) n f := Enum_c hE (fun j => ⟨And.left, fun q => ⟨q, E9.2.2 j (hP j q)⟩⟩) (fun _ _ _ _ => Iff.rfl) (fun _ _ _ => rfl)
    obtain ⟨g, hg⟩ := Enum_ex (TO_KO (RB_nm R) hP) hP hT.1
    have hu := (Enum_u (TO_KO (RB_nm R) hP) hE2 hg hn.1 (cN_b _).1).1
    subst hu
    refine ⟨f, w, ?_, hE2⟩
    have e27 : rowU (rowU I 82 f) 81 (up1 (I 81) 2 (cN P (J 94 0).toNat)) 2 7 = J 94 0 := by rw [rowU_ne (by decide), rowU_ne (by decide), B.1]
    rw [b64_0 L, start, e, b64_5 L L0, e27, if_pos (Int.le_refl _), b64_25]
  · rintro k ⟨f, n, w⟩ k0 k1 ⟨hn, hE⟩
    dsimp only at hn hE ⊢
    have hek := E9.1 k k0 k1
    obtain ⟨K, hK⟩ : ∃ K, K = rowU (rowU I 82 f) 81 (up1 (I 81) 2 n) := ⟨_, rfl⟩
    have BK : BC K J := by rw [hK, BC_U (by decide), BC_U (by decide)]; exact B
    have K9 : K 9 = I 9 := by rw [hK, rowU_ne (by decide), rowU_ne (by decide)]
    have Krp : K rp = ind P := by rw [hK, rowU_ne hr.1, rowU_ne hr.2, hp]
    have K82 : K 82 = f := by rw [hK, rowU_ne (by decide), rowU_eq]
    have K81 : K 81 = up1 (I 81) 2 n := by rw [hK, rowU_eq]
    have h20 : Go 64 5 [.inr (.inl (some 81)), .inr (.inl (some a)), .inr (.inl (some rp)), .inr (.inl (some ro)), .inl win, .inl deep, .inl k, w] [] (mI h K) = if b01 (P (I 9 k)) = 0 then Go 64 23 [.inr (.inl (some 81)), .inr (.inl (some a)), .inr (.inl (some rp)), .inr (.inl (some ro)), .inl win, .inl deep, .inl k, .inl (I 9 k)] [] (mI h K) else Go 64 20 [.inr (.inl (some 81)), .inr (.inl (some a)), .inr (.inl (some rp)), .inr (.inl (some ro)), .inl win, .inl deep, .inl k, .inl (I 9 k)] [] (mI h K) := by
      rw [b64_5 L L0, BK.1, if_neg (by omega), b64_10 L L0 (by omega) Lp (by rw [K9]; omega), K9, Krp]
      rfl
    rw [← hK, h20]
    by_cases q : P (I 9 k)
    · have hS : ∀ j, (P j ∧ ∃ i, (0 ≤ i ∧ i < k) ∧ I 9 i = j) → (0 ≤ j ∧ j < J 94 0) ∧ J 98 j < J 98 (I 9 k) := by
        rintro j ⟨hj, i, hi, ei⟩
        refine ⟨hP j hj, ?_⟩
        have := E9.2.1 i k hi.1 hi.2 k1
        rw [ei] at this
        exact this
      obtain ⟨f1, e, hE1⟩ := k65 (h := h) (I := K) (J := J) (S := fun j => P j ∧ ∃ i, (0 ≤ i ∧ i < k) ∧ I 9 i = j) (x := I 9 k) (n := n) (v2 := vU) L0 L BK R hek hS (by rw [K81, up1_eq]) (by omega) (by rw [K82]; exact hE)
      refine ⟨(f1, n + 1, .inl (I 9 k)), ?_, by dsimp only; omega, Enum_c hE1 (fun j => ⟨?_, ?_⟩) (fun _ _ _ _ => Iff.rfl) (fun _ _ _ => rfl)⟩
      · rw [b01_t q, if_neg neg1_ne, b64_20 L, e, caln_v, b64_23 (by omega), K81, hK, rowU_cm (a := 81) (b := 82) (by decide), rowU_tw, rowU_tw]
        rw [show up1 (up1 (I 81) 2 n) 2 (n + 1) = up1 (I 81) 2 (n + 1) from funext fun j => by
          by_cases hj : j = 2
          · subst hj; rw [up1_eq, up1_eq]
          · rw [up1_ne hj, up1_ne hj, up1_ne hj]]
      · rintro (⟨hj, i, hi, ei⟩ | hj)
        · exact ⟨hj, i, by omega, ei⟩
        · exact ⟨by rw [hj]; exact q, k, by omega, hj.symm⟩
      · rintro ⟨hj, i, hi, ei⟩
        by_cases hik : i = k
        · subst hik; exact Or.inr ei.symm
        · exact Or.inl ⟨hj, i, by omega, ei⟩
    · refine ⟨(f, n, .inl (I 9 k)), ?_, by dsimp only; omega, Enum_c hE (fun j => ⟨?_, ?_⟩) (fun _ _ _ _ => Iff.rfl) (fun _ _ _ => rfl)⟩
      · rw [b01_f q, if_pos rfl, b64_23 (by omega), hK]
      · rintro ⟨hj, i, hi, ei⟩
        exact ⟨hj, i, by omega, ei⟩
      · rintro ⟨hj, i, hi, ei⟩
        by_cases hik : i = k
        · subst hik; exact absurd (by rw [ei]; exact hj) q
        · exact ⟨hj, i, by omega, ei⟩
theorem GE_c {J K : Nat → Int → Int} {p : Int} : ∀ (n : Nat) (e : Int), e < n → 0 ≤ e → (∀ i, 0 ≤ i → i ≤ e → K 113 (120 * p + i) = J 113 (120 * p + i) ∧ J 113 (120 * p + i) < i ∧ K 114 (120 * p + i) = J 114 (120 * p + i)) → (GE K p e ↔ GE J p e)
  | 0, e, h, h0, _ => by omega
  | n + 1, e, h, h0, hw => by
    have w := hw e h0 (Int.le_refl _)
    rw [GE_e (I := K), GE_e (I := J), w.1, w.2.2]
    refine and_congr_right (fun _ => ⟨fun q r => (GE_c n _ (by omega) r (fun i a b => hw i a (by omega))).mp (q r), fun q r => (GE_c n _ (by omega) r (fun i a b => hw i a (by omega))).mpr (q r)⟩)
/-- a pack that is not there does not count -/
theorem HE_c {J K : Nat → Int → Int} {p : Int} (W : WK J) (hp : J 109 p = 0) (h9 : K 109 = J 109) (h8 : ∀ s, s = 0 ∨ s = 1 → ∀ q, 20 * s ≤ q → q ≠ p → (q < 20 * s + K 108 s ↔ q < 20 * s + J 108 s)) (h8b : ∀ s, s = 0 ∨ s = 1 → 0 ≤ K 108 s ∧ K 108 s ≤ 20)
    (h : ∀ q k, 0 ≤ q → q < 40 → q ≠ p → K 111 q = J 111 q ∧ (0 ≤ k → k < 100 → K 112 (120 * q + k) = J 112 (120 * q + k) ∧ K 113 (120 * q + k) = J 113 (120 * q + k) ∧ K 114 (120 * q + k) = J 114 (120 * q + k))) {s o g : Int} (hs : s = 0 ∨ s = 1) : HE K s o g ↔ HE J s o g := by
  have hm := W.1 s hs
  have hm2 := h8b s hs
  constructor
  · rintro ⟨q, k, a, b, c, d, e, f, i⟩
    rw [h9] at c
    have hqp : q ≠ p := fun r => c (by rw [r]; exact hp)
    have e1 := (h q k (by omega) (by omega) hqp).1
    rw [e1] at e
    have wk := W.2 q (by omega) (by omega)
    have e2 := (h q k (by omega) (by omega) hqp).2 d (by omega)
    refine ⟨q, k, a, (h8 s hs q a hqp).mp b, c, d, e, by rw [← e2.1]; exact f, fun r => ?_⟩
    exact (GE_c (k + 1).toNat k (by omega) d (fun j j0 j1 => by
      have e3 := (h q j (by omega) (by omega) hqp).2 j0 (by omega)
      exact ⟨e3.2.1, (wk.2 j j0 (by omega)).2.2, e3.2.2⟩)).mp (i r)
  · rintro ⟨q, k, a, b, c, d, e, f, i⟩
    have hqp : q ≠ p := fun r => c (by rw [r]; exact hp)
    have e1 := (h q k (by omega) (by omega) hqp).1
    have wk := W.2 q (by omega) (by omega)
    have e2 := (h q k (by omega) (by omega) hqp).2 d (by omega)
    refine ⟨q, k, a, (h8 s hs q a hqp).mpr b, by rw [h9]; exact c, d, by rw [e1]; exact e, by rw [e2.1]; exact f, fun r => ?_⟩
    exact (GE_c (k + 1).toNat k (by omega) d (fun j j0 j1 => by
      have e3 := (h q j (by omega) (by omega) hqp).2 j0 (by omega)
      exact ⟨e3.2.1, (wk.2 j j0 (by omega)).2.2, e3.2.2⟩)).mpr (i r)
/-- rows of other packs stay -/
def OP (J K : Nat → Int → Int) (p : Int) : Prop := ∀ q k, 0 ≤ q → q < 40 → q ≠ p → K 111 q = J 111 q ∧ (0 ≤ k → k < 100 → K 112 (120 * q + k) = J 112 (120 * q + k) ∧ K 113 (120 * q + k) = J 113 (120 * q + k) ∧ K 114 (120 * q + k) = J 114 (120 * q + k))
theorem OP_en {J : Nat → Int → Int} {p o b : Int} (hp : 0 ≤ p) (hm : 0 ≤ J 111 p ∧ J 111 p < 120) : OP J (en J p o b) p := by
  intro q k q0 q1 qp
  rw [en_111, en_112, en_113, en_114, up1_ne qp]
  exact ⟨rfl, fun k0 k1 => ⟨up1_ne (by omega), up1_ne (by omega), up1_ne (by omega)⟩⟩
theorem OP_t {J K M : Nat → Int → Int} {p : Int} (h1 : OP J K p) (h2 : OP K M p) : OP J M p := fun q k q0 q1 qp => ⟨((h2 q k q0 q1 qp).1).trans (h1 q k q0 q1 qp).1, fun k0 k1 => by
  have a := (h1 q k q0 q1 qp).2 k0 k1
  have b := (h2 q k q0 q1 qp).2 k0 k1
  exact ⟨b.1.trans a.1, b.2.1.trans a.2.1, b.2.2.trans a.2.2⟩⟩
theorem OP_P1 {J : Nat → Int → Int} {e : Int → Int} {p o win deep t : Int} (K : WK J) (hp : 0 ≤ p ∧ p < 40) : OP J (P1 J e p o win deep t) p := by
  have h0 := (K.2 p hp.1 hp.2).1
  unfold P1
  split
  · split
    · exact OP_t (OP_en hp.1 (by omega)) (OP_en hp.1 (by rw [en_111, up1_eq]; omega))
    · exact OP_en hp.1 (by omega)
  · exact OP_en hp.1 (by omega)
