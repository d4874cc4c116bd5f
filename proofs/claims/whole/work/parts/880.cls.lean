/-! ===== the class (11): fill ===== -/
theorem lastP_c {P Q : Int → Prop} : ∀ n : Nat, (∀ k : Int, 0 ≤ k → k < n → (P k ↔ Q k)) → lastP P n = lastP Q n
  | 0, _ => rfl
  | n + 1, h => by
    have ih := lastP_c (P := P) (Q := Q) n (fun k a b => h k a (by omega))
    have e := h n (by omega) (by omega)
    by_cases q : P n
    · rw [show lastP P (n + 1) = n from if_pos q, show lastP Q (n + 1) = n from if_pos (e.mp q)]
    · rw [show lastP P (n + 1) = lastP P n from if_neg q, show lastP Q (n + 1) = lastP Q n from if_neg (fun r => q (e.mpr r)), ih]
/-- the old objects stay as they are -/
def OB (J K : Nat → Int → Int) : Prop := ∀ o, 0 ≤ o → o < J 94 0 → K 96 o = J 96 o ∧ ∀ j, 0 ≤ j → j < 12 → K 97 (12 * o + j) = J 97 (12 * o + j)
theorem dlt_c {J K : Nat → Int → Int} {o b : Int} (W : WB J) (H : OB J K) (ho : 0 ≤ o ∧ o < J 94 0) (hb : 0 ≤ b ∧ b < J 94 0) : dlt K o b = dlt J o b := by
  have e1 := H o ho.1 ho.2
  have e2 := H b hb.1 hb.2
  have l1 := (W.2 o ho.1 ho.2).1
  have l2 := (W.2 b hb.1 hb.2).1
  have el : lsI K o b = lsI J o b := by unfold lsI; rw [e1.1, e2.1]
  have hl : 0 ≤ lsI J o b ∧ lsI J o b ≤ J 96 o ∧ lsI J o b ≤ J 96 b := by
    unfold lsI
    split <;> omega
  have eh : hdI K o b = hdI J o b := by
    unfold hdI
    rw [el]
    refine pf_c _ 0 (fun i i0 i1 => ?_)
    rw [e1.2 i (by omega) (by omega), e2.2 i (by omega) (by omega)]
  have hh := pf_b (p := fun i => J 97 (12 * o + i) = J 97 (12 * b + i)) (lsI J o b).toNat 0
  have hh2 : 0 ≤ hdI J o b ∧ hdI J o b ≤ lsI J o b := by
    unfold hdI
    omega
  have et : tlI K o b = tlI J o b := by
    unfold tlI
    rw [el, eh, e1.1, e2.1]
    refine pf_c _ 0 (fun i i0 i1 => ?_)
    rw [show 12 * o + J 96 o - 1 - i = 12 * o + (J 96 o - 1 - i) by omega, show 12 * b + J 96 b - 1 - i = 12 * b + (J 96 b - 1 - i) by omega, e1.2 _ (by omega) (by omega), e2.2 _ (by omega) (by omega)]
  unfold dlt
  rw [eh, et, e1.1]
/-- the rows of a pack stay -/
def SPk (J K : Nat → Int → Int) (p : Int) : Prop := K 111 p = J 111 p ∧ ∀ k, 0 ≤ k → k < 100 → K 112 (120 * p + k) = J 112 (120 * p + k) ∧ K 113 (120 * p + k) = J 113 (120 * p + k) ∧ K 114 (120 * p + k) = J 114 (120 * p + k)
theorem PC_P {h : HP} {I J K : Nat → Int → Int} {a : Nat} {p : Int} (W : WB J) (V : WK J) (hp : 0 ≤ p ∧ p < 40) (H : OB J K) (S : SPk J K p) (C : PC h I J a p) : PC h I K a p := by
  have hk := V.2 p hp.1 hp.2
  have es : ∀ n : Nat, (n : Int) ≤ J 111 p → szN K p n = szN J p n := by
    intro n
    induction n with
    | zero => intro _; rfl
    | succ n ih =>
      intro hn
      have w := hk.2 n (by omega) (by omega)
      have e := S.2 n (by omega) (by omega)
      show szN K p n + sz1 K p n = szN J p n + sz1 J p n
      rw [ih (by omega)]
      congr 1
      unfold sz1
      rw [e.1, e.2.1, (H _ w.1.1 w.1.2).1]
      by_cases q : J 113 (120 * p + n) < 0
      · rw [if_pos q, if_pos q]
      · have w2 := hk.2 (J 113 (120 * p + n)) (by omega) (by omega)
        rw [if_neg q, if_neg q, (S.2 (J 113 (120 * p + n)) (by omega) (by omega)).1, dlt_c W H w.1 w2.1]
  refine ⟨C.1, C.2.1, ⟨by rw [S.1]; exact C.2.2.1.1, by rw [S.1, es _ (by omega)]; exact C.2.2.1.2⟩, fun k k0 k1 => ?_, fun k k0 k1 => C.2.2.2.2.1 k (by rw [S.1] at k0; exact k0) k1, fun o o0 o1 => ?_⟩
  · rw [S.1] at k1
    have e := S.2 k k0 (by omega)
    have c := C.2.2.2.1 k k0 k1
    refine ⟨⟨by rw [e.1]; exact c.1.1, by rw [e.2.1]; exact c.1.2⟩, ?_, by rw [e.2.2]; exact c.2.2⟩
    rw [c.2.1]
    unfold dpt
    exact dF_c _ k k0 (fun i i0 i1 => ⟨(hk.2 i i0 (by omega)).2.2, (S.2 i i0 (by omega)).2.1.symm⟩)
  · rw [C.2.2.2.2.2 o o0 o1]
    unfold eo
    rw [S.1]
    exact lastP_c _ (fun k k0 k1 => by rw [(S.2 k k0 (by omega)).1])
theorem BC_I {I K J : Nat → Int → Int} (H : ∀ c, c ≤ 9 → K c = I c) : BC K J = BC I J := by
  unfold BC
  rw [H 2 (by decide), H 3 (by decide), H 4 (by decide), H 5 (by decide), H 6 (by decide), H 7 (by decide), H 8 (by decide), H 9 (by decide)]
theorem Gd_c {J K : Nat → Int → Int} {p : Int} (W : WK J) (hp : J 109 p = 0) (h1 : K 101 = J 101) (h3 : K 103 = J 103) (h7 : K 107 = J 107) (h9 : K 109 = J 109) (h8 : K 108 = J 108) (H : OP J K p) {s o : Int} (hs : s = 0 ∨ s = 1) : Gd K s o ↔ Gd J s o := by
  have e : GL K s o ↔ GL J s o := by
    unfold GL BL
    rw [h1, h3, h7]
  unfold Gd
  rw [e, HE_c W hp h9 (fun s hs q a b => by rw [h8]) (fun s hs => by rw [h8]; exact W.1 s hs) H hs]
/-- fill -/
theorem k64 {h : HP} {I M : Nat → Int → Int} {a rp ro : Nat} {p win deep t : Int} {P Of : Int → Prop} {v6 v7 : MV} (L0 : LX 0 h 2) (L : LX 6 h 81) (Lp : hK h rp = (1, 100)) (Lr : hK h ro = (1, 100)) (B : BC I M) (R : RB M) (C : PC h I M a p) (G : PG M p P) (hp : 0 ≤ p ∧ p < 40) (h9 : M 109 p = 0) (hw : 0 ≤ win ∧ win ≤ 100) (h1 : I rp = ind P) (h2 : I ro = ind Of) (n1 : rp ≠ 81 ∧ rp ≠ 82) (n2 : (ro ≠ 81 ∧ ro ≠ 82) ∧ (ro < a ∨ a + 5 < ro)) (hP : ∀ j, P j → 0 ≤ j ∧ j < M 94 0) (hO : OfR M p deep t Of) (hd : t ≠ 0 → ∀ z, M 135 z ≠ 0 → ¬P z) :
    ∃ (f : Int → Int) (I1 : Nat → Int → Int), Enum P (KO M) (cN P (M 94 0).toNat) f ∧ Go 64 0 [.inr (.inl (some 81)), .inr (.inl (some a)), .inr (.inl (some rp)), .inr (.inl (some ro)), .inl win, .inl deep, v6, v7] [] (mI h I) = some (mI h I1, .inl none) ∧ (∀ c, (c < a ∨ a + 5 < c) → c ≠ 81 → c ≠ 82 → I1 c = I c) ∧ (∀ k, k ≠ 2 → I1 81 k = I 81 k) ∧ PC h I1 (PA M (I 9) p win deep t f (cN P (M 94 0).toNat).toNat) a p := by
  have hT := R.1.1
  have ha := C.2.1.1
  have E9 := B.2.2
  obtain ⟨f, w, e0, hE⟩ := k64a (h := h) (I := I) (J := M) (a := a) (rp := rp) (ro := ro) (win := win) (deep := deep) (P := P) (v6 := v6) (v7 := v7) L0 L Lp B R h1 n1 hP
  have hcb := cN_b (P := P) (M 94 0).toNat
  obtain ⟨n, hn⟩ : ∃ n, n = cN P (M 94 0).toNat := ⟨_, rfl⟩
  rw [← hn] at e0 hE hcb ⊢
  obtain ⟨K, hK⟩ : ∃ K, K = rowU (rowU I 82 f) 81 (up1 (I 81) 2 n) := ⟨_, rfl⟩
  have Kn : ∀ c, c ≠ 81 → c ≠ 82 → K c = I c := fun c q r => by rw [hK, rowU_ne q, rowU_ne r]
  have K82 : K 82 = f := by rw [hK, rowU_ne (by decide), rowU_eq]
  have K81 : K 81 = up1 (I 81) 2 n := by rw [hK, rowU_eq]
  rw [← hK] at e0
  have key := lpE (fun k (x : Nat → Int → Int) => Go 64 27 [.inr (.inl (some 81)), .inr (.inl (some a)), .inr (.inl (some rp)), .inr (.inl (some ro)), .inl win, .inl deep, .inl k, w] [] (mI h x))
    (fun k x => (∀ c, (c < a ∨ a + 5 < c) → x c = K c) ∧ PC h x (PA M (I 9) p win deep t f k.toNat) a p ∧ PG (PA M (I 9) p win deep t f k.toNat) p (Lf P f k) ∧ OP M (PA M (I 9) p win deep t f k.toNat) p) 0 n hcb.1 ?_ K ⟨fun c _ => rfl, ?_, ?_, fun q k _ _ _ => ⟨rfl, fun _ _ => ⟨rfl, rfl, rfl⟩⟩⟩
  · obtain ⟨x, e, hx, hC, _⟩ := key
    refine ⟨f, x, hE, ?_, fun c q r s => (hx c q).trans (Kn c r s), fun k hk => ?_, hC⟩
    · have e27 : x 81 2 = n := by rw [hx 81 (by omega), K81, up1_eq]
      rw [e0, e, b64_27 L, e27, if_pos (Int.le_refl _), b64_43]
    · rw [hx 81 (by omega), K81, up1_ne hk]
  · intro k x k0 k1 ⟨hx, hC, hG, hQ⟩
    have hk := hE.1 k k0 k1
    have hfr := hP _ hk
    have e27 : x 81 2 = n := by rw [hx 81 (by omega), K81, up1_eq]
    have e82 : x 82 k = f k := by rw [hx 82 (by omega), K82]
    obtain ⟨Y, hY⟩ : ∃ Y, Y = PA M (I 9) p win deep t f k.toNat := ⟨_, rfl⟩
    have Ye : ∀ b, (b < 111 ∨ 114 < b) → b ≠ 136 → Y b = M b := fun b q r => by rw [hY, PA_f ⟨q, r⟩]
    obtain ⟨Z, hZ⟩ : ∃ Z, Z = zu2 Y 136 (f k) 0 := ⟨_, rfl⟩
    have Ze : ∀ b, b ≠ 136 → Z b = Y b := fun b q => by rw [hZ, zu2_row, rowU_ne q]
    have ZM : ∀ b, (b < 111 ∨ 114 < b) → b ≠ 136 → Z b = M b := fun b q r => (Ze b r).trans (Ye b q r)
    have hs : PA M (I 9) p win deep t f (k + 1).toNat = P1 Z (I 9) p (f k) win deep t := by rw [PA_s k0, hZ, hY]
    rw [← hY] at hC hG hQ
    have KZ : WK Z := by
      rw [WK_e (by rw [Ze 94 (by decide)]) (Ze 108 (by decide)) (Ze 111 (by decide)) (Ze 112 (by decide)) (Ze 113 (by decide))]
      exact hG.1
    have GZ : PG Z p (Lf P f k) := by
      refine ⟨KZ, ?_, ?_⟩
      · unfold PD
        rw [Ze 111 (by decide), Ze 112 (by decide)]
        exact hG.2.1
      · rw [Ze 111 (by decide), Ze 112 (by decide)]
        exact hG.2.2
    have BZ : BC x Z := by
      rw [BC_J (J := M) (by rw [ZM 94 (by decide) (by decide)]) (ZM 95 (by decide) (by decide)) (ZM 96 (by decide) (by decide)) (ZM 97 (by decide) (by decide)) (ZM 98 (by decide) (by decide)), BC_I (I := I) (fun c hc => (hx c (by omega)).trans (Kn c (by omega) (by omega)))]
      exact B
    have RZ : RB Z := by
      rw [RB_J (J := M) (by rw [ZM 94 (by decide) (by decide)]) (ZM 95 (by decide) (by decide)) (ZM 96 (by decide) (by decide)) (ZM 97 (by decide) (by decide)) (ZM 98 (by decide) (by decide))]
      exact R
    have RY : WB Y := by
      rw [WB_e (I := M) (by rw [Ye 94 (by decide) (by decide)]) (Ye 95 (by decide) (by decide)) (Ye 96 (by decide) (by decide)) (Ye 97 (by decide) (by decide)) (Ye 98 (by decide) (by decide))]
      exact R.1
    have CZ : PC h x Z a p := PC_P RY hG.1 hp (fun o _ _ => by rw [Ze 96 (by decide), Ze 97 (by decide)]; exact ⟨rfl, fun _ _ _ => rfl⟩) ⟨by rw [Ze 111 (by decide)], fun k _ _ => by rw [Ze 112 (by decide), Ze 113 (by decide), Ze 114 (by decide)]; exact ⟨rfl, rfl, rfl⟩⟩ hC
    have QZ : OP M Z p := OP_t hQ (fun q k _ _ _ => by rw [Ze 111 (by decide), Ze 112 (by decide), Ze 113 (by decide), Ze 114 (by decide)]; exact ⟨rfl, fun _ _ => ⟨rfl, rfl, rfl⟩⟩)
    have KM : WK M := G.1
    have OZ : OfR Z p deep t Of := by
      unfold OfR
      rw [ZM 94 (by decide) (by decide), ZM 135 (by decide) (by decide)]
      obtain q | ⟨q1, q2, q3⟩ := hO
      · exact Or.inl q
      · refine Or.inr ⟨q1, q2, fun z z0 z1 => ?_⟩
        rw [q3 z z0 z1, Gd_c KM h9 (ZM 101 (by decide) (by decide)) (ZM 103 (by decide) (by decide)) (ZM 107 (by decide) (by decide)) (ZM 109 (by decide) (by decide)) (ZM 108 (by decide) (by decide)) QZ (by omega)]
    have hRo : Lf P f k (f k) := ⟨hk, fun i i0 i1 q => by
      have := hE.2.1 i k i0 i1 k1
      rw [q] at this
      exact (TO_KO (RB_nm R) hP).2.2 _ hk this⟩
    have x9 : x 9 = I 9 := (hx 9 (by omega)).trans (Kn 9 (by decide) (by decide))
    obtain ⟨I1, e, q1, q2⟩ := k67 (h := h) (I := x) (J := Z) (a := a) (ro := ro) (p := p) (o := f k) (win := win) (deep := deep) (t := t) (Of := Of) (Rm := Lf P f k) (v6 := vU) (v7 := vU) (v8 := vU) (v9 := vU) (v10 := vU) L0 L Lr BZ RZ CZ GZ hp (by rw [ZM 94 (by decide) (by decide)]; exact hfr) hRo hw (by rw [hx ro n2.2, Kn ro n2.1.1 n2.1.2, h2]) OZ (fun ht z hz q => hd ht z (by rw [← ZM 135 (by decide) (by decide)]; exact hz) q.1)
    rw [x9] at q2
    refine ⟨I1, ?_, fun c hc => (q1 c hc).trans (hx c hc), by rw [hs]; exact q2, ?_, by rw [hs]; exact OP_t QZ (OP_P1 KZ hp)⟩
    · rw [b64_27 L, e27, if_neg (by omega), b64_31 L (by omega), e82, e, caln_v, b64_41 (by omega)]
    · rw [hs]
      have EZ : EnN Z (I 9) := by
        unfold EnN
        rw [ZM 94 (by decide) (by decide), ZM 98 (by decide) (by decide)]
        exact E9
      have g := PG_P1 (win := win) (deep := deep) (t := t) GZ (by rw [ZM 94 (by decide) (by decide)]; exact hT.2) EZ hp (by rw [ZM 94 (by decide) (by decide)]; exact hfr) hRo (fun ht z hz q => hd ht z (by rw [← ZM 135 (by decide) (by decide)]; exact hz) q.1)
      exact ⟨g.1, g.2.1, fun i i0 i1 q => g.2.2 i i0 i1 ((Lf_s k0 _).mp q)⟩
  · show PC h K M a p
    rw [PC_I (I := I) (a := a) (fun b b0 b1 => Kn b (by omega) (by omega))]
    exact C
  · exact ⟨G.1, G.2.1, fun i i0 i1 q => G.2.2 i i0 i1 ((Lf_0 _).mp q)⟩
