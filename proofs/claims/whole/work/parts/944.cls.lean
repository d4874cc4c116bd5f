/-! ===== the calls (27): version; tag ===== -/
section OPS21
variable {n m : Int} {h h1 : HP} {I I1 J K M D X Y : Nat → Int → Int}
def dW (J : Nat → Int → Int) (g : Int → Int) (k : Int) : Nat → Int → Int := bJ (rowU J 100 g) k
theorem dW_r {g : Int → Int} {k : Int} : dW J g k 94 = up1 (J 94) 5 k ∧ dW J g k 99 = fillR (J 99) 0 12 g ∧ dW J g k 100 = fillR g 0 12 (J 99) ∧ ∀ a, a ≠ 94 → a ≠ 99 → a ≠ 100 → dW J g k a = J a := by
  unfold dW bJ sw
  refine ⟨by rw [rowU_eq, rowU_ne (by decide)], ?_, ?_, fun a h1 h2 h3 => by rw [rowU_ne h1, rowU_ne h3, rowU_ne h2, rowU_ne h3]⟩
  · rw [rowU_ne (by decide), rowU_ne (by decide), rowU_eq, rowU_ne (by decide), rowU_eq]
  · rw [rowU_ne (by decide), rowU_eq, rowU_eq, rowU_ne (by decide)]
theorem dW_d {g : Int → Int} {k : Int} : dV J (dW J g k) := by
  obtain ⟨d4, d9, d0, df⟩ := dW_r (J := J) (g := g) (k := k)
  exact ⟨df, fun j hj => by rw [d4, up1_ne hj]⟩
theorem fill_bk {f g : Int → Int} : fillR (fillR f 0 12 g) 0 12 (fillR g 0 12 f) = f := by
  funext j
  by_cases c : 0 ≤ j ∧ j < 12
  · rw [fillR_in c, fillR_in c]
  · rw [fillR_out c, fillR_out c]
theorem rs_f {d : Int} {a : Nat} (h1 : a ≠ 94) (h2 : a ≠ 99) : rs M d a = M a := by
  unfold rs
  rw [rowU_ne h1, rowU_ne h2]
theorem tB_q {g : Int → Int} {s c k : Int} (j49 : J 94 49 = 0) :
    (eFull J (dW J g k) c → ∃ Z, tB h (rowU J 100 g) s c k = some (mI h Z, .inl (some (.inl 0))) ∧ Z 94 49 = 3 ∧ (∀ a, a < 94 ∨ 132 < a → Z a = J a) ∧ AW (rowU J 100 (dW J g k 100)) Z) ∧
    (¬eFull J (dW J g k) c → ∃ Z, tB h (rowU J 100 g) s c k = some (mI h Z, .inl (some (.inl (eTx J (dW J g k) c 98 (eTo J (dW J g k) c))))) ∧ Z 94 49 = 0 ∧ (∀ a, a < 94 ∨ 132 < a → Z a = J a) ∧ AW (rowU (eTt J (dW J g k) s c) 100 (dW J g k 100)) Z) := by
  obtain ⟨d4, d9, d0, df⟩ := dW_r (J := J) (g := g) (k := k)
  have dd := dW_d (J := J) (g := g) (k := k)
  obtain ⟨D, hD⟩ : ∃ D, D = dW J g k := ⟨_, rfl⟩
  rw [← hD] at d4 d9 d0 df dd ⊢
  have e0 : D 94 0 = J 94 0 := dd.2 0 (by decide)
  have D49 : D 94 49 = 0 := by rw [d4, up1_ne (by decide), j49]
  have V5 : rowU J 100 g 94 5 = J 94 5 := by rw [rowU_ne (by decide)]
  have back : fillR (D 99) 0 12 (D 100) = J 99 := by rw [d9, d0]; exact fill_bk
  have eb : bJ (rowU J 100 g) k = D := by rw [hD]; rfl
  have go : ∀ M P : Nat → Int → Int, (∀ a, a ≠ 94 → a ≠ 99 → a ≠ 100 → a < 133 → M a = P a) → (∀ j, j ≠ 5 → j ≠ 49 → M 94 j = P 94 j) → M 99 = D 99 → M 100 = D 100 → P 99 = J 99 → P 94 5 = J 94 5 → AW (rowU P 100 (D 100)) (rs M (J 94 5)) := fun M P h1 h2 h3 h4 h5 h6 => by
    refine ⟨fun a a0 a1 => ?_, fun j hj => ?_⟩
    · by_cases z9 : a = 99
      · subst z9
        unfold rs
        rw [rowU_ne (by decide), rowU_eq, rowU_ne (by decide), h3, h4, back, h5]
      · rw [rs_f (by omega) z9]
        by_cases z0 : a = 100
        · subst z0; rw [rowU_eq, h4]
        · rw [rowU_ne z0]; exact h1 a (by omega) z9 z0 a1
    · rw [rowU_ne (by decide)]
      unfold rs
      rw [rowU_eq]
      by_cases z5 : j = 5
      · subst z5; rw [up1_eq, h6]
      · rw [up1_ne z5]; exact h2 j z5 hj
  have hi : ∀ M : Nat → Int → Int, (∀ a, a < 94 ∨ 132 < a → M a = J a) → ∀ a, a < 94 ∨ 132 < a → rs M (J 94 5) a = J a := fun M q a ha => by rw [rs_f (by omega) (by omega)]; exact q a ha
  have c49 : ∀ M : Nat → Int → Int, rs M (J 94 5) 94 49 = M 94 49 := fun M => by unfold rs; rw [rowU_eq, up1_ne (by decide)]
  unfold tB
  rw [eb, V5, e0]
  refine ⟨fun f => ?_, fun f => ?_⟩
  · rw [if_pos (show sm D c < 0 ∧ J 94 0 = 100 from f)]
    refine ⟨_, rfl, by rw [c49, tH_49], hi _ (fun a ha => by rw [tH_n (by omega), df a (by omega) (by omega) (by omega)]), go _ J (fun a h1 h2 h3 _ => by rw [tH_n h1, df a h1 h2 h3]) (fun j h5 h49 => by rw [tH_94 h49, dd.2 j h5]) (tH_n (by decide)) (tH_n (by decide)) rfl rfl⟩
  · rw [if_neg (show ¬(sm D c < 0 ∧ J 94 0 = 100) from f)]
    obtain ⟨q1, q2, q3, q4, q5, q6⟩ := tW_q (s := s) (c := c) dd D49
    rw [q6]
    refine ⟨_, rfl, by rw [c49, q2 49 (by decide), eTt_5 (by decide), j49], hi _ (fun a ha => q5 a (by omega)), go _ _ (fun a h1 h2 h3 _ => q1.1 a h1 h2 h3) (fun j h5 _ => q2 j h5) q4.1 q4.2 (eTt_f (by decide)) (eTt_5 (by decide))⟩
theorem RS_100 {g : Int → Int} (E : EV n h I J) : RS h I h I (rowU J 100 g) := by
  have w := (ev_C E).2.1
  refine RS_f E (fun a ha => rowU_ne (by omega)) (by rw [rowU_ne (by decide)]) (by rw [rowU_ne (by decide)]) (fun _ _ => rfl) ?_
  unfold CD at w ⊢
  rw [rowU_ne (by decide), rowU_ne (by decide)]
  exact w
theorem INV_100 {g : Int → Int} (V : INV n J) : INV (n + 1) (rowU J 100 g) := by
  have g8 := (iv_G V).2.2.2.1
  have v8 := iv_8 V
  have wd := iv_D V
  refine INV_s (INV_g V (fun a ha => rowU_ne (by omega)) (by rw [rowU_ne (by decide)]) (Int.le_refl _) ?_ ?_ ?_ ?_)
  · unfold WD at wd ⊢
    rw [rowU_ne (by decide), rowU_ne (by decide)]
    exact wd
  · rw [rowU_ne (by decide)]; omega
  · rw [rowU_ne (by decide)]; exact iv_9 V
  · rw [rowU_ne (by decide)]; exact iv_41 V
theorem fnd_dW {g : Int → Int} {k : Int} : fnd (dW J g k) = fnd J := by
  obtain ⟨d4, d9, d0, df⟩ := dW_r (J := J) (g := g) (k := k)
  funext x
  unfold fnd
  rw [dW_d.2 0 (by decide), df 98 (by decide) (by decide) (by decide)]
/-- a swapped draft is told -/
theorem tell_W {g : Int → Int} {s c k : Int} {A : Nat → Int → Int} {v5 : MV} (E : EV n h I J) (hs : s = 0 ∨ s = 1) (hA : ∀ a, a ≠ 93 → A a = I a) (gA : ∀ j, 0 ≤ j → j < k → A 93 j = g j) (hk : 0 ≤ k ∧ k ≤ 12) (hc : 0 ≤ c ∧ c ≤ 3) (hn : (c = 1 → k % 2 = 0) ∧ (c = 2 → 2 ≤ k ∧ k ≤ 4) ∧ (c = 3 → k = 1)) (gb : ∀ j, 0 ≤ j → j < k → 0 ≤ g j ∧ g j ≤ 9999) (gl : ∀ j, 0 ≤ j → j < k → ((c = 1 ∧ j % 2 = 1) ∨ (c = 2 ∧ j ≠ 1) ∨ (c = 3 ∧ j = 0)) → 0 ≤ fnd J (g j)) (gk : ∀ j, 0 ≤ j → j < k → (c = 1 → j % 2 = 1 → J 95 (fnd J (g j)) < 2) ∧ (c = 2 → j = 0 → J 95 (fnd J (g j)) = 1) ∧ (c = 2 → 2 ≤ j → J 95 (fnd J (g j)) = 2) ∧ (c = 3 → J 95 (fnd J (g j)) = 2)) :
    (eFull J (dW J g k) c → Go 153 0 [.inr (.inl (some 1)), .inr (.inl (some ((sto s)))), .inl c, .inr (.inl (some 93)), .inl k, v5] [] (mI h A) = some (mI (hThr h) A, .inr 2) ∧ RS h I (hThr h) A (rowU J 100 (dW J g k 100)) ∧ INV (n + 1) (rowU J 100 (dW J g k 100))) ∧
    (¬eFull J (dW J g k) c → ∃ I1, Go 153 0 [.inr (.inl (some 1)), .inr (.inl (some ((sto s)))), .inl c, .inr (.inl (some 93)), .inl k, v5] [] (mI h A) = some (mI h I1, .inl (some (.inl (eTx J (dW J g k) c 98 (eTo J (dW J g k) c))))) ∧ RS h I h I1 (rowU (eTt J (dW J g k) s c) 100 (dW J g k 100)) ∧ INV (n + 1) (rowU (eTt J (dW J g k) s c) 100 (dW J g k 100))) := by
  obtain ⟨d4, d9, d0, df⟩ := dW_r (J := J) (g := g) (k := k)
  have dd := dW_d (J := J) (g := g) (k := k)
  have ff := fnd_dW (J := J) (g := g) (k := k)
  have L10 := ly_10 E.1
  obtain ⟨D, hD⟩ : ∃ D, D = dW J g k := ⟨_, rfl⟩
  rw [← hD] at d4 d9 d0 df dd ff ⊢
  have EA : EV n h A J := EV_fr E (fun a _ _ _ _ _ h => hA a h)
  have D5 : D 94 5 = k := by rw [d4, up1_eq]
  have D9 : ∀ j, 0 ≤ j → j < k → D 99 j = g j := fun j j0 j1 => by rw [d9, fillR_in (by omega)]
  have W : WD D := by
    unfold WD
    rw [D5]
    exact ⟨hk, fun j j0 j1 => by rw [D9 j j0 j1]; exact gb j j0 j1⟩
  have N : NB D c := by
    unfold NB
    rw [D5, ff]
    exact ⟨hc, hk, hn, fun j j0 j1 => by rw [D9 j j0 j1]; exact gb j j0 j1, fun j j0 j1 q => by rw [D9 j j0 j1]; exact gl j j0 j1 q⟩
  have B : VB D c := by
    unfold VB
    rw [D5, ff, df 95 (by decide) (by decide) (by decide)]
    intro j j0 j1
    rw [D9 j j0 j1]
    exact gk j j0 j1
  have hE : BE A D 93 := fun j j0 j1 => by
    rw [D5] at j1
    rw [gA j j0 j1, D9 j j0 j1]
  obtain ⟨p1, p2⟩ := k153 (b := 93) (v5 := v5) EA hs dd W N B (LX_k L10 10 false 92 0 12 rfl) (by decide) hE
  rw [D5] at p1 p2
  have hI : ∀ a, 94 ≤ a → a ≤ 139 → A a = I a := fun a a0 _ => hA a (by omega)
  refine ⟨fun f => ⟨p1 f, RS_tr (I0 := A) hI (RS_t (RS_100 EA) (XT_w (XT_r h) (by decide) (by decide))), INV_100 (ev_V EA)⟩, fun f => ?_⟩
  obtain ⟨I1, e1, E1, f1⟩ := p2 f
  exact ⟨I1, e1, RS_tr (I0 := I1) (fun a a0 a1 => by rw [f1 a (by omega) a1]; exact hI a a0 a1) (RS_100 E1), INV_100 (ev_V E1)⟩
-- version
def g4 (b : Int → Int) (f d one oth : Int) : Int → Int := up1 (up1 (up1 (up1 b 0 f) 1 d) 2 one) 3 oth
theorem g4_v {b : Int → Int} {f d one oth : Int} : g4 b f d one oth 0 = f ∧ g4 b f d one oth 1 = d ∧ g4 b f d one oth 2 = one ∧ g4 b f d one oth 3 = oth := by
  unfold g4
  refine ⟨?_, ?_, ?_, up1_eq⟩
  · rw [up1_ne (by decide), up1_ne (by decide), up1_ne (by decide), up1_eq]
  · rw [up1_ne (by decide), up1_ne (by decide), up1_eq]
  · rw [up1_ne (by decide), up1_eq]
def vN (one oth : Int) : Int := if one = -1 then 2 else if oth = -1 then 3 else 4
noncomputable def vD (J : Nat → Int → Int) (f d one oth : Int) : Nat → Int → Int := dW J (g4 (J 100) f d one oth) (vN one oth)
noncomputable def veC (J : Nat → Int → Int) (s f d one oth : Int) : Int := ic (v1 J s f one oth) (ic (v2 J f d one oth) (ic (v3 J s f one oth) (ic (eFull J (vD J f d one oth) 2) 3 0) 3) 2) 1
def vOK (J : Nat → Int → Int) (s f d one oth : Int) : Prop := v1 J s f one oth ∧ v2 J f d one oth ∧ v3 J s f one oth
noncomputable def veK (J : Nat → Int → Int) (s f d one oth : Int) : Nat → Int → Int := iP (vOK J s f d one oth) (rowU (iP (eFull J (vD J f d one oth) 2) J (eTt J (vD J f d one oth) s 2)) 100 (vD J f d one oth 100)) J
theorem v2_c {s f d one oth : Int} (V : INV n J) (c1 : v1 J s f one oth) : v2 J f d one oth ↔ kdO J (fnd J f) = 1 ∧ (0 ≤ d ∧ d ≤ 9999) ∧ (fnd J one = -1 ∨ kdO J (fnd J one) = 2) ∧ (fnd J oth = -1 ∨ kdO J (fnd J oth) = 2) ∧ (fnd J oth = -1 ∨ (fnd J one ≠ -1 ∧ fnd J one ≠ fnd J oth)) := by
  obtain ⟨hs, hf, h1, h2⟩ := c1
  have hT := iv_t V
  have ne : ∀ x, (x = -1 ∨ 0 ≤ fnd J x) → (x = -1 ↔ fnd J x = -1) := fun x hx => ⟨fun q => by rw [q]; exact fnd_n V, fun q => hx.resolve_right (by omega)⟩
  have n1 := ne one h1
  have n2 := ne oth h2
  have kk : ∀ x c, 0 ≤ fnd J x → (kI J x c ↔ kdO J (fnd J x) = c) := fun x c hx => by
    unfold kI
    rw [kdO_t (fr_t V hx)]
    exact ⟨fun q => q.2, fun q => ⟨hx, q⟩⟩
  have inj : ∀ x y, 0 ≤ fnd J x → fnd J x = fnd J y → x = y := fun x y hx e => by
    have a := (fnd_lt (I := J) (x := x) hT.1).2.2 hx
    have b := (fnd_lt (I := J) (x := y) hT.1).2.2 (by omega)
    rw [e] at a
    exact a.symm.trans b
  unfold v2
  constructor
  · rintro ⟨⟨a, b, c, e⟩, g⟩
    refine ⟨(kk f 1 hf).mp a, b, ?_, ?_, ?_⟩
    · by_cases q : one = -1
      · exact Or.inl (n1.mp q)
      · exact Or.inr ((kk one 2 (h1.resolve_left q)).mp (e q).1)
    · by_cases q : oth = -1
      · exact Or.inl (n2.mp q)
      · exact Or.inr ((kk oth 2 (h2.resolve_left q)).mp (g.resolve_left q))
    · by_cases q : oth = -1
      · exact Or.inl (n2.mp q)
      · have q1 : one ≠ -1 := fun r => q (c r)
        exact Or.inr ⟨fun r => q1 (n1.mpr r), fun r => (e q1).2 (inj one oth (h1.resolve_left q1) r)⟩
  · rintro ⟨a, b, c, e, g⟩
    refine ⟨⟨(kk f 1 hf).mpr a, b, fun q => ?_, fun q => ⟨?_, fun r => ?_⟩⟩, ?_⟩
    · exact Classical.byContradiction fun r => (g.resolve_left (fun t => r (n2.mpr t))).1 (n1.mp q)
    · exact (kk one 2 (h1.resolve_left q)).mpr (c.resolve_left (fun t => q (n1.mpr t)))
    · have q2 : oth ≠ -1 := by rw [← r]; exact q
      exact (g.resolve_left (fun t => q2 (n2.mpr t))).2 (by rw [r])
    · by_cases q : oth = -1
      · exact Or.inl q
      · exact Or.inr ((kk oth 2 (h2.resolve_left q)).mpr (e.resolve_left (fun t => q (n2.mpr t))))
theorem vD_W {s f d one oth : Int} {A : Nat → Int → Int} {v5 : MV} (E : EV n h I J) (c1 : v1 J s f one oth) (c2 : v2 J f d one oth) (hA : ∀ a, a ≠ 93 → A a = I a) (gA : A 93 = g4 (I 93) f d one oth) :
    (eFull J (vD J f d one oth) 2 → Go 153 0 [.inr (.inl (some 1)), .inr (.inl (some ((sto s)))), .inl 2, .inr (.inl (some 93)), .inl (vN one oth), v5] [] (mI h A) = some (mI (hThr h) A, .inr 2) ∧ RS h I (hThr h) A (rowU J 100 (vD J f d one oth 100)) ∧ INV (n + 1) (rowU J 100 (vD J f d one oth 100))) ∧
    (¬eFull J (vD J f d one oth) 2 → ∃ I1, Go 153 0 [.inr (.inl (some 1)), .inr (.inl (some ((sto s)))), .inl 2, .inr (.inl (some 93)), .inl (vN one oth), v5] [] (mI h A) = some (mI h I1, .inl (some (.inl (eTx J (vD J f d one oth) 2 98 (eTo J (vD J f d one oth) 2))))) ∧ RS h I h I1 (rowU (eTt J (vD J f d one oth) s 2) 100 (vD J f d one oth 100)) ∧ INV (n + 1) (rowU (eTt J (vD J f d one oth) s 2) 100 (vD J f d one oth 100))) := by
  have V := ev_V E
  have X := iv_X V
  have hT := iv_t V
  obtain ⟨hs, hf, h1, h2⟩ := c1
  obtain ⟨⟨a, b, c, e⟩, g⟩ := c2
  have nb : 2 ≤ vN one oth ∧ vN one oth ≤ 4 := by
    unfold vN
    split
    · omega
    · split <;> omega
  have n2 : 2 < vN one oth → one ≠ -1 := fun q r => by unfold vN at q; rw [if_pos r] at q; omega
  have n3 : 3 < vN one oth → oth ≠ -1 := fun q r => by
    unfold vN at q
    rw [if_neg (n2 (by omega)), if_pos r] at q
    omega
  have v := fun b => g4_v (b := b) (f := f) (d := d) (one := one) (oth := oth)
  have four : ∀ (P : Int → Prop), P 0 → P 1 → (2 < vN one oth → P 2) → (3 < vN one oth → P 3) → ∀ j, 0 ≤ j → j < vN one oth → P j := fun P p0 p1 p2 p3 j j0 j1 => by
    by_cases e0 : j = 0
    · rw [e0]; exact p0
    by_cases e1 : j = 1
    · rw [e1]; exact p1
    by_cases e2 : j = 2
    · rw [e2]; exact p2 (by omega)
    have e3 : j = 3 := by omega
    rw [e3]
    exact p3 (by omega)
  refine tell_W (g := g4 (J 100) f d one oth) (k := vN one oth) (c := 2) E hs hA ?_ (by omega) (by decide) ⟨fun q => absurd q (by decide), fun _ => nb, fun q => absurd q (by decide)⟩ ?_ ?_ ?_
  · rw [gA]
    exact four _ ((v _).1.trans (v _).1.symm) ((v _).2.1.trans (v _).2.1.symm) (fun _ => (v _).2.2.1.trans (v _).2.2.1.symm) (fun _ => (v _).2.2.2.trans (v _).2.2.2.symm)
  · refine four _ ?_ ?_ (fun q => ?_) (fun q => ?_)
    · rw [(v _).1]; exact WX_b X hT.1 hf
    · rw [(v _).2.1]; exact b
    · rw [(v _).2.2.1]; exact WX_b X hT.1 (h1.resolve_left (n2 q))
    · rw [(v _).2.2.2]; exact WX_b X hT.1 (h2.resolve_left (n3 q))
  · refine four _ (fun _ => ?_) (fun q => by omega) (fun q _ => ?_) (fun q _ => ?_)
    · rw [(v _).1]; exact hf
    · rw [(v _).2.2.1]; exact h1.resolve_left (n2 q)
    · rw [(v _).2.2.2]; exact h2.resolve_left (n3 q)
  · refine four _ ⟨fun q => absurd q (by decide), fun _ _ => ?_, fun _ q => by omega, fun q => absurd q (by decide)⟩ ⟨fun q => absurd q (by decide), fun _ q => by omega, fun _ q => by omega, fun q => absurd q (by decide)⟩ (fun q => ⟨fun q => absurd q (by decide), fun _ q => by omega, fun _ _ => ?_, fun q => absurd q (by decide)⟩) (fun q => ⟨fun q => absurd q (by decide), fun _ q => by omega, fun _ _ => ?_, fun q => absurd q (by decide)⟩)
    · rw [(v _).1]; exact a.2
    · rw [(v _).2.2.1]; exact (e (n2 q)).1.2
    · rw [(v _).2.2.2]; exact (g.resolve_left (n3 q)).2
theorem k103 {s f d one oth : Int} {w6 w7 w8 w9 : MV} (E : EV n h I J) : ∃ h1 I1, Go 103 0 [.inr (.inl (some 1)), .inl s, .inl f, .inl d, .inl one, .inl oth, w6, w7, w8, w9] [] (mI h I) = some (mI h1 I1, oc eA (veC J s f d one oth) (eTx J (vD J f d one oth) 2 98 (eTo J (vD J f d one oth) 2))) ∧ RS h I h1 I1 (veK J s f d one oth) ∧ INV (n + 1) (veK J s f d one oth) := by
  have L10 := ly_10 E.1
  have L0 := ly_0 E.1
  have V := ev_V E
  have R := iv_R V
  have T := iv_T V
  have hT := iv_t V
  unfold veC veK
  have no1 : ¬v1 J s f one oth → Go 103 0 [.inr (.inl (some 1)), .inl s, .inl f, .inl d, .inl one, .inl oth, w6, w7, w8, w9] [] (mI h I) = some (mI (hThr h) I, .inr 0) → ∃ h1 I1, Go 103 0 [.inr (.inl (some 1)), .inl s, .inl f, .inl d, .inl one, .inl oth, w6, w7, w8, w9] [] (mI h I) = some (mI h1 I1, oc eA (ic (v1 J s f one oth) (ic (v2 J f d one oth) (ic (v3 J s f one oth) (ic (eFull J (vD J f d one oth) 2) 3 0) 3) 2) 1) (eTx J (vD J f d one oth) 2 98 (eTo J (vD J f d one oth) 2))) ∧ RS h I h1 I1 (iP (vOK J s f d one oth) (rowU (iP (eFull J (vD J f d one oth) 2) J (eTt J (vD J f d one oth) s 2)) 100 (vD J f d one oth 100)) J) ∧ INV (n + 1) (iP (vOK J s f d one oth) (rowU (iP (eFull J (vD J f d one oth) 2) J (eTt J (vD J f d one oth) s 2)) 100 (vD J f d one oth 100)) J) := fun q e => by
    rw [e, ic_f q, iP_f (fun t => q t.1)]
    exact ⟨hThr h, I, rfl, RS_x E, INV_s V⟩
  by_cases hs : s = 0 ∨ s = 1
  rotate_left
  · exact no1 (fun q => hs q.1) (by rw [b103_0 L10, k142x hs, caln_x])
  by_cases hf : 0 ≤ fnd J f
  rotate_left
  · exact no1 (fun q => hf q.2.1) (by rw [b103_0 L10, k142 E.1 hs, caln_r, b103_3 L10, k144x E hf, caln_x])
  by_cases h1 : one = -1 ∨ 0 ≤ fnd J one
  rotate_left
  · exact no1 (fun q => h1 q.2.2.1) (by rw [b103_0 L10, k142 E.1 hs, caln_r, b103_3 L10, k144 E hf, caln_r, b103_7 L10, k145x E h1, caln_x])
  by_cases h2 : oth = -1 ∨ 0 ≤ fnd J oth
  rotate_left
  · exact no1 (fun q => h2 q.2.2.2) (by rw [b103_0 L10, k142 E.1 hs, caln_r, b103_3 L10, k144 E hf, caln_r, b103_7 L10, k145 E h1, caln_r, b103_11 L10, k145x E h2, caln_x])
  have c1 : v1 J s f one oth := ⟨hs, hf, h1, h2⟩
  have st := sto_o (s := s)
  have vc := v2_c (d := d) V c1
  rw [b103_0 L10, k142 E.1 hs, caln_r, b103_3 L10, k144 E hf, caln_r, b103_7 L10, k145 E h1, caln_r, b103_11 L10, k145 E h2, caln_r, b103_15 L10 L0, k3 L0 (ev_B E) R, caln_r, b103_20, ic_t c1]
  obtain ⟨x7, hx7⟩ : ∃ x, x = fnd J f := ⟨_, rfl⟩
  obtain ⟨x8, hx8⟩ : ∃ x, x = fnd J one := ⟨_, rfl⟩
  obtain ⟨x9, hx9⟩ : ∃ x, x = fnd J oth := ⟨_, rfl⟩
  have fl7 := fnd_lt (I := J) (x := f) hT.1
  have fl8 := fnd_lt (I := J) (x := one) hT.1
  have fl9 := fnd_lt (I := J) (x := oth) hT.1
  have m8 : one = -1 ↔ x8 = -1 := ⟨fun q => by rw [hx8, q]; exact fnd_n V, fun q => h1.resolve_right (by rw [← hx8]; omega)⟩
  have m9 : oth = -1 ↔ x9 = -1 := ⟨fun q => by rw [hx9, q]; exact fnd_n V, fun q => h2.resolve_right (by rw [← hx9]; omega)⟩
  rw [← hx7] at hf fl7
  rw [← hx8] at fl8
  rw [← hx9] at fl9
  rw [← hx7, ← hx8, ← hx9] at vc
  rw [← hx7, ← hx8, ← hx9]
  have two : ¬v2 J f d one oth → ∀ ip, ip = 27 ∨ ip = 45 → ∃ h1 I1, Go 103 ip [.inr (.inl (some 1)), .inl s, .inl f, .inl d, .inl one, .inl oth, .inr (.inl (some ((sto s)))), .inl x7, .inl x8, .inl x9] [] (mI h I) = some (mI h1 I1, oc eA (ic (v2 J f d one oth) (ic (v3 J s f one oth) (ic (eFull J (vD J f d one oth) 2) 3 0) 3) 2) (eTx J (vD J f d one oth) 2 98 (eTo J (vD J f d one oth) 2))) ∧ RS h I h1 I1 (iP (vOK J s f d one oth) (rowU (iP (eFull J (vD J f d one oth) 2) J (eTt J (vD J f d one oth) s 2)) 100 (vD J f d one oth 100)) J) ∧ INV (n + 1) (iP (vOK J s f d one oth) (rowU (iP (eFull J (vD J f d one oth) 2) J (eTt J (vD J f d one oth) s 2)) 100 (vD J f d one oth 100)) J) := fun q ip hip => by
    rw [ic_f q, iP_f (fun t => q t.2.1)]
    obtain rfl | rfl := hip
    · exact ⟨hThr h, I, by rw [b103_27]; rfl, RS_x E, INV_s V⟩
    · exact ⟨hThr h, I, by rw [b103_45]; rfl, RS_x E, INV_s V⟩
  by_cases q1 : kdO J x7 = 1
  rotate_left
  · rw [if_pos q1]; exact two (fun t => q1 (vc.mp t).1) 27 (Or.inl rfl)
  rw [if_neg (fun t => t q1), b103_22]
  by_cases q2 : d < 0
  · rw [if_pos q2]; exact two (fun t => by have := (vc.mp t).2.1; omega) 27 (Or.inl rfl)
  rw [if_neg q2, b103_24]
  by_cases q3 : d ≤ 9999
  rotate_left
  · rw [if_neg q3]; exact two (fun t => by have := (vc.mp t).2.1; omega) 27 (Or.inl rfl)
  rw [if_pos q3, b103_28 L10, k149 E, caln_r, b103_31]
  by_cases q4 : x8 = -1 ∨ kdO J x8 = 2
  rotate_left
  · rw [b01_f q4, if_pos rfl]; exact two (fun t => q4 (vc.mp t).2.2.1) 45 (Or.inr rfl)
  rw [b01_t q4, if_neg (by decide), b103_32 L10, k149 E, caln_r, b103_35]
  by_cases q5 : x9 = -1 ∨ kdO J x9 = 2
  rotate_left
  · rw [b01_f q5, if_pos rfl]; exact two (fun t => q5 (vc.mp t).2.2.2.1) 45 (Or.inr rfl)
  rw [b01_t q5, if_neg (by decide), b103_36]
  have thr : v2 J f d one oth → ∃ h1 I1, Go 103 46 [.inr (.inl (some 1)), .inl s, .inl f, .inl d, .inl one, .inl oth, .inr (.inl (some ((sto s)))), .inl x7, .inl x8, .inl x9] [] (mI h I) = some (mI h1 I1, oc eA (ic (v2 J f d one oth) (ic (v3 J s f one oth) (ic (eFull J (vD J f d one oth) 2) 3 0) 3) 2) (eTx J (vD J f d one oth) 2 98 (eTo J (vD J f d one oth) 2))) ∧ RS h I h1 I1 (iP (vOK J s f d one oth) (rowU (iP (eFull J (vD J f d one oth) 2) J (eTt J (vD J f d one oth) s 2)) 100 (vD J f d one oth 100)) J) ∧ INV (n + 1) (iP (vOK J s f d one oth) (rowU (iP (eFull J (vD J f d one oth) 2) J (eTt J (vD J f d one oth) s 2)) 100 (vD J f d one oth 100)) J) := fun c2 => by
    have L8 := ly_8 E.1 st
    have L3 := ly_3 E.1 st
    have DCs := (ev_s E hs).1
    have e3 : v3 J s f one oth ↔ Th J s x7 ∧ (x8 = -1 ∨ Th J s x8) ∧ (x9 = -1 ∨ Th J s x9) := by
      unfold v3
      rw [← hx7, ← hx8, ← hx9, m8, m9]
    rw [ic_t c2]
    have bad : ¬v3 J s f one oth → ∃ h1 I1, Go 103 67 [.inr (.inl (some 1)), .inl s, .inl f, .inl d, .inl one, .inl oth, .inr (.inl (some ((sto s)))), .inl x7, .inl x8, .inl x9] [] (mI h I) = some (mI h1 I1, oc eA (ic (v3 J s f one oth) (ic (eFull J (vD J f d one oth) 2) 3 0) 3) (eTx J (vD J f d one oth) 2 98 (eTo J (vD J f d one oth) 2))) ∧ RS h I h1 I1 (iP (vOK J s f d one oth) (rowU (iP (eFull J (vD J f d one oth) 2) J (eTt J (vD J f d one oth) s 2)) 100 (vD J f d one oth 100)) J) ∧ INV (n + 1) (iP (vOK J s f d one oth) (rowU (iP (eFull J (vD J f d one oth) 2) J (eTt J (vD J f d one oth) s 2)) 100 (vD J f d one oth 100)) J) := fun q => by
      rw [ic_f q, iP_f (fun t => q t.2.2)]
      exact ⟨hThr h, I, by rw [b103_67]; rfl, RS_x E, INV_s V⟩
    have good : v3 J s f one oth → ∃ h1 I1, Go 103 68 [.inr (.inl (some 1)), .inl s, .inl f, .inl d, .inl one, .inl oth, .inr (.inl (some ((sto s)))), .inl x7, .inl x8, .inl x9] [] (mI h I) = some (mI h1 I1, oc eA (ic (v3 J s f one oth) (ic (eFull J (vD J f d one oth) 2) 3 0) 3) (eTx J (vD J f d one oth) 2 98 (eTo J (vD J f d one oth) 2))) ∧ RS h I h1 I1 (iP (vOK J s f d one oth) (rowU (iP (eFull J (vD J f d one oth) 2) J (eTt J (vD J f d one oth) s 2)) 100 (vD J f d one oth 100)) J) ∧ INV (n + 1) (iP (vOK J s f d one oth) (rowU (iP (eFull J (vD J f d one oth) 2) J (eTt J (vD J f d one oth) s 2)) 100 (vD J f d one oth 100)) J) := fun c3 => by
      obtain ⟨A, hA⟩ : ∃ A, A = zu2 (zu2 (zu2 (zu2 I 93 0 f) 93 1 d) 93 2 one) 93 3 oth := ⟨_, rfl⟩
      have fA : ∀ a, a ≠ 93 → A a = I a := fun a ha => by rw [hA, zu2_row, rowU_ne ha, zu2_row, rowU_ne ha, zu2_row, rowU_ne ha, zu2_row, rowU_ne ha]
      have gA : A 93 = g4 (I 93) f d one oth := by
        rw [hA, zu2_row, rowU_eq, zu2_row, rowU_eq, zu2_row, rowU_eq, zu2_row, rowU_eq]
        rfl
      obtain ⟨p1, p2⟩ := vD_W (v5 := vU) E c1 c2 fA gA
      have e104 : Go 103 68 [.inr (.inl (some 1)), .inl s, .inl f, .inl d, .inl one, .inl oth, .inr (.inl (some ((sto s)))), .inl x7, .inl x8, .inl x9] [] (mI h I) = caln 103 [.inr (.inl (some 1)), .inl s, .inl f, .inl d, .inl one, .inl oth, .inr (.inl (some ((sto s)))), .inl x7, .inl x8, .inl x9] [] 105 (Go 153 0 [.inr (.inl (some 1)), .inr (.inl (some ((sto s)))), .inl 2, .inr (.inl (some 93)), .inl (vN one oth), vU] [] (mI h A)) := by
        rw [b103_68 L10, ← hA]
        unfold vN
        by_cases z8 : x8 = -1
        · rw [if_neg (fun q => q z8), b103_96, b103_104 L10, if_pos (m8.mpr z8)]
        · rw [if_pos z8, if_neg (fun q => z8 (m8.mp q)), b103_98]
          by_cases z9 : x9 = -1
          · rw [if_neg (fun q => q z9), b103_101, b103_104 L10, if_pos (m9.mpr z9)]
          · rw [if_pos z9, b103_103, b103_104 L10, if_neg (fun q => z9 (m9.mp q))]
      rw [e104, ic_t c3, iP_t ⟨c1, c2, c3⟩]
      by_cases fu : eFull J (vD J f d one oth) 2
      · obtain ⟨e, r, iv⟩ := p1 fu
        rw [e, caln_x, ic_t fu, iP_t fu]
        exact ⟨hThr h, A, rfl, r, iv⟩
      · obtain ⟨I1, e, r, iv⟩ := p2 fu
        rw [e, caln_r, b103_105, ic_f fu, iP_f fu]
        exact ⟨h, I1, rfl, r, iv⟩
    rw [b103_46 L8 L3, k37 L3 DCs (iv_M V) T.2.2.2.1 T.2.1 hs (by omega), caln_r, b103_50]
    by_cases t7 : Th J s x7
    rotate_left
    · rw [b01_f t7, if_pos rfl]; exact bad (fun q => t7 (e3.mp q).1)
    rw [b01_t t7, if_neg (by decide), b103_51]
    have last : (x8 = -1 ∨ Th J s x8) → ∃ h1 I1, Go 103 59 [.inr (.inl (some 1)), .inl s, .inl f, .inl d, .inl one, .inl oth, .inr (.inl (some ((sto s)))), .inl x7, .inl x8, .inl x9] [] (mI h I) = some (mI h1 I1, oc eA (ic (v3 J s f one oth) (ic (eFull J (vD J f d one oth) 2) 3 0) 3) (eTx J (vD J f d one oth) 2 98 (eTo J (vD J f d one oth) 2))) ∧ RS h I h1 I1 (iP (vOK J s f d one oth) (rowU (iP (eFull J (vD J f d one oth) 2) J (eTt J (vD J f d one oth) s 2)) 100 (vD J f d one oth 100)) J) ∧ INV (n + 1) (iP (vOK J s f d one oth) (rowU (iP (eFull J (vD J f d one oth) 2) J (eTt J (vD J f d one oth) s 2)) 100 (vD J f d one oth 100)) J) := fun t8 => by
      rw [b103_59]
      by_cases z9 : x9 = -1
      · rw [if_pos z9]; exact good (e3.mpr ⟨t7, t8, Or.inl z9⟩)
      · rw [if_neg z9, b103_62 L8 L3, k37 L3 DCs (iv_M V) T.2.2.2.1 T.2.1 hs (by omega), caln_r, b103_66]
        by_cases t9 : Th J s x9
        · rw [b01_t t9, if_pos (by decide)]; exact good (e3.mpr ⟨t7, t8, Or.inr t9⟩)
        · rw [b01_f t9, if_neg (fun q => q rfl)]; exact bad (fun q => (e3.mp q).2.2.elim z9 t9)
    by_cases z8 : x8 = -1
    · rw [if_pos z8]; exact last (Or.inl z8)
    · rw [if_neg z8, b103_54 L8 L3, k37 L3 DCs (iv_M V) T.2.2.2.1 T.2.1 hs (by omega), caln_r, b103_58]
      by_cases t8 : Th J s x8
      · rw [b01_t t8, if_neg (by decide)]; exact last (Or.inr t8)
      · rw [b01_f t8, if_pos rfl]; exact bad (fun q => (e3.mp q).2.1.elim z8 t8)
  by_cases z9 : x9 = -1
  · rw [if_pos z9]; exact thr (vc.mpr ⟨q1, by omega, q4, q5, Or.inl z9⟩)
  rw [if_neg z9, b103_39]
  by_cases z8 : x8 = -1
  · rw [if_pos z8]; exact two (fun t => ((vc.mp t).2.2.2.2.resolve_left z9).1 z8) 45 (Or.inr rfl)
  rw [if_neg z8, b103_42]
  by_cases z : x8 ≠ x9
  · rw [if_pos z]; exact thr (vc.mpr ⟨q1, by omega, q4, q5, Or.inr ⟨z8, z⟩⟩)
  · rw [if_neg z]; exact two (fun t => z ((vc.mp t).2.2.2.2.resolve_left z9).2) 45 (Or.inr rfl)
end OPS21
