/-! ===== the calls (1): a step of both ===== -/
def RS (h : HP) (I : Nat → Int → Int) (h1 : HP) (I1 K : Nat → Int → Int) : Prop := XT h h1 40 4000 ∧ OWN h1 ∧ CPL h1 I1 K ∧ ∀ c, 94 ≤ c → c ≤ 139 → I1 c = I c
def oc (es : Int → Nat) (c v : Int) : OUT := if c = 0 then .inl (some (.inl v)) else .inr (es c)
theorem oc_0 {es : Int → Nat} {v : Int} : oc es 0 v = .inl (some (.inl v)) := rfl
theorem XT_thr (h : HP) : XT h (hThr h) 1 6 := ⟨Nat.le_refl _, fun _ _ => ⟨rfl, fun _ => rfl⟩, Nat.le_refl _, Nat.le_refl _⟩
theorem OWN_thr {h : HP} (O : OWN h) : OWN (hThr h) := O
theorem LYB_thr {h : HP} (Y : LYB h) : LYB (hThr h) := Y
theorem CPL_thr {h : HP} {I J : Nat → Int → Int} (C : CPL h I J) : CPL (hThr h) I J := C
theorem RS_r {n : Int} {h : HP} {I J : Nat → Int → Int} (E : EV n h I J) : RS h I h I J := ⟨XT_w (XT_r h) (by decide) (by decide), E.2.1, E.2.2.1, fun _ _ _ => rfl⟩
theorem RS_t {h h1 : HP} {I I1 K : Nat → Int → Int} (R : RS h I h1 I1 K) (X : XT h h1 39 3990) : RS h I (hThr h1) I1 K := ⟨XT_w (XT_t X (XT_thr h1)) (by decide) (by decide), OWN_thr R.2.1, CPL_thr R.2.2.1, R.2.2.2⟩
theorem RS_x {n : Int} {h : HP} {I J : Nat → Int → Int} (E : EV n h I J) : RS h I (hThr h) I J := RS_t (RS_r E) (XT_w (XT_r h) (by decide) (by decide))
theorem RS_75 {n : Int} {h : HP} {I J : Nat → Int → Int} {P : Int → Prop} (E : EV n h I J) (hP : S1 P) : RS h I h (rowU I 75 (ind P)) J := ⟨XT_w (XT_r h) (by decide) (by decide), E.2.1, (EV_75 E hP).2.2.1, fun c c0 c1 => rowU_ne (by omega)⟩
theorem RS_75x {n : Int} {h : HP} {I J : Nat → Int → Int} {P : Int → Prop} (E : EV n h I J) (hP : S1 P) : RS h I (hThr h) (rowU I 75 (ind P)) J := RS_t (RS_75 E hP) (XT_w (XT_r h) (by decide) (by decide))
theorem INV_s {n : Int} {J : Nat → Int → Int} (V : INV n J) : INV (n + 1) J := by
  obtain ⟨a, b, c, d, e, f, g, i, j, k, l⟩ := V
  exact ⟨a, b, c, d, e, f, g, i, j, ⟨k.1, by have := k.2; omega⟩, fun s hs => by have := l s hs; omega⟩
/-- the class's answer, and then the reference's -/
def STEP (y : Nat) (as : List MV) (yr : Nat) (bs : List MV) (es : Int → Nat) (n : Int) (h : HP) (I : Nat → Int → Int) : Prop :=
  ∃ h1 I1 c v, Go y 0 as [] (mI h I) = some (mI h1 I1, oc es c v) ∧ XT h h1 40 4000 ∧ OWN h1 ∧ (∀ a, 94 ≤ a → a ≤ 139 → I1 a = I a) ∧ (c = 0 ∨ c = 1 ∨ c = 2 ∨ c = 3) ∧
    ∀ h2 I2, LX 11 h2 94 → (∀ a, a ≠ 139 → I2 a = I1 a) → ∃ I3 w, Go yr 0 bs [] (mI h2 I2) = some (mI h2 I3, .inl (some (.inl w))) ∧ I3 94 49 = c ∧ (c = 0 → w = v) ∧ (∀ a, a < 94 ∨ 138 < a → I3 a = I2 a) ∧ CPL h1 I1 I3 ∧ INV (n + 1) I3 ∧ WSc I3
/-- what the reference does -/
def REF (yr : Nat) (bs : List MV) (c v : (Nat → Int → Int) → Int) (K : (Nat → Int → Int) → Nat → Int → Int) (n : Int) : Prop :=
  ∀ h2 I2, LX 11 h2 94 → INV n I2 → WSc I2 → ∀ J, J = tH I2 0 → ∃ I3 w, Go yr 0 bs [] (mI h2 I2) = some (mI h2 I3, .inl (some (.inl w))) ∧ I3 94 49 = c J ∧ (c J = 0 → w = v J) ∧ (∀ a, a < 94 ∨ 138 < a → I3 a = I2 a) ∧ AW (K J) I3 ∧ INV (n + 1) (K J) ∧ WSc I3
def eA (c : Int) : Nat := c.toNat - 1
def eB (c : Int) : Nat := c.toNat
def eC (c : Int) : Nat := if c = 1 then 0 else c.toNat
def eInj (es : Int → Nat) : Prop := ∀ a b : Int, (a = 1 ∨ a = 2 ∨ a = 3) → (b = 1 ∨ b = 2 ∨ b = 3) → es a = es b → a = b
theorem eA_i : eInj eA := fun a b ha hb e => by unfold eA at e; omega
theorem eB_i : eInj eB := fun a b ha hb e => by unfold eB at e; omega
theorem eC_i : eInj eC := fun a b ha hb e => by unfold eC at e; split at e <;> split at e <;> omega
theorem STEP_mk1 {y yr : Nat} {as bs : List MV} {es : Int → Nat} {n : Int} {h : HP} {I : Nat → Int → Int} {c v : (Nat → Int → Int) → Int} {K : (Nat → Int → Int) → Nat → Int → Int} (E : EV n h I I) (S : WSc I) (he : eInj es)
    (hc : ∀ J, c J = 0 ∨ c J = 1 ∨ c J = 2 ∨ c J = 3)
    (K1 : ∀ J, AW I J → EV n h I J → ∃ h1 I1, Go y 0 as [] (mI h I) = some (mI h1 I1, oc es (c J) (v J)) ∧ RS h I h1 I1 (K J)) (F : ∀ h2 I2, AW I I2 → LX 11 h2 94 → INV n I2 → WSc I2 → ∃ J I3 w, AW I2 J ∧ Go yr 0 bs [] (mI h2 I2) = some (mI h2 I3, .inl (some (.inl w))) ∧ I3 94 49 = c J ∧ (c J = 0 → w = v J) ∧ (∀ a, a < 94 ∨ 138 < a → I3 a = I2 a) ∧ AW (K J) I3 ∧ (EV n h I J → INV (n + 1) (K J)) ∧ WSc I3) : STEP y as yr bs es n h I := by
  have T := iv_T E.2.2.2
  have E2 : ∀ J, AW I J → EV n h I J := fun J g => ⟨E.1, E.2.1, CPL_w g T E.2.2.1, by rw [aw_INV g]; exact E.2.2.2⟩
  obtain ⟨h1, I1, e1, R1⟩ := K1 I (AW_r I) E
  -- which answer it is does not depend on the memory
  have cv : ∀ J, AW I J → c J = c I ∧ (c I = 0 → v J = v I) ∧ CPL h1 I1 (K J) := fun J g => by
    obtain ⟨k1, J1, e2, R2⟩ := K1 J g (E2 J g)
    rw [e1] at e2
    have e3 := Option.some.inj e2
    have e4 : oc es (c I) (v I) = oc es (c J) (v J) := congrArg Prod.snd e3
    have e5 : mI h1 I1 = mI k1 J1 := congrArg Prod.fst e3
    have ec : CPL h1 I1 (K J) := by
      have c2 := R2.2.2.1
      have eI : (mI h1 I1).2.2.1 = (mI k1 J1).2.2.1 := by rw [e5]
      have a1 : (mI h1 I1).1 = (mI k1 J1).1 := by rw [e5]
      have a2 : (mI h1 I1).2.1 = (mI k1 J1).2.1 := by rw [e5]
      have a3 : (mI h1 I1).2.2.2 = (mI k1 J1).2.2.2 := by rw [e5]
      change I1 = J1 at eI
      change h1.1 = k1.1 at a1
      change h1.2.1 = k1.2.1 at a2
      change h1.2.2.2 = k1.2.2.2 at a3
      rw [← eI] at c2
      obtain ⟨k11, k12, k13, k14⟩ := k1
      obtain ⟨h11, h12, h13, h14⟩ := h1
      dsimp only at a1 a2 a3
      subst a1 a2 a3
      exact c2
    refine ⟨?_, fun q => ?_, ec⟩
    · unfold oc at e4
      have c1 := hc I
      have c2 := hc J
      by_cases q : c I = 0
      · rw [if_pos q] at e4
        by_cases r : c J = 0
        · rw [q, r]
        · rw [if_neg r] at e4
          cases e4
      · rw [if_neg q] at e4
        by_cases r : c J = 0
        · rw [if_pos r] at e4
          cases e4
        · rw [if_neg r] at e4
          exact (he (c I) (c J) (by omega) (by omega) (Sum.inr.inj e4)).symm
    · unfold oc at e4
      rw [if_pos q] at e4
      by_cases r : c J = 0
      · rw [if_pos r] at e4
        have := Sum.inl.inj e4
        exact (Sum.inl.inj (Option.some.inj this)).symm
      · rw [if_neg r] at e4
        cases e4
  refine ⟨h1, I1, c I, v I, e1, R1.1, R1.2.1, R1.2.2.2, hc I, fun h2 I2 L2 hI2 => ?_⟩
  have g2 : AW I I2 := AW_c (fun a a0 a1 => by rw [hI2 a (by omega), R1.2.2.2 a a0 (by omega)])
  have S2 : WSc I2 := fun a a0 a1 => by
    rw [hI2 a (by omega), R1.2.2.2 a (by omega) (by omega)]
    exact S a a0 a1
  obtain ⟨J, I3, w, gJ2, e3, e49, ew, f3, g3, V3, S3⟩ := F h2 I2 g2 L2 (by rw [aw_INV g2]; exact E.2.2.2) S2
  have gJ : AW I J := AW_tr g2 gJ2
  obtain ⟨c1, c2, c3⟩ := cv J gJ
  have V4 := V3 (E2 J gJ)
  exact ⟨I3, w, e3, by rw [e49, c1], fun q => by rw [ew (by rw [c1, q]), c2 q], f3, CPL_w g3 (iv_T V4) c3, by rw [aw_INV g3]; exact V4, S3⟩
theorem STEP_mk {y yr : Nat} {as bs : List MV} {es : Int → Nat} {n : Int} {h : HP} {I : Nat → Int → Int} {c v : (Nat → Int → Int) → Int} {K : (Nat → Int → Int) → Nat → Int → Int} (E : EV n h I I) (S : WSc I) (he : eInj es)
    (hc : ∀ J, c J = 0 ∨ c J = 1 ∨ c J = 2 ∨ c J = 3)
    (K1 : ∀ J, EV n h I J → ∃ h1 I1, Go y 0 as [] (mI h I) = some (mI h1 I1, oc es (c J) (v J)) ∧ RS h I h1 I1 (K J)) (F : REF yr bs c v K n) : STEP y as yr bs es n h I :=
  STEP_mk1 (c := c) (v := v) (K := K) E S he hc (fun J _ E => K1 J E) (fun h2 I2 _ L V S => by
    obtain ⟨I3, w, a1, a2, a3, a4, a5, a6, a7⟩ := F h2 I2 L V S (tH I2 0) rfl
    exact ⟨tH I2 0, I3, w, AW_t (AW_r I2), a1, a2, a3, a4, a5, fun _ => a6, a7⟩)
/-- what the reference does, the deeds' bookkeeping apart -/
def REFX (yr : Nat) (bs : List MV) (c v : (Nat → Int → Int) → Int) (K : (Nat → Int → Int) → Nat → Int → Int) (n : Int) (X : (Nat → Int → Int) → Prop) : Prop :=
  ∀ h2 I2, LX 11 h2 94 → INV n I2 → WSc I2 → ∃ J I3 w, AW I2 J ∧ Go yr 0 bs [] (mI h2 I2) = some (mI h2 I3, .inl (some (.inl w))) ∧ I3 94 49 = c J ∧ (c J = 0 → w = v J) ∧ (∀ a, a < 94 ∨ 138 < a → I3 a = I2 a) ∧ AW (K J) I3 ∧ (X (K J) → INV (n + 1) (K J)) ∧ WSc I3
theorem STEP_mkx {y yr : Nat} {as bs : List MV} {es : Int → Nat} {n : Int} {h : HP} {I : Nat → Int → Int} {c v : (Nat → Int → Int) → Int} {K : (Nat → Int → Int) → Nat → Int → Int} {X : (Nat → Int → Int) → Prop} (E : EV n h I I) (S : WSc I) (he : eInj es)
    (hc : ∀ J, c J = 0 ∨ c J = 1 ∨ c J = 2 ∨ c J = 3)
    (K1 : ∀ J, EV n h I J → ∃ h1 I1, Go y 0 as [] (mI h I) = some (mI h1 I1, oc es (c J) (v J)) ∧ RS h I h1 I1 (K J) ∧ X (K J)) (F : REFX yr bs c v K n X) : STEP y as yr bs es n h I :=
  STEP_mk1 (c := c) (v := v) (K := K) E S he hc (fun J _ E => by
    obtain ⟨h1, I1, e, r, _⟩ := K1 J E
    exact ⟨h1, I1, e, r⟩) (fun h2 I2 _ L V S => by
    obtain ⟨J, I3, w, g, a1, a2, a3, a4, a5, a6, a7⟩ := F h2 I2 L V S
    refine ⟨J, I3, w, g, a1, a2, a3, a4, a5, fun E2 => ?_, a7⟩
    obtain ⟨_, _, _, _, x⟩ := K1 J E2
    exact a6 x)
/-! the reference's answers in the usual form -/
theorem aw_tJ (I : Nat → Int → Int) (x : Int) : AW (tH I 0) (tH I x) := ⟨fun a h _ => by rw [tH_n (by omega), tH_n (by omega)], fun k hk => by rw [tH_94 hk, tH_94 hk]⟩
theorem WSc_133 {I : Nat → Int → Int} {P : Int → Prop} (S : WSc I) (hP : S3 P) : WSc (rowU I 133 (ind P)) := fun a a0 a1 => by
  by_cases c : a = 133
  · subst c
    exact ⟨P, hP, rowU_eq⟩
  · rw [rowU_ne c]
    exact S a a0 a1
noncomputable def ic (p : Prop) (x y : Int) : Int := @ite Int p (Classical.propDecidable p) x y
theorem ic_t {p : Prop} {x y : Int} (h : p) : ic p x y = x := if_pos h
theorem ic_f {p : Prop} {x y : Int} (h : ¬p) : ic p x y = y := if_neg h
/-- a query: nothing changes but the working row of what is reached -/
theorem REF_aq {yr : Nat} {bs : List MV} {p : (Nat → Int → Int) → Prop} {v : (Nat → Int → Int) → Int} {n : Int} (g : ∀ I J, AW I J → p J = p I ∧ v J = v I)
    (F : ∀ h2 I2, LX 11 h2 94 → INV n I2 → WSc I2 → Go yr 0 bs [] (mI h2 I2) = aq h2 (p I2) (tH I2 0) (v I2) I2 1) : REF yr bs (fun J => ic (p J) 0 1) v (fun J => J) n := by
  intro h2 I2 L V S J hJ
  subst hJ
  dsimp only
  obtain ⟨gp, gv⟩ := g I2 (tH I2 0) (AW_t (AW_r I2))
  rw [F h2 I2 L V S]
  by_cases c : p I2
  · rw [aq_t c]
    exact ⟨tH I2 0, v I2, rfl, by rw [tH_49, gp, ic_t c], fun _ => gv.symm, fun a ha => tH_n (by omega), AW_r _, INV_s (by rw [aw_INV (AW_t (AW_r I2))]; exact V), WSc_t S⟩
  · rw [aq_f c]
    exact ⟨tH I2 1, 0, rfl, by rw [tH_49, gp, ic_f c], (fun q => by rw [gp, ic_f c] at q; cases q), fun a ha => tH_n (by omega), aw_tJ I2 1, INV_s (by rw [aw_INV (AW_t (AW_r I2))]; exact V), WSc_t S⟩
theorem REF_aq3 {yr : Nat} {bs : List MV} {p : (Nat → Int → Int) → Prop} {v : (Nat → Int → Int) → Int} {x : (Nat → Int → Int) → Int → Prop} {n : Int} (g : ∀ I J, AW I J → p J = p I ∧ v J = v I)
    (F : ∀ h2 I2, LX 11 h2 94 → INV n I2 → WSc I2 → Go yr 0 bs [] (mI h2 I2) = aq h2 (p I2) (rowU (tH I2 0) 133 (ind (x I2))) (v I2) I2 1) (hx : ∀ I2, INV n I2 → p I2 → S3 (x I2)) : REF yr bs (fun J => ic (p J) 0 1) v (fun J => J) n := by
  intro h2 I2 L V S J hJ
  subst hJ
  dsimp only
  obtain ⟨gp, gv⟩ := g I2 (tH I2 0) (AW_t (AW_r I2))
  rw [F h2 I2 L V S]
  by_cases c : p I2
  · rw [aq_t c]
    exact ⟨rowU (tH I2 0) 133 (ind (x I2)), v I2, rfl, by rw [rowU_ne (by decide), tH_49, gp, ic_t c], fun _ => gv.symm, fun a ha => by rw [rowU_ne (by omega)]; exact tH_n (by omega), AW_U (AW_r _) (Or.inl (by decide)), INV_s (by rw [aw_INV (AW_t (AW_r I2))]; exact V), WSc_133 (WSc_t S) (hx I2 V c)⟩
  · rw [aq_f c]
    exact ⟨tH I2 1, 0, rfl, by rw [tH_49, gp, ic_f c], (fun q => by rw [gp, ic_f c] at q; cases q), fun a ha => tH_n (by omega), aw_tJ I2 1, INV_s (by rw [aw_INV (AW_t (AW_r I2))]; exact V), WSc_t S⟩
theorem ic_01 {p : Prop} : ic p 0 1 = 0 ∨ ic p 0 1 = 1 ∨ ic p 0 1 = 2 ∨ ic p 0 1 = 3 := by
  unfold ic
  split <;> omega
