/-! ===== the law (1): the script stays; what a call needs ===== -/
def KP (L : Int) (h h1 : HP) : Prop := hK h 0 = (6, L) ∧ 0 < hN h → (hK h1 0 = (6, L) ∧ 0 < hN h1) ∧ hI h1 0 = hI h 0
theorem KP.rf {L : Int} {h : HP} : KP L h h := fun q => ⟨q, rfl⟩
theorem KP.tr {L : Int} {h h1 h2 : HP} (a : KP L h h1) (b : KP L h1 h2) : KP L h h2 := fun q => ⟨(b (a q).1).1, (b (a q).1).2.trans (a q).2⟩
theorem KP_new {L : Int} {h : HP} {t s : Nat} {n : Int} : KP L h (hNew h t n s) := fun q => by
  have ne : (0 : Nat) ≠ hN h := by have := q.2; omega
  refine ⟨⟨?_, ?_⟩, ?_⟩
  · rw [hK_nw, if_neg ne]; exact q.1
  · rw [hN_nw]; omega
  · show zup (hI h) (hN h) (fun _ => 0) 0 = hI h 0
    unfold zup
    rw [if_neg ne]
theorem KP_opq {L : Int} {h : HP} : KP L h (hOpq h) := fun q => by
  have ne : (0 : Nat) ≠ hN h := by have := q.2; omega
  refine ⟨⟨?_, ?_⟩, rfl⟩
  · show zup (hK h) (hN h) (5, 0) 0 = _
    unfold zup
    rw [if_neg ne]
    exact q.1
  · show 0 < hN h + 1
    omega
theorem KP_si {L : Int} {h : HP} {i : Nat} {k x : Int} (ht : (hK h i).1 ≠ 6) : KP L h (hSI h i k x) := fun q => by
  have ne : (0 : Nat) ≠ i := fun e => by
    rw [← e, q.1] at ht
    exact ht rfl
  refine ⟨q, ?_⟩
  funext j
  show (if 0 = i ∧ j = k then x else hI h 0 j) = hI h 0 j
  rw [if_neg (fun e => ne e.1)]
theorem KP_sr {L : Int} {h : HP} {i : Nat} {k : Int} {r : Option Nat} : KP L h (hSR h i k r) := fun q => ⟨q, rfl⟩
theorem KP_thr {L : Int} {h : HP} : KP L h (hThr h) := fun q => ⟨q, rfl⟩
theorem zs3_k {L : Int} {op b c ip ip1 : Nat} {ls ls1 st st1 : List MV} {h h1 : HP} (hz : zs3 op b c ip ls h st = some (.inl (ip1, ls1, st1, h1))) : KP L h h1 := by
  unfold zs3 zgo at hz
  split at hz <;> (try split at hz) <;> simp at hz <;> (obtain ⟨-, -, -, rfl⟩ := hz) <;> first | exact KP.rf | exact KP_new | exact KP_sr | (rename_i hc; exact KP_si (by omega))
theorem zs4_k {L : Int} {y op b : Nat} {st : List MV} {h h1 : HP} {o : OUT} (hz : zs4 y op b h st = some (.inr (h1, o))) : KP L h h1 := by
  unfold zs4 zout at hz
  split at hz <;> (try split at hz) <;> simp at hz <;> (obtain ⟨rfl, -⟩ := hz) <;> first | exact KP.rf | exact KP_thr
theorem ex_k {L : Int} : ∀ (n y ip : Nat) (ls st : List MV) (h hf : HP) (o : OUT), ex n y ip ls st h = some (hf, o) → KP L h hf := by
  intro n
  induction n with
  | zero => intro y ip ls st h hf o hz; simp [ex] at hz
  | succ n ih =>
    intro y ip ls st h hf o hz
    unfold ex at hz
    split at hz
    · cases hz
    · split at hz
      · split at hz
        · split at hz
          · cases hz
          · rename_i h1 hq
            exact (ih _ _ _ _ _ _ _ hq).tr (ih _ _ _ _ _ _ _ hz)
          · rename_i h1 r hq
            exact (ih _ _ _ _ _ _ _ hq).tr (ih _ _ _ _ _ _ _ hz)
          · rename_i h1 e hq
            have a := ih _ _ _ _ _ _ _ hq
            split at hz
            · split at hz
              · cases hz
                exact a
              · cases hz
            · have b := ih _ _ _ _ _ _ _ hz
              exact a.tr (KP_opq.tr b)
        · cases hz
      · split at hz
        · cases hz
        · rename_i ip1 ls1 st1 h1 hq
          have a : KP L h h1 := by
            obtain ⟨-, (⟨-, q⟩ | ⟨-, q⟩ | ⟨-, q⟩ | ⟨-, q⟩)⟩ := zstep_l hq
            · rw [zs1_h q]; exact KP.rf
            · rw [zs2_h q]; exact KP.rf
            · exact zs3_k q
            · rw [zs5_h q]; exact KP.rf
          exact a.tr (ih _ _ _ _ _ _ _ hz)
        · rename_i r hq
          cases hz
          exact zs4_k (zstep_r hq).2.2
theorem Go_k {L : Int} {y ip : Nat} {ls st : List MV} {h hf : HP} {o : OUT} (e : Go y ip ls st h = some (hf, o)) : KP L h hf := by
  obtain ⟨n, hn⟩ := Go_ex e
  exact ex_k _ _ _ _ _ _ _ _ hn
theorem cal_h {y pc ip e t : Nat} {ls rest : List MV} {h1 : HP} (hz : zhand y pc e = some t) : cal y pc ls rest ip (some (h1, .inr e)) = Go y t ls [.inr (.inl (some (hN h1)))] (hOpq h1) := by
  unfold cal
  dsimp only
  rw [hz]
theorem cal_r {y pc ip : Nat} {ls rest : List MV} {h1 : HP} {r : MV} : cal y pc ls rest ip (some (h1, .inl (some r))) = Go y ip ls (r :: rest) h1 := rfl
/-- which answers a call may give -/
def CBD (y : Nat) (as : List MV) (es : Int → Nat) (h : HP) (I : Nat → Int → Int) (m : Int) : Prop := ∃ q c v, Go y 0 as [] (mI h I) = some (q, oc es c v) ∧ 0 ≤ c ∧ c ≤ m
theorem oc_inj {es : Int → Nat} {c d v w : Int} (he : eInj es) (hc : 0 ≤ c ∧ c ≤ 3) (hd : 0 ≤ d ∧ d ≤ 3) (e : oc es c v = oc es d w) : c = d ∧ (c = 0 → v = w) := by
  unfold oc at e
  by_cases q : c = 0
  · rw [if_pos q] at e
    by_cases r : d = 0
    · rw [if_pos r] at e
      have := Sum.inl.inj e
      exact ⟨by rw [q, r], fun _ => Sum.inl.inj (Option.some.inj this)⟩
    · rw [if_neg r] at e
      cases e
  · rw [if_neg q] at e
    by_cases r : d = 0
    · rw [if_pos r] at e
      cases e
    · rw [if_neg r] at e
      exact ⟨he c d (by omega) (by omega) (Sum.inr.inj e), fun t => absurd t q⟩
theorem CBD_c {y : Nat} {as : List MV} {es : Int → Nat} {h : HP} {I : Nat → Int → Int} {m c v : Int} {q : HP} (B : CBD y as es h I m) (hm : m ≤ 3) (he : eInj es) (e : Go y 0 as [] (mI h I) = some (q, oc es c v)) (hc : c = 0 ∨ c = 1 ∨ c = 2 ∨ c = 3) : c ≤ m := by
  obtain ⟨q2, d, w, e2, d0, d1⟩ := B
  rw [e] at e2
  have e3 := congrArg Prod.snd (Option.some.inj e2)
  have := (oc_inj he (by omega) (by omega) e3).1
  omega
theorem ic_m {p : Prop} {x y m : Int} (hx : 0 ≤ x ∧ x ≤ m) (hy : 0 ≤ y ∧ y ≤ m) : 0 ≤ ic p x y ∧ ic p x y ≤ m := by
  unfold ic
  split
  · exact hx
  · exact hy
/-- what the law's helper answers -/
def wv (b : Bool) (v : Int) : Int := if b = true then (if v = 0 then 0 else 1) else v
def WRP (b : Bool) (z : Nat) (as : List MV) (es : Int → Nat) (h : HP) (I : Nat → Int → Int) (G : Option (HP × OUT)) : Prop := ∀ h1 I1 c v, Go z 0 as [] (mI h I) = some (mI h1 I1, oc es c v) → (c = 0 ∨ c = 1 ∨ c = 2 ∨ c = 3) → hK h1 139 = (2, 1) → ∃ h2 I2, G = some (mI h2 I2, .inl (some (.inl c))) ∧ (h2 = h1 ∨ h2 = hOpq h1) ∧ (∀ a, a ≠ 139 → I2 a = I1 a) ∧ (c = 0 → I2 139 0 = wv b v)
theorem XT_opq (h : HP) : XT h (hOpq h) 0 0 := by
  refine ⟨Nat.le_succ _, fun a ha => ⟨?_, fun _ => rfl⟩, Nat.le_refl _, Nat.le_refl _⟩
  show zup (hK h) (hN h) (5, 0) a = hK h a
  unfold zup
  rw [if_neg (by omega)]
theorem CPL_o {h h2 : HP} {I K : Nat → Int → Int} (O : OWN h) (o : h2 = h ∨ h2 = hOpq h) (C : CPL h I K) : CPL h2 I K := by
  obtain rfl | rfl := o
  · exact C
  have n140 := O.1
  have cs : ∀ s, s = 0 ∨ s = 1 → CS (hOpq h) I K (sto s) s := fun s hs => by
    have st := sto_o (s := s)
    have Cs := CPL_s C hs
    exact ⟨DC_kp O (XT_opq h) (by omega) (fun _ => rfl) (fun _ => rfl) (fun _ _ _ => rfl) (fun _ _ _ _ _ _ => rfl) (fun _ _ _ _ _ _ => rfl) Cs.1, Cs.2⟩
  exact ⟨C.1, C.2.1, ⟨cs 0 (Or.inl rfl), cs 1 (Or.inr rfl)⟩, C.2.2.2⟩
theorem OWN_o {h h2 : HP} (O : OWN h) (o : h2 = h ∨ h2 = hOpq h) : OWN h2 := by
  obtain rfl | rfl := o
  · exact O
  exact OWN_X O (XT_opq h) (fun _ _ _ => rfl)
theorem LYB_o {h h2 : HP} (Y : LYB h) (o : h2 = h ∨ h2 = hOpq h) : LYB h2 := by
  obtain rfl | rfl := o
  · exact Y
  exact LYB_X (XT_opq h) Y
/-- where the law stands between two calls -/
def LI (L : Int) (X : Int → Int) (n : Nat) (h : HP) (I : Nat → Int → Int) : Prop := EV n h I I ∧ WSc I ∧ hK h 0 = (6, L) ∧ I 0 = X ∧ h.1.2.1 ≤ 139 + 40 * n ∧ h.1.2.2 ≤ 41044 + 4000 * n
theorem law_s {a b n : Nat} (h1 : a ≤ b + 4000) (h2 : b ≤ 41044 + 4000 * n) : a ≤ 41044 + 4000 * (n + 1) := by
  rw [Nat.mul_add, Nat.mul_one, ← Nat.add_assoc]
  exact Nat.le_trans h1 (Nat.add_le_add_right h2 4000)
/-- one call and the reference's -/
theorem law_W {L : Int} {X : Int → Int} {n z yr : Nat} {as bs : List MV} {es : Int → Nat} {h : HP} {I : Nat → Int → Int} {b : Bool} {G : Option (HP × OUT)} (J : LI L X n h I) (S : STEP z as yr bs es n h I) (W : WRP b z as es h I G) :
    ∃ h2 I2 I3 c w, G = some (mI h2 I2, .inl (some (.inl c))) ∧ I2 0 = X ∧ hK h2 0 = (6, L) ∧ LYB h2 ∧ Go yr 0 bs [] (mI h2 I2) = some (mI h2 I3, .inl (some (.inl w))) ∧ I3 94 49 = c ∧ (c = 0 → I3 139 0 = wv b w) ∧ LI L X (n + 1) h2 I3 := by
  obtain ⟨E, Sc, k0, i0, hc1, hc2⟩ := J
  obtain ⟨h1, I1, c, v, e1, X1, O1, f1, hc, R⟩ := S
  have Y1 := LYB_X X1 E.1
  obtain ⟨h2, I2, e2, ho, f2, hv⟩ := W h1 I1 c v e1 hc (ly_139 Y1)
  have Y2 := LYB_o Y1 ho
  obtain ⟨I3, w, e3, c49, hw, f3, C3, V3, S3⟩ := R h2 I2 (ly_94 Y2) f2
  have n140 := E.2.1.1
  have kp1 := (Go_k (L := L) e1) ⟨k0, by show 0 < hN h; omega⟩
  have i1 : I1 0 = X := kp1.2.trans i0
  have k2 : hK h2 0 = (6, L) := by
    obtain rfl | rfl := ho
    · exact kp1.1.1
    · exact (KP_opq (L := L) (h := h1) ⟨kp1.1.1, by have := O1.1; omega⟩).1.1
  have cell : h2.1.2.1 = h1.1.2.1 ∧ h2.1.2.2 = h1.1.2.2 := by
    obtain rfl | rfl := ho
    · exact ⟨rfl, rfl⟩
    · exact ⟨rfl, rfl⟩
  have O2 := OWN_o O1 ho
  refine ⟨h2, I2, I3, c, w, e2, by rw [f2 0 (by decide)]; exact i1, k2, Y2, e3, c49, fun q => by rw [f3 139 (by decide), hv q, hw q], ⟨Y2, O2, CPL_I O2 (fun a ha => by rw [f3 a (by omega), f2 a (by omega)]) (CPL_o O1 ho C3), V3⟩, S3, k2, by rw [f3 0 (by decide), f2 0 (by decide)]; exact i1, ?_, ?_⟩
  · rw [cell.1]
    have := X1.2.2.1
    omega
  · rw [cell.2]
    exact law_s X1.2.2.2 hc2
theorem lcmp_0 {x y : Int} : (if x < y then (-1 : Int) else if x = y then 0 else 1) = 0 ↔ x = y := by
  split
  · exact ⟨fun q => by omega, fun q => by omega⟩
  · split
    · next d => exact ⟨fun _ => d, fun _ => rfl⟩
    · next d => exact ⟨fun q => by omega, fun q => absurd q d⟩
