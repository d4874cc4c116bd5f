/-! ===== the coupling (2): what always holds of the reference; what couples the class to it ===== -/
def sbv (b : Int → Int) (a : Int) : Int := if b a = 0 then a else b a - 1
/-- no way round -/
def AcOK (J : Nat → Int → Int) (b : Int → Int) : Prop := ∃ ρ : Int → Int, ∀ a c, Vs J a → Sb J (sbv b a) (J 96 (sbv b a)) c → ρ c < ρ a
/-- what notes may tell: references, replaced, shallow -/
def NtOK (J : Nat → Int → Int) (r b f : Int → Int) : Prop :=
  (∀ k, 0 ≤ k → k < 6 → (0 ≤ r k ∧ r k ≤ J 94 0) ∧ (r k ≠ 0 → 2 ≤ J 95 (r k - 1))) ∧
  (∀ o, 0 ≤ o → o < 120 → (0 ≤ b o ∧ b o ≤ J 94 0) ∧ (b o ≠ 0 → Vs J o ∧ J 95 (b o - 1) = 2)) ∧
  (∀ o, 0 ≤ o → o < 120 → f o ≠ 0 → Vs J o) ∧ AcOK J b
def NtC (J : Nat → Int → Int) (s : Int) : Prop := NtOK J (fun k => J 115 (6 * s + k)) (fun o => J 118 (120 * s + o)) (fun o => J 116 (120 * s + o))
def SlN (J : Nat → Int → Int) (s t : Int) : Prop := NtOK J (fun k => J 120 (6 * (31 * s + t) + k)) (fun o => J 121 (120 * (31 * s + t) + o) / 4) (fun o => J 121 (120 * (31 * s + t) + o) / 2 % 2)
/-- slots that are in use -/
def SlU (J : Nat → Int → Int) (s t : Int) : Prop := t = 0 ∨ ∃ k, (0 ≤ k ∧ k < J 104 s) ∧ J 105 (30 * s + k) = 4 ∧ t = k + 1
def INVs (J : Nat → Int → Int) (s : Int) : Prop := RD J s ∧ NL J s ∧ NtC J s ∧ ∀ t, SlU J s t → SlN J s t
def B2 (f : Int → Int) : Prop := ∀ j, f j = 0 ∨ f j = 1
def ZP7 (J : Nat → Int → Int) : Prop := ∀ s o, s = 0 ∨ s = 1 → J 94 0 ≤ o → o < 120 → J 127 (120 * s + o) = 0
def WV1 (J : Nat → Int → Int) : Prop := ∀ o, 0 ≤ o → o < J 94 0 → ∀ j, Lk J o j → (J 95 o = 1 → J 95 (atR J o j) < 2) ∧ (J 95 o = 2 → j = 0 → J 95 (atR J o j) = 1) ∧ (J 95 o = 2 → 2 ≤ j → J 95 (atR J o j) = 2) ∧ (J 95 o = 3 → J 95 (atR J o j) = 2)
def WE2 (J : Nat → Int → Int) : Prop := WE J ∧ ∀ k, 0 ≤ k → k < 12 → J 131 k ≠ 0 → 2 ≤ J 95 (J 131 k - 1)
def WQ2 (J : Nat → Int → Int) : Prop := WQc J ∧ ∀ s k, s = 0 ∨ s = 1 → 0 ≤ k → k < J 104 s → (J 105 (30 * s + k) = 0 → J 106 (30 * s + k) < J 94 0) ∧ (J 105 (30 * s + k) = 1 → J 106 (30 * s + k) < 20 * s + J 108 s)
def WO2 (J : Nat → Int → Int) : Prop := WO J ∧ ∀ j, 0 ≤ J 122 j
def INV (n : Int) (J : Nat → Int → Int) : Prop :=
  (RB J ∧ WU J ∧ WD J) ∧ WT J ∧ (B2 (J 110) ∧ B2 (J 116) ∧ B2 (J 117) ∧ B2 (J 127)) ∧ (WE2 J ∧ WG J ∧ WQ2 J ∧ WO2 J) ∧ (PM J ∧ PDs J ∧ ZO J ∧ ZP7 J) ∧
  ((∀ k, J 126 k = -1000 ∨ 0 ≤ J 126 k) ∧ WV1 J) ∧ (INVs J 0 ∧ INVs J 1) ∧
  (J 94 9 = 0 ∨ J 94 9 = 1) ∧ (0 ≤ J 94 41 ∧ J 94 41 ≤ 100) ∧ (0 ≤ J 94 8 ∧ J 94 8 ≤ 100 * n) ∧ ∀ s, s = 0 ∨ s = 1 → J 119 s + eN J s ≤ n
theorem aw_AcOK {I X : Nat → Int → Int} (g : AW I X) : AcOK X = AcOK I := by
  unfold AcOK
  rw [aw_Vs g, aw_Sb g, g.1 96 (by decide) (by decide)]
theorem aw_NtOK {I X : Nat → Int → Int} (g : AW I X) : NtOK X = NtOK I := by
  unfold NtOK
  rw [aw_AcOK g, aw_Vs g, g.1 95 (by decide) (by decide), aw_0 g]
theorem aw_INVs {I X : Nat → Int → Int} (g : AW I X) : INVs X = INVs I := by
  unfold INVs NtC SlN SlU
  rw [aw_RD g, aw_NL g, aw_NtOK g, g.1 115 (by decide) (by decide), g.1 116 (by decide) (by decide), g.1 118 (by decide) (by decide), g.1 120 (by decide) (by decide), g.1 121 (by decide) (by decide), g.1 104 (by decide) (by decide), g.1 105 (by decide) (by decide)]
theorem aw_WV1 {I X : Nat → Int → Int} (g : AW I X) : WV1 X = WV1 I := by
  unfold WV1
  rw [aw_Lk g, aw_atR g, g.1 95 (by decide) (by decide), aw_0 g]
theorem aw_WE2 {I X : Nat → Int → Int} (g : AW I X) : WE2 X = WE2 I := by
  unfold WE2
  rw [aw_WE g, g.1 131 (by decide) (by decide), g.1 95 (by decide) (by decide)]
theorem aw_WQ2 {I X : Nat → Int → Int} (g : AW I X) : WQ2 X = WQ2 I := by
  unfold WQ2
  rw [aw_WQc g, g.1 104 (by decide) (by decide), g.1 105 (by decide) (by decide), g.1 106 (by decide) (by decide), g.1 108 (by decide) (by decide), aw_0 g]
theorem aw_INV {n : Int} {I X : Nat → Int → Int} (g : AW I X) : INV n X = INV n I := by
  unfold INV ZP7 WO2
  rw [aw_RB g, aw_WU g, aw_WD g, aw_WT g, aw_WE2 g, aw_WG g, aw_WO g, g.1 122 (by decide) (by decide), aw_PM g, aw_PDs g, aw_ZO g, aw_WV1 g, aw_INVs g, aw_eN g, aw_WQ2 g, g.1 110 (by decide) (by decide), g.1 116 (by decide) (by decide), g.1 117 (by decide) (by decide), g.1 127 (by decide) (by decide), g.1 126 (by decide) (by decide), g.1 119 (by decide) (by decide), aw_0 g, g.2 8 (by decide), g.2 9 (by decide), g.2 41 (by decide)]
/-! what follows from it -/
section INVF
variable {n : Int} {J : Nat → Int → Int}
theorem iv_R (V : INV n J) : RB J := V.1.1
theorem iv_U (V : INV n J) : WU J := V.1.2.1
theorem iv_D (V : INV n J) : WD J := V.1.2.2
theorem iv_T (V : INV n J) : WT J := V.2.1
theorem iv_110 (V : INV n J) : B2 (J 110) := V.2.2.1.1
theorem iv_116 (V : INV n J) : B2 (J 116) := V.2.2.1.2.1
theorem iv_117 (V : INV n J) : B2 (J 117) := V.2.2.1.2.2.1
theorem iv_127 (V : INV n J) : B2 (J 127) := V.2.2.1.2.2.2
theorem iv_E2 (V : INV n J) : WE2 J := V.2.2.2.1.1
theorem iv_E (V : INV n J) : WE J := V.2.2.2.1.1.1
theorem iv_G (V : INV n J) : WG J := V.2.2.2.1.2.1
theorem iv_Q2 (V : INV n J) : WQ2 J := V.2.2.2.1.2.2.1
theorem iv_Q (V : INV n J) : WQc J := V.2.2.2.1.2.2.1.1
theorem iv_O2 (V : INV n J) : WO2 J := V.2.2.2.1.2.2.2
theorem iv_O (V : INV n J) : WO J := V.2.2.2.1.2.2.2.1
theorem iv_M (V : INV n J) : PM J := V.2.2.2.2.1.1
theorem iv_P (V : INV n J) : PDs J := V.2.2.2.2.1.2.1
theorem iv_Z (V : INV n J) : ZO J := V.2.2.2.2.1.2.2.1
theorem iv_Z7 (V : INV n J) : ZP7 J := V.2.2.2.2.1.2.2.2
theorem iv_126 (V : INV n J) : ∀ k, J 126 k = -1000 ∨ 0 ≤ J 126 k := V.2.2.2.2.2.1.1
theorem iv_V1 (V : INV n J) : WV1 J := V.2.2.2.2.2.1.2
theorem iv_s {s : Int} (V : INV n J) (hs : s = 0 ∨ s = 1) : INVs J s := by
  obtain rfl | rfl := hs
  · exact V.2.2.2.2.2.2.1.1
  · exact V.2.2.2.2.2.2.1.2
theorem iv_9 (V : INV n J) : J 94 9 = 0 ∨ J 94 9 = 1 := V.2.2.2.2.2.2.2.1
theorem iv_41 (V : INV n J) : 0 ≤ J 94 41 ∧ J 94 41 ≤ 100 := V.2.2.2.2.2.2.2.2.1
theorem iv_8 (V : INV n J) : 0 ≤ J 94 8 ∧ J 94 8 ≤ 100 * n := V.2.2.2.2.2.2.2.2.2.1
theorem iv_l {s : Int} (V : INV n J) (hs : s = 0 ∨ s = 1) : J 119 s + eN J s ≤ n := V.2.2.2.2.2.2.2.2.2.2 s hs
theorem iv_X (V : INV n J) : WX J := RB_x (iv_R V)
theorem iv_N (V : INV n J) : NmD J := RB_nm (iv_R V)
theorem iv_t (V : INV n J) : 0 ≤ J 94 0 ∧ J 94 0 ≤ 100 := (iv_R V).1.1
theorem iv_nt {s : Int} (V : INV n J) (hs : s = 0 ∨ s = 1) : NtC J s := (iv_s V hs).2.2.1
theorem iv_WR (V : INV n J) : WR J := fun k k0 k1 => by
  by_cases c : k < 6
  · have := ((iv_nt V (Or.inl rfl)).1 k k0 c).1
    dsimp only at this
    rw [show 6 * 0 + k = k by omega] at this
    exact this
  · have := ((iv_nt V (Or.inr rfl)).1 (k - 6) (by omega) (by omega)).1
    dsimp only at this
    rw [show 6 * 1 + (k - 6) = k by omega] at this
    exact this
theorem iv_WRk (V : INV n J) : WRk J := fun k k0 k1 h => by
  by_cases c : k < 6
  · have := ((iv_nt V (Or.inl rfl)).1 k k0 c).2
    dsimp only at this
    rw [show 6 * 0 + k = k by omega] at this
    exact this h
  · have := ((iv_nt V (Or.inr rfl)).1 (k - 6) (by omega) (by omega)).2
    dsimp only at this
    rw [show 6 * 1 + (k - 6) = k by omega] at this
    exact this h
theorem iv_WRp (V : INV n J) : WRp J := fun s k hs k0 k1 => ((iv_nt V hs).2.1 k k0 (by have := iv_t V; omega)).1.2
theorem iv_WV (V : INV n J) : WV J := ⟨iv_V1 V, fun s o hs o0 o1 ok h => by
  have q := (iv_nt V hs).2.1 o o0 (by have := iv_t V; omega)
  have q1 : J 118 (120 * s + o) ≤ J 94 0 := q.1.2
  exact ⟨by omega, (q.2 h).2⟩⟩
theorem iv_V8 {s : Int} (V : INV n J) (hs : s = 0 ∨ s = 1) : ∀ o, 0 ≤ o → o < J 94 0 → J 95 o ≠ 2 → J 118 (120 * s + o) = 0 := fun o o0 o1 h => Classical.byContradiction fun c => h (((iv_nt V hs).2.1 o o0 (by have := iv_t V; omega)).2 c).1.2
theorem iv_Sh (V : INV n J) : WSh J := fun s o hs o0 o1 h => ((iv_nt V hs).2.2.1 o o0 (by have := iv_t V; omega) h).2
theorem iv_Zp (V : INV n J) : ZPn J := fun s o hs o0 o1 => ⟨iv_Z7 V s o hs o0 o1, Classical.byContradiction fun c => by
  have := (((iv_nt V hs).2.1 o (by have := iv_t V; omega) o1).2 c).1.1
  omega⟩
theorem iv_AC (V : INV n J) : AC J := fun s hs => by
  obtain ⟨ρ, h⟩ := (iv_nt V hs).2.2.2
  exact ⟨ρ, fun a b va e => h a b va e.2⟩
theorem iv_A {s : Int} (V : INV n J) (hs : s = 0 ∨ s = 1) (d : Int) : ∀ k b, Vs J k → Es J s d k b → ¬Cl (Es J s d) (fun j => j = b) k := fun k b vk e c => by
  obtain ⟨ρ, h⟩ := iv_AC V s hs
  have vb := Es_v (iv_R V).1 (iv_T V).2.2.1 (iv_WV V) hs vk e
  have := Cl_ind (P := fun j => Vs J j ∧ ρ j ≤ ρ b) c (fun a q => by rw [q]; exact ⟨vb, Int.le_refl _⟩) (fun a c p eb => ⟨Es_v (iv_R V).1 (iv_T V).2.2.1 (iv_WV V) hs p.1 eb, by have := h a c p.1 (Es_1 eb); have := p.2; omega⟩)
  have := h k b vk (Es_1 e)
  omega
theorem iv_RD {s : Int} (V : INV n J) (hs : s = 0 ∨ s = 1) : RD J s := (iv_s V hs).1
theorem iv_NL {s : Int} (V : INV n J) (hs : s = 0 ∨ s = 1) : NL J s := (iv_s V hs).2.1
theorem iv_eN {s : Int} : 0 ≤ eN J s ∧ eN J s ≤ 6 := cN_b 6
end INVF
/-! the coupling -/
def SL (J : Nat → Int → Int) (P : Int → Prop) : Prop := ∀ j, P j → 0 ≤ j ∧ j < J 94 0
def CD (I J : Nat → Int → Int) : Prop := (I 1 11 = J 94 5 ∧ ∀ k, 0 ≤ k → k < J 94 5 → I 92 k = J 99 k) ∧ I 1 12 = J 94 8 ∧ I 1 13 = b01 (J 94 9 = 0)
def CWl (I J : Nat → Int → Int) : Prop := I 76 5 = J 94 41 ∧ ∀ k, 0 ≤ k → k < J 94 41 → (0 ≤ I 80 k ∧ I 80 k < J 94 0) ∧ J 98 (I 80 k) = J 132 k
def CR (I J : Nat → Int → Int) : Prop := ((∃ P, S1 P ∧ I 75 = ind P) ∧ (∃ P, S1 P ∧ I 87 = ind P) ∧ ∃ P, S1 P ∧ I 89 = ind P) ∧ ((∃ P, SL J P ∧ I 84 = ind P) ∧ (∃ P, SL J P ∧ I 90 = ind P) ∧ ∃ P, SL J P ∧ I 91 = ind P) ∧ (∀ j, j < 0 ∨ 100 ≤ j → I 78 j = 0) ∧ ∀ j, j < 0 ∨ 100 ≤ j → I 79 j = 0
def CS (h : HP) (I J : Nat → Int → Int) (st : Nat) (s : Int) : Prop := DC h I J (st + 1) s ∧ SC I J st s ∧ CC I J (st + 21) s
def CPL (h : HP) (I J : Nat → Int → Int) : Prop := BC I J ∧ CD I J ∧ (CS h I J 10 0 ∧ CS h I J 42 1) ∧ CWl I J ∧ CR I J
def LYB (h : HP) : Prop := STA h ∧ (LX 7 h 86 ∧ LX 7 h 88) ∧ hK h 139 = (2, 1)
def sto (s : Int) : Nat := if s = 0 then 10 else 42
theorem sto_o {s : Int} : sto s = 10 ∨ sto s = 42 := by
  unfold sto
  split
  · exact Or.inl rfl
  · exact Or.inr rfl
theorem CPL_s {h : HP} {I J : Nat → Int → Int} {s : Int} (C : CPL h I J) (hs : s = 0 ∨ s = 1) : CS h I J (sto s) s := by
  obtain rfl | rfl := hs
  · exact C.2.2.1.1
  · exact C.2.2.1.2
theorem CC_I {I K J : Nat → Int → Int} {c : Nat} {s : Int} (H : ∀ b, c ≤ b → b ≤ c + 2 → K b = I b) : CC K J c s = CC I J c s := by
  unfold CC
  rw [H c (by omega) (by omega), H (c + 1) (by omega) (by omega), H (c + 2) (by omega) (by omega)]
theorem aw_CC {I J K : Nat → Int → Int} (g : AW J K) : CC I K = CC I J := by
  unfold CC
  rw [aw_chN g, aw_Eg g, aw_0 g, g.1 128 (by decide) (by decide)]
theorem aw_BC {I J K : Nat → Int → Int} (g : AW J K) : BC I K = BC I J := by
  unfold BC
  rw [aw_nL g, aw_lkR g, aw_EnN g, aw_0 g, g.1 95 (by decide) (by decide), g.1 96 (by decide) (by decide), g.1 97 (by decide) (by decide), g.1 98 (by decide) (by decide)]
theorem aw_CD {I J K : Nat → Int → Int} (g : AW J K) : CD I K = CD I J := by
  unfold CD
  rw [g.2 5 (by decide), g.2 8 (by decide), g.2 9 (by decide), g.1 99 (by decide) (by decide)]
theorem aw_CWl {I J K : Nat → Int → Int} (g : AW J K) : CWl I K = CWl I J := by
  unfold CWl
  rw [g.2 41 (by decide), aw_0 g, g.1 98 (by decide) (by decide), g.1 132 (by decide) (by decide)]
theorem aw_CR {I J K : Nat → Int → Int} (g : AW J K) : CR I K = CR I J := by
  unfold CR SL
  rw [aw_0 g]
theorem CS_w {h : HP} {I J K : Nat → Int → Int} {st : Nat} {s : Int} (g : AW J K) (T : WT J) (hs : s = 0 ∨ s = 1) (C : CS h I J st s) : CS h I K st s :=
  ⟨DC_J T hs (fun a ha => g.1 a (by omega) (by omega)) C.1, by rw [SC_J (J := J) (fun c hc => g.1 c (by omega) (by omega))]; exact C.2.1, by rw [aw_CC g]; exact C.2.2⟩
theorem CPL_w {h : HP} {I J K : Nat → Int → Int} (g : AW J K) (T : WT J) (C : CPL h I J) : CPL h I K :=
  ⟨by rw [aw_BC g]; exact C.1, by rw [aw_CD g]; exact C.2.1, ⟨CS_w g T (Or.inl rfl) C.2.2.1.1, CS_w g T (Or.inr rfl) C.2.2.1.2⟩, by rw [aw_CWl g]; exact C.2.2.2.1, by rw [aw_CR g]; exact C.2.2.2.2⟩
theorem CS_I {h : HP} {I K J : Nat → Int → Int} {st : Nat} {s : Int} (O : OWN h) (hst : st = 10 ∨ st = 42) (H : ∀ c, (st ≤ c ∧ c ≤ st + 31) ∨ 140 ≤ c → K c = I c) (C : CS h I J st s) : CS h K J st s :=
  ⟨DC_I O (by omega) (fun c hc => H c (by omega)) C.1, by rw [SC_I (I := I) (fun c hc => H c (by omega))]; exact C.2.1, by rw [CC_I (I := I) (fun c c0 c1 => H c (by omega))]; exact C.2.2⟩
theorem CPL_I {h : HP} {I K J : Nat → Int → Int} (O : OWN h) (H : ∀ c, c < 94 ∨ 140 ≤ c → K c = I c) (C : CPL h I J) : CPL h K J := by
  refine ⟨by rw [BC_I (I := I) (fun c hc => H c (by omega))]; exact C.1, ?_, ⟨CS_I O (Or.inl rfl) (fun c hc => H c (by omega)) C.2.2.1.1, CS_I O (Or.inr rfl) (fun c hc => H c (by omega)) C.2.2.1.2⟩, ?_, ?_⟩
  · unfold CD
    rw [H 1 (by decide), H 92 (by decide)]
    exact C.2.1
  · unfold CWl
    rw [H 76 (by decide), H 80 (by decide)]
    exact C.2.2.2.1
  · unfold CR
    rw [H 75 (by decide), H 87 (by decide), H 89 (by decide), H 84 (by decide), H 90 (by decide), H 91 (by decide), H 78 (by decide), H 79 (by decide)]
    exact C.2.2.2.2
