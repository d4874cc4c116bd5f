/-! ===== the reference's methods (33): the note of a fetch; memories that agree ===== -/
noncomputable def nF (J : Nat → Int → Int) (u t r n : Int) : Nat → Int → Int := nE (bE (dO J t 4 n) (6 * t + r) (J 115 (6 * u + r))) t
theorem r264 {h : HP} {J : Nat → Int → Int} {u t r n : Int} {v5 v6 v7 v8 v9 v10 : MV} (L : LX 11 h 94) (W : WT J) (hb7 : ∀ j, J 117 j = 0 ∨ J 117 j = 1) (hu : u = 0 ∨ u = 1) (ht : t = 0 ∨ t = 1) (hr : 0 ≤ r ∧ r ≤ 5) (hl : 0 ≤ J 119 t ∧ J 119 t < 600) :
    Go 264 0 [.inr (.inl (some 94)), .inl u, .inl t, .inl r, .inl n, v5, v6, v7, v8, v9, v10] [] (mI h J) = some (mI h (nF J u t r n), .inl none) := by
  have hdd := W.2.2.2.2.2.1 t ht
  have WD2 : WT (dO J t 4 n) := WT_dO W ht
  have d115 : dO J t 4 n 115 = J 115 := dO_f (by omega)
  have d119 : dO J t 4 n 119 = J 119 := dO_f (by omega)
  have d117 : dO J t 4 n 117 = J 117 := dO_f (by omega)
  have hq : (6 * t + r) / 6 = t := by omega
  rw [b264_0 L, r186 L (WB_t W.1) W.2.1 W.2.2.1 W.2.2.2.2.1 ht hdd, caln_r, b264_7 (by omega) (by omega) L (by omega) (by omega) (by omega), d115, r218 L (by omega) (by rw [d119, hq]; exact hl), caln_v, b264_23]
  unfold nF
  obtain ⟨B, hB⟩ : ∃ B, B = bE (dO J t 4 n) (6 * t + r) (J 115 (6 * u + r)) := ⟨_, rfl⟩
  rw [← hB]
  have Be : ∀ a, a ≠ 115 ∧ a ≠ 119 ∧ a ≠ 123 ∧ a ≠ 124 ∧ a ≠ 125 → B a = dO J t 4 n a := fun a q => by rw [hB]; exact bE_f q
  have WBB : WB B := by rw [WB_e (by rw [Be 94 (by decide)]) (Be 95 (by decide)) (Be 96 (by decide)) (Be 97 (by decide)) (Be 98 (by decide))]; exact WD2.1
  have WKB : WK B := by rw [WK_e (by rw [Be 94 (by decide)]) (Be 108 (by decide)) (Be 111 (by decide)) (Be 112 (by decide)) (Be 113 (by decide))]; exact WD2.2.2.2.1
  have NB : WN B := fun j => by rw [Be 118 (by decide)]; exact WD2.2.2.1 j
  have dB : 0 ≤ B 104 t ∧ B 104 t ≤ 30 := by rw [Be 104 (by decide)]; exact dO_104 hdd
  obtain ⟨w7, w8, w9, w10, e⟩ := r264a (h := h) (B := B) (x1 := u) (t := t) (x3 := r) (x4 := n) (v7 := v7) (v8 := v8) (v9 := v9) (v10 := v10) L WBB WKB (by rw [Be 117 (by decide), d117]; exact hb7) ht
  have NB2 : WN (rowU (rowU B 116 (n6 B t (B 94 0))) 117 (n7 B t (B 94 0))) := NB
  rw [e, b264_128 L, r187 L NB2 ht dB, caln_v, b264_131 (by omega)]
  rw [show kN (rowU (rowU B 116 (n6 B t (B 94 0))) 117 (n7 B t (B 94 0))) t (rowU (rowU B 116 (n6 B t (B 94 0))) 117 (n7 B t (B 94 0)) 104 t) = nK B t from rfl]
  unfold nE
  by_cases hT : nT B t (B 94 0)
  · rw [if_pos hT, b01_t hT]
    have e128 : nK B t 128 = B 128 := by
      unfold nK
      rw [kN_f (by decide) (by decide) (by decide), rowU_ne (by decide), rowU_ne (by decide)]
    have key := lpU (fun k => Go 264 135 [.inr (.inl (some 94)), .inl u, .inl t, .inl r, .inl n, .inl 1, .inl k, w7, w8, w9, w10] [] (mI h (rowU (nK B t) 128 (fillR (B 128) (120 * t) k (fun _ => 0))))) (120 * t) (120 * t + 120) (by omega) ?_
    · rw [fillR_0 (by omega), ← e128, rowU_id] at key
      rw [key, b264_135 (by omega) (by omega), if_pos (Int.le_refl _), b264_151, e128]
    · intro k k0 k1
      rw [b264_135 (by omega) (by omega), if_neg (by omega), b264_142, if_neg neg1_ne, b264_144 L (by omega) (by omega), zu2_row, rowU_tw, rowU_eq, fillR_s k0 rfl]
  · rw [if_neg hT, b01_f hT, b264_135 (by omega) (by omega), if_neg (by omega), b264_142, if_pos rfl, b264_151]
/-- memories that agree in all that counts -/
def AG (I X : Nat → Int → Int) : Prop := (∀ a, a < 133 → a ≠ 94 → X a = I a) ∧ ∀ k, k ≠ 49 → X 94 k = I 94 k
theorem AG_r (I : Nat → Int → Int) : AG I I := ⟨fun _ _ _ => rfl, fun _ _ => rfl⟩
theorem AG_t {I X : Nat → Int → Int} {x : Int} (g : AG I X) : AG I (tH X x) := ⟨fun a h n => (tH_n n).trans (g.1 a h n), fun k n => (tH_94 n).trans (g.2 k n)⟩
theorem AG_U {I X : Nat → Int → Int} {a : Nat} {f : Int → Int} (g : AG I X) (ha : 133 ≤ a) : AG I (rowU X a f) := ⟨fun b h n => (rowU_ne (by omega)).trans (g.1 b h n), fun k n => by rw [rowU_ne (by omega)]; exact g.2 k n⟩
theorem AG_s {I X : Nat → Int → Int} (g : AG I X) : AG X I := ⟨fun a h n => (g.1 a h n).symm, fun k n => (g.2 k n).symm⟩
theorem AG_tr {I X Y : Nat → Int → Int} (g : AG I X) (k : AG X Y) : AG I Y := ⟨fun a h n => (k.1 a h n).trans (g.1 a h n), fun a n => (k.2 a n).trans (g.2 a n)⟩
theorem ag_0 {I X : Nat → Int → Int} (g : AG I X) : X 94 0 = I 94 0 := g.2 0 (by decide)
theorem ag_fnd {I X : Nat → Int → Int} (g : AG I X) : fnd X = fnd I := by
  funext x
  unfold fnd
  rw [g.1 98 (by decide) (by decide), ag_0 g]
theorem ag_atR {I X : Nat → Int → Int} (g : AG I X) : atR X = atR I := by
  unfold atR
  rw [ag_fnd g, g.1 97 (by decide) (by decide)]
theorem ag_Lk {I X : Nat → Int → Int} (g : AG I X) : Lk X = Lk I := by
  unfold Lk
  rw [g.1 95 (by decide) (by decide), g.1 96 (by decide) (by decide)]
theorem ag_Eg {I X : Nat → Int → Int} (g : AG I X) : Eg X = Eg I := by
  unfold Eg
  rw [ag_Lk g, ag_atR g, g.1 95 (by decide) (by decide), g.1 116 (by decide) (by decide)]
theorem ag_GE {I X : Nat → Int → Int} (g : AG I X) : GE X = GE I := by
  unfold GE
  rw [g.1 113 (by decide) (by decide), g.1 114 (by decide) (by decide)]
theorem ag_HE {I X : Nat → Int → Int} (g : AG I X) : HE X = HE I := by
  unfold HE
  rw [ag_GE g, g.1 108 (by decide) (by decide), g.1 109 (by decide) (by decide), g.1 111 (by decide) (by decide), g.1 112 (by decide) (by decide)]
theorem ag_Th {I X : Nat → Int → Int} (g : AG I X) : Th X = Th I := by
  unfold Th
  rw [ag_HE g, g.1 101 (by decide) (by decide)]
theorem ag_BL {I X : Nat → Int → Int} (g : AG I X) : BL X = BL I := by
  unfold BL
  rw [g.1 101 (by decide) (by decide), g.1 103 (by decide) (by decide), g.1 107 (by decide) (by decide)]
theorem ag_GL {I X : Nat → Int → Int} (g : AG I X) : GL X = GL I := by
  unfold GL
  rw [ag_BL g, g.1 101 (by decide) (by decide)]
theorem ag_Gd {I X : Nat → Int → Int} (g : AG I X) : Gd X = Gd I := by
  unfold Gd
  rw [ag_GL g, ag_HE g]
theorem ag_Wh {I X : Nat → Int → Int} (g : AG I X) : Wh X = Wh I := by
  unfold Wh
  rw [ag_Eg g, ag_Th g, g.1 117 (by decide) (by decide)]
theorem ag_WB {I X : Nat → Int → Int} (g : AG I X) : WB X = WB I := WB_e (ag_0 g) (g.1 95 (by decide) (by decide)) (g.1 96 (by decide) (by decide)) (g.1 97 (by decide) (by decide)) (g.1 98 (by decide) (by decide))
theorem ag_WK {I X : Nat → Int → Int} (g : AG I X) : WK X = WK I := WK_e (ag_0 g) (g.1 108 (by decide) (by decide)) (g.1 111 (by decide) (by decide)) (g.1 112 (by decide) (by decide)) (g.1 113 (by decide) (by decide))
theorem ag_WL {I X : Nat → Int → Int} (g : AG I X) : WL X = WL I := by
  unfold WL
  rw [g.1 101 (by decide) (by decide), g.1 103 (by decide) (by decide), g.1 107 (by decide) (by decide)]
theorem ag_WN {I X : Nat → Int → Int} (g : AG I X) : WN X = WN I := by
  unfold WN
  rw [g.1 118 (by decide) (by decide)]
theorem ag_WT {I X : Nat → Int → Int} (g : AG I X) : WT X = WT I := by
  unfold WT
  rw [ag_WB g, ag_WL g, ag_WN g, ag_WK g, g.1 109 (by decide) (by decide), g.1 104 (by decide) (by decide), g.1 97 (by decide) (by decide)]
theorem ag_WR {I X : Nat → Int → Int} (g : AG I X) : WR X = WR I := by
  unfold WR
  rw [g.1 115 (by decide) (by decide), ag_0 g]
theorem ag_WV {I X : Nat → Int → Int} (g : AG I X) : WV X = WV I := by
  unfold WV
  rw [ag_Lk g, ag_atR g, g.1 95 (by decide) (by decide), g.1 118 (by decide) (by decide), ag_0 g]
theorem ag_NmD {I X : Nat → Int → Int} (g : AG I X) : NmD X = NmD I := by
  unfold NmD
  rw [g.1 98 (by decide) (by decide), ag_0 g]
theorem ag_WX {I X : Nat → Int → Int} (g : AG I X) : WX X = WX I := by
  unfold WX
  rw [g.1 98 (by decide) (by decide), ag_0 g]
theorem ag_EnN {I X : Nat → Int → Int} (g : AG I X) : EnN X = EnN I := by
  unfold EnN
  rw [g.1 98 (by decide) (by decide), ag_0 g]
theorem ag_KO {I X : Nat → Int → Int} (g : AG I X) : KO X = KO I := by
  unfold KO
  rw [g.1 95 (by decide) (by decide), g.1 96 (by decide) (by decide), g.1 98 (by decide) (by decide)]
theorem ag_Rf {I X : Nat → Int → Int} (g : AG I X) : Rf X = Rf I := by
  unfold Rf
  rw [g.1 115 (by decide) (by decide)]
theorem ag_Sb {I X : Nat → Int → Int} (g : AG I X) : Sb X = Sb I := by
  unfold Sb
  rw [ag_atR g]
theorem ag_Vs {I X : Nat → Int → Int} (g : AG I X) : Vs X = Vs I := by
  unfold Vs
  rw [g.1 95 (by decide) (by decide), ag_0 g]
theorem ag_Es {I X : Nat → Int → Int} (g : AG I X) : Es X = Es I := by
  unfold Es sa
  rw [ag_Sb g, g.1 116 (by decide) (by decide), g.1 118 (by decide) (by decide), g.1 96 (by decide) (by decide)]
theorem ag_AC {I X : Nat → Int → Int} (g : AG I X) : AC X = AC I := by
  unfold AC
  rw [ag_Vs g, ag_Es g]
theorem ag_Ep {I X : Nat → Int → Int} (g : AG I X) : Ep X = Ep I := by
  unfold Ep
  rw [ag_Sb g, g.1 116 (by decide) (by decide), g.1 96 (by decide) (by decide)]
theorem ag_Rh {I X : Nat → Int → Int} (g : AG I X) {s z : Int} : ∀ n : Nat, Rh X s z n = Rh I s z n
  | 0 => rfl
  | n + 1 => by
    funext k
    show (Rh X s z n k ∨ ∃ a, Rh X s z n a ∧ Ep X s a k) = (Rh I s z n k ∨ ∃ a, Rh I s z n a ∧ Ep I s a k)
    rw [ag_Rh g n, ag_Ep g]
theorem ag_Wv {I X : Nat → Int → Int} (g : AG I X) : Wv X = Wv I := by
  funext s z l k
  unfold Wv
  simp only [ag_Rh g]
theorem ag_tp {I X : Nat → Int → Int} (g : AG I X) : tp X = tp I := by
  unfold tp
  rw [ag_atR g, g.1 95 (by decide) (by decide)]
theorem ag_Wf {I X : Nat → Int → Int} (g : AG I X) : Wf X = Wf I := by
  unfold Wf
  rw [ag_Wv g, ag_atR g]
theorem ag_Wn {I X : Nat → Int → Int} (g : AG I X) : Wn X = Wn I := by
  unfold Wn
  rw [ag_Wv g, ag_tp g, ag_Eg g, ag_Wf g, ag_0 g]
theorem ag_Hd {I X : Nat → Int → Int} (g : AG I X) : Hd X = Hd I := by
  unfold Hd
  rw [ag_Eg g, ag_Rf g, ag_Th g]
theorem ag_WG {I X : Nat → Int → Int} (g : AG I X) : WG X = WG I := by
  unfold WG
  rw [g.1 119 (by decide) (by decide), g.1 123 (by decide) (by decide), g.1 124 (by decide) (by decide), g.1 125 (by decide) (by decide), g.1 126 (by decide) (by decide), ag_0 g, g.2 8 (by decide)]
theorem ag_WRp {I X : Nat → Int → Int} (g : AG I X) : WRp X = WRp I := by
  unfold WRp
  rw [g.1 118 (by decide) (by decide), ag_0 g]
theorem ag_kI {I X : Nat → Int → Int} (g : AG I X) : kI X = kI I := by
  unfold kI
  rw [ag_fnd g, g.1 95 (by decide) (by decide)]
theorem tH_zu2 {I : Nat → Int → Int} {x k v : Int} {a : Nat} (h : a ≠ 94) : zu2 (tH I x) a k v = tH (zu2 I a k v) x := by
  rw [zu2_row, zu2_row, tH_rU h, tH_n h]
/-- sets of the reference's working rows -/
def WSc (I : Nat → Int → Int) : Prop := ∀ a, 133 ≤ a → a ≤ 137 → ∃ P, S3 P ∧ I a = ind P
