/-! ===== the coupling (1): memories that agree in the reference's rows ===== -/
def AW (I X : Nat → Int → Int) : Prop := (∀ a, 94 < a → a < 133 → X a = I a) ∧ ∀ k, k ≠ 49 → X 94 k = I 94 k
theorem AW_r (I : Nat → Int → Int) : AW I I := ⟨fun _ _ _ => rfl, fun _ _ => rfl⟩
theorem AW_t {I X : Nat → Int → Int} {x : Int} (g : AW I X) : AW I (tH X x) := ⟨fun a h n => (tH_n (by omega)).trans (g.1 a h n), fun k n => (tH_94 n).trans (g.2 k n)⟩
theorem AW_U {I X : Nat → Int → Int} {a : Nat} {f : Int → Int} (g : AW I X) (ha : 133 ≤ a ∨ a < 94) : AW I (rowU X a f) := ⟨fun b h n => (rowU_ne (by omega)).trans (g.1 b h n), fun k n => by rw [rowU_ne (by omega)]; exact g.2 k n⟩
theorem AW_s {I X : Nat → Int → Int} (g : AW I X) : AW X I := ⟨fun a h n => (g.1 a h n).symm, fun k n => (g.2 k n).symm⟩
theorem AW_tr {I X Y : Nat → Int → Int} (g : AW I X) (k : AW X Y) : AW I Y := ⟨fun a h n => (k.1 a h n).trans (g.1 a h n), fun a n => (k.2 a n).trans (g.2 a n)⟩
theorem AW_c {I X : Nat → Int → Int} (h : ∀ c, 94 ≤ c → c < 133 → X c = I c) : AW I X := ⟨fun a h0 h1 => h a (by omega) h1, fun k _ => by rw [h 94 (by decide) (by decide)]⟩
theorem aw_0 {I X : Nat → Int → Int} (g : AW I X) : X 94 0 = I 94 0 := g.2 0 (by decide)
theorem aw_fnd {I X : Nat → Int → Int} (g : AW I X) : fnd X = fnd I := by
  funext x
  unfold fnd
  rw [g.1 98 (by decide) (by decide), aw_0 g]
theorem aw_atR {I X : Nat → Int → Int} (g : AW I X) : atR X = atR I := by
  unfold atR
  rw [aw_fnd g, g.1 97 (by decide) (by decide)]
theorem aw_Lk {I X : Nat → Int → Int} (g : AW I X) : Lk X = Lk I := by
  unfold Lk
  rw [g.1 95 (by decide) (by decide), g.1 96 (by decide) (by decide)]
theorem aw_Eg {I X : Nat → Int → Int} (g : AW I X) : Eg X = Eg I := by
  unfold Eg
  rw [aw_Lk g, aw_atR g, g.1 95 (by decide) (by decide), g.1 116 (by decide) (by decide)]
theorem aw_GE {I X : Nat → Int → Int} (g : AW I X) : GE X = GE I := by
  unfold GE
  rw [g.1 113 (by decide) (by decide), g.1 114 (by decide) (by decide)]
theorem aw_HE {I X : Nat → Int → Int} (g : AW I X) : HE X = HE I := by
  unfold HE
  rw [aw_GE g, g.1 108 (by decide) (by decide), g.1 109 (by decide) (by decide), g.1 111 (by decide) (by decide), g.1 112 (by decide) (by decide)]
theorem aw_Th {I X : Nat → Int → Int} (g : AW I X) : Th X = Th I := by
  unfold Th
  rw [aw_HE g, g.1 101 (by decide) (by decide)]
theorem aw_BL {I X : Nat → Int → Int} (g : AW I X) : BL X = BL I := by
  unfold BL
  rw [g.1 101 (by decide) (by decide), g.1 103 (by decide) (by decide), g.1 107 (by decide) (by decide)]
theorem aw_GL {I X : Nat → Int → Int} (g : AW I X) : GL X = GL I := by
  unfold GL
  rw [aw_BL g, g.1 101 (by decide) (by decide)]
theorem aw_Gd {I X : Nat → Int → Int} (g : AW I X) : Gd X = Gd I := by
  unfold Gd
  rw [aw_GL g, aw_HE g]
theorem aw_Wh {I X : Nat → Int → Int} (g : AW I X) : Wh X = Wh I := by
  unfold Wh
  rw [aw_Eg g, aw_Th g, g.1 117 (by decide) (by decide)]
theorem aw_WB {I X : Nat → Int → Int} (g : AW I X) : WB X = WB I := WB_e (aw_0 g) (g.1 95 (by decide) (by decide)) (g.1 96 (by decide) (by decide)) (g.1 97 (by decide) (by decide)) (g.1 98 (by decide) (by decide))
theorem aw_WK {I X : Nat → Int → Int} (g : AW I X) : WK X = WK I := WK_e (aw_0 g) (g.1 108 (by decide) (by decide)) (g.1 111 (by decide) (by decide)) (g.1 112 (by decide) (by decide)) (g.1 113 (by decide) (by decide))
theorem aw_WL {I X : Nat → Int → Int} (g : AW I X) : WL X = WL I := by
  unfold WL
  rw [g.1 101 (by decide) (by decide), g.1 103 (by decide) (by decide), g.1 107 (by decide) (by decide)]
theorem aw_WN {I X : Nat → Int → Int} (g : AW I X) : WN X = WN I := by
  unfold WN
  rw [g.1 118 (by decide) (by decide)]
theorem aw_WT {I X : Nat → Int → Int} (g : AW I X) : WT X = WT I := by
  unfold WT
  rw [aw_WB g, aw_WL g, aw_WN g, aw_WK g, g.1 109 (by decide) (by decide), g.1 104 (by decide) (by decide), g.1 97 (by decide) (by decide)]
theorem aw_WR {I X : Nat → Int → Int} (g : AW I X) : WR X = WR I := by
  unfold WR
  rw [g.1 115 (by decide) (by decide), aw_0 g]
theorem aw_WV {I X : Nat → Int → Int} (g : AW I X) : WV X = WV I := by
  unfold WV
  rw [aw_Lk g, aw_atR g, g.1 95 (by decide) (by decide), g.1 118 (by decide) (by decide), aw_0 g]
theorem aw_NmD {I X : Nat → Int → Int} (g : AW I X) : NmD X = NmD I := by
  unfold NmD
  rw [g.1 98 (by decide) (by decide), aw_0 g]
theorem aw_WX {I X : Nat → Int → Int} (g : AW I X) : WX X = WX I := by
  unfold WX
  rw [g.1 98 (by decide) (by decide), aw_0 g]
theorem aw_EnN {I X : Nat → Int → Int} (g : AW I X) : EnN X = EnN I := by
  unfold EnN
  rw [g.1 98 (by decide) (by decide), aw_0 g]
theorem aw_KO {I X : Nat → Int → Int} (g : AW I X) : KO X = KO I := by
  unfold KO
  rw [g.1 95 (by decide) (by decide), g.1 96 (by decide) (by decide), g.1 98 (by decide) (by decide)]
theorem aw_Rf {I X : Nat → Int → Int} (g : AW I X) : Rf X = Rf I := by
  unfold Rf
  rw [g.1 115 (by decide) (by decide)]
theorem aw_Sb {I X : Nat → Int → Int} (g : AW I X) : Sb X = Sb I := by
  unfold Sb
  rw [aw_atR g]
theorem aw_Vs {I X : Nat → Int → Int} (g : AW I X) : Vs X = Vs I := by
  unfold Vs
  rw [g.1 95 (by decide) (by decide), aw_0 g]
theorem aw_Es {I X : Nat → Int → Int} (g : AW I X) : Es X = Es I := by
  unfold Es sa
  rw [aw_Sb g, g.1 116 (by decide) (by decide), g.1 118 (by decide) (by decide), g.1 96 (by decide) (by decide)]
theorem aw_AC {I X : Nat → Int → Int} (g : AW I X) : AC X = AC I := by
  unfold AC
  rw [aw_Vs g, aw_Es g]
theorem aw_Ep {I X : Nat → Int → Int} (g : AW I X) : Ep X = Ep I := by
  unfold Ep
  rw [aw_Sb g, g.1 116 (by decide) (by decide), g.1 96 (by decide) (by decide)]
theorem aw_Rh {I X : Nat → Int → Int} (g : AW I X) {s z : Int} : ∀ n : Nat, Rh X s z n = Rh I s z n
  | 0 => rfl
  | n + 1 => by
    funext k
    show (Rh X s z n k ∨ ∃ a, Rh X s z n a ∧ Ep X s a k) = (Rh I s z n k ∨ ∃ a, Rh I s z n a ∧ Ep I s a k)
    rw [aw_Rh g n, aw_Ep g]
theorem aw_Wv {I X : Nat → Int → Int} (g : AW I X) : Wv X = Wv I := by
  funext s z l k
  unfold Wv
  simp only [aw_Rh g]
theorem aw_tp {I X : Nat → Int → Int} (g : AW I X) : tp X = tp I := by
  unfold tp
  rw [aw_atR g, g.1 95 (by decide) (by decide)]
theorem aw_Wf {I X : Nat → Int → Int} (g : AW I X) : Wf X = Wf I := by
  unfold Wf
  rw [aw_Wv g, aw_atR g]
theorem aw_Wn {I X : Nat → Int → Int} (g : AW I X) : Wn X = Wn I := by
  unfold Wn
  rw [aw_Wv g, aw_tp g, aw_Eg g, aw_Wf g, aw_0 g]
theorem aw_Hd {I X : Nat → Int → Int} (g : AW I X) : Hd X = Hd I := by
  unfold Hd
  rw [aw_Eg g, aw_Rf g, aw_Th g]
theorem aw_WG {I X : Nat → Int → Int} (g : AW I X) : WG X = WG I := by
  unfold WG
  rw [g.1 119 (by decide) (by decide), g.1 123 (by decide) (by decide), g.1 124 (by decide) (by decide), g.1 125 (by decide) (by decide), g.1 126 (by decide) (by decide), aw_0 g, g.2 8 (by decide)]
theorem aw_WRp {I X : Nat → Int → Int} (g : AW I X) : WRp X = WRp I := by
  unfold WRp
  rw [g.1 118 (by decide) (by decide), aw_0 g]
theorem aw_kI {I X : Nat → Int → Int} (g : AW I X) : kI X = kI I := by
  unfold kI
  rw [aw_fnd g, g.1 95 (by decide) (by decide)]
theorem aw_so {I X : Nat → Int → Int} (g : AW I X) : so X = so I := by
  unfold so
  rw [g.1 95 (by decide) (by decide), g.1 96 (by decide) (by decide), g.1 97 (by decide) (by decide)]
theorem aw_WNm {I X : Nat → Int → Int} (g : AW I X) : WNm X = WNm I := by
  unfold WNm
  rw [aw_so g, g.1 98 (by decide) (by decide), aw_0 g]
theorem aw_RB {I X : Nat → Int → Int} (g : AW I X) : RB X = RB I := by
  unfold RB
  rw [aw_WB g, aw_WNm g, g.1 97 (by decide) (by decide)]
theorem aw_WU {I X : Nat → Int → Int} (g : AW I X) : WU X = WU I := by
  unfold WU
  rw [g.1 95 (by decide) (by decide), g.1 96 (by decide) (by decide), g.1 97 (by decide) (by decide), aw_0 g]
theorem aw_WD {I X : Nat → Int → Int} (g : AW I X) : WD X = WD I := by
  unfold WD
  rw [g.1 99 (by decide) (by decide), g.2 5 (by decide)]
theorem aw_nL {I X : Nat → Int → Int} (g : AW I X) : nL X = nL I := by
  unfold nL
  rw [g.1 95 (by decide) (by decide), g.1 96 (by decide) (by decide)]
theorem aw_lkP {I X : Nat → Int → Int} (g : AW I X) : lkP X = lkP I := by
  unfold lkP
  rw [g.1 95 (by decide) (by decide)]
theorem aw_lkR {I X : Nat → Int → Int} (g : AW I X) : lkR X = lkR I := by
  unfold lkR
  rw [aw_lkP g, aw_atR g]
theorem aw_WE {I X : Nat → Int → Int} (g : AW I X) : WE X = WE I := by
  unfold WE
  rw [g.1 129 (by decide) (by decide), g.1 131 (by decide) (by decide), aw_0 g]
theorem aw_WQc {I X : Nat → Int → Int} (g : AW I X) : WQc X = WQc I := by
  unfold WQc
  rw [g.1 104 (by decide) (by decide), g.1 105 (by decide) (by decide), g.1 106 (by decide) (by decide)]
theorem aw_WO {I X : Nat → Int → Int} (g : AW I X) : WO X = WO I := by
  unfold WO
  rw [g.1 121 (by decide) (by decide)]
theorem aw_PM {I X : Nat → Int → Int} (g : AW I X) : PM X = PM I := by
  unfold PM
  rw [g.1 108 (by decide) (by decide), g.1 109 (by decide) (by decide), g.1 110 (by decide) (by decide)]
theorem aw_PDs {I X : Nat → Int → Int} (g : AW I X) : PDs X = PDs I := by
  unfold PDs PD
  rw [g.1 108 (by decide) (by decide), g.1 111 (by decide) (by decide), g.1 112 (by decide) (by decide)]
theorem aw_ZO {I X : Nat → Int → Int} (g : AW I X) : ZO X = ZO I := by
  unfold ZO
  rw [g.1 101 (by decide) (by decide), g.1 102 (by decide) (by decide), aw_0 g]
theorem aw_NL {I X : Nat → Int → Int} (g : AW I X) : NL X = NL I := by
  unfold NL
  rw [g.1 104 (by decide) (by decide), g.1 105 (by decide) (by decide), g.1 119 (by decide) (by decide), g.1 122 (by decide) (by decide)]
theorem aw_eN {I X : Nat → Int → Int} (g : AW I X) : eN X = eN I := by
  unfold eN
  rw [g.1 129 (by decide) (by decide)]
theorem aw_chN {I X : Nat → Int → Int} (g : AW I X) : chN X = chN I := by
  unfold chN
  rw [g.1 128 (by decide) (by decide)]
theorem aw_lv {I X : Nat → Int → Int} (g : AW I X) {s o : Int} : ∀ n : Nat, lv X s o n = lv I s o n
  | 0 => by
    show (if X 102 (120 * s + o) = 0 then (0 : Int) else 1) = if I 102 (120 * s + o) = 0 then 0 else 1
    rw [g.1 102 (by decide) (by decide)]
  | n + 1 => by
    unfold lv
    rw [aw_lv g n, g.1 105 (by decide) (by decide), g.1 106 (by decide) (by decide)]
theorem aw_pv {I X : Nat → Int → Int} (g : AW I X) {s p : Int} (n : Nat) : pv X s p n = pv I s p n := pv_c (by rw [g.1 110 (by decide) (by decide)]) n (fun k _ _ => by rw [g.1 105 (by decide) (by decide), g.1 106 (by decide) (by decide)]; exact ⟨rfl, rfl⟩)
theorem aw_nv {I X : Nat → Int → Int} (g : AW I X) {s : Int} (n : Nat) : nv X s n = nv I s n := nv_c n (fun k _ _ => by rw [g.1 105 (by decide) (by decide), g.1 106 (by decide) (by decide)]; exact ⟨rfl, rfl⟩)
theorem aw_CN {I X : Nat → Int → Int} (g : AW I X) : CN X = CN I := by
  unfold CN nC
  rw [g.1 115 (by decide) (by decide), g.1 116 (by decide) (by decide), g.1 117 (by decide) (by decide), g.1 118 (by decide) (by decide), g.1 119 (by decide) (by decide), g.1 120 (by decide) (by decide), g.1 121 (by decide) (by decide), g.1 122 (by decide) (by decide)]
theorem aw_RD {I X : Nat → Int → Int} (g : AW I X) : RD X = RD I := by
  funext s
  unfold RD
  rw [g.1 101 (by decide) (by decide), g.1 104 (by decide) (by decide), g.1 109 (by decide) (by decide), aw_nv g, aw_CN g]
  simp only [aw_lv g, aw_pv g]
