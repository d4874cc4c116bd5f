/-! ===== the reference's methods (35): fetch, push ===== -/
theorem pkX_f {J : Nat → Int → Int} {en_ e : Int → Int} {s win deep t : Int} {a : Nat} (h : (a < 108 ∨ (108 < a ∧ a < 111) ∨ 114 < a) ∧ a ≠ 136) : pkX J en_ e s win deep t a = J a := by
  unfold pkX
  rw [PA_f ⟨by omega, h.2⟩]
  unfold pkM
  rw [rowU_ne (by omega), rowU_ne (by omega)]
theorem WT_pkX {J : Nat → Int → Int} {en_ e : Int → Int} {s win deep t : Int} (W : WT J) (K : WK (pkX J en_ e s win deep t)) : WT (pkX J en_ e s win deep t) := by
  have f : ∀ a, (a < 108 ∨ (108 < a ∧ a < 111) ∨ 114 < a) → a ≠ 136 → pkX J en_ e s win deep t a = J a := fun a p q => pkX_f ⟨p, q⟩
  refine ⟨?_, ?_, ?_, K, ?_, ?_, ?_⟩
  · rw [WB_e (by rw [f 94 (by decide) (by decide)]) (f 95 (by decide) (by decide)) (f 96 (by decide) (by decide)) (f 97 (by decide) (by decide)) (f 98 (by decide) (by decide))]; exact W.1
  · unfold WL; rw [f 101 (by decide) (by decide), f 103 (by decide) (by decide), f 107 (by decide) (by decide)]; exact W.2.1
  · unfold WN; rw [f 118 (by decide) (by decide)]; exact W.2.2.1
  · rw [f 109 (by decide) (by decide)]; exact W.2.2.2.2.1
  · rw [f 104 (by decide) (by decide)]; exact W.2.2.2.2.2.1
  · rw [f 97 (by decide) (by decide)]; exact W.2.2.2.2.2.2
theorem pkF_z {J : Nat → Int → Int} {en_ e : Int → Int} {s win deep t : Int} : pkF J en_ e s win deep t = zu2 (dO (pkX J en_ e s win deep t) s 1 (20 * s + J 108 s)) 109 (20 * s + J 108 s) 1 := by
  unfold pkF
  rw [zu2_row, dO_f (by omega), pkX_f (by decide)]
theorem WT_pkF {J : Nat → Int → Int} {en_ e : Int → Int} {s win deep t : Int} (W : WT J) (hs : s = 0 ∨ s = 1) (K : WK (pkX J en_ e s win deep t)) : WT (pkF J en_ e s win deep t) := by
  rw [pkF_z]
  exact WT_109 (WT_dO (WT_pkX W K) hs) (Or.inr rfl)
theorem pkF_f {J : Nat → Int → Int} {en_ e : Int → Int} {s win deep t : Int} {a : Nat} (h : (a < 101 ∨ (114 < a ∧ a < 120) ∨ 122 < a) ∧ a ≠ 136) : pkF J en_ e s win deep t a = J a := by
  unfold pkF
  rw [rowU_ne (by omega), dO_f (by omega), pkX_f ⟨by omega, h.2⟩]
noncomputable def fP (I Y : Nat → Int → Int) (en_ e : Int → Int) (u r l hf : Int) : Nat → Int → Int := if 0 < fN I u r l hf then pkF (tH Y 0) en_ e (1 - u) 4 4 1 else tH Y 0
theorem m3_t {I : Nat → Int → Int} {f p q : Int → Int} {x : Int} : m3 (tH I x) f p q = tH (m3 I f p q) x := by
  unfold m3
  rw [tH_rU (by decide), tH_rU (by decide), tH_rU (by decide)]
def fE (I Y : Nat → Int → Int) (en_ e : Int → Int) (u r l hf : Int) : Prop := Enum (fS I u r l hf) (KO I) (fN I u r l hf) e ∧ PG (pkX (tH Y 0) en_ e (1 - u) 4 4 1) (20 * (1 - u) + I 108 (1 - u)) (fun _ => False) ∧ pkX (tH Y 0) en_ e (1 - u) 4 4 1 136 = ind (fun _ => False)
theorem r265 {h : HP} {I : Nat → Int → Int} {en_ : Int → Int} {u r l hf c p : Int} {v7 v8 v9 v10 : MV} (L : LX 11 h 94) (W : WT I) (V : WV I) (R : WR I) (Rk : WRk I) (D : NmD I) (X : WX I) (E : EnN I en_) (Sc : WSc I) (hb7 : ∀ j, I 117 j = 0 ∨ I 117 j = 1) (hu : u = 0 ∨ u = 1) (hr : 0 ≤ r ∧ r ≤ 5) (hl : 0 ≤ l) (hc : 0 < c) (hlog : ∀ t, t = 0 ∨ t = 1 → 0 ≤ I 119 t ∧ I 119 t < 600) :
    ∃ Y e, (∀ a, a < 133 ∨ 138 < a → Y a = I a) ∧ WSc Y ∧ (f1 I u r → (Y 134 = ind (Wn I u (I 115 (6 * u + r)) l) ∧ Y 135 = ind (Hd I (1 - u)) ∧ Y 136 = ind (fS I u r l hf) ∧ Y 137 = ind (fS I u r l hf)) ∧ (f2 I u r l hf p → 0 < fN I u r l hf → fE I Y en_ e u r l hf)) ∧
      Go 265 0 [.inr (.inl (some 94)), .inl u, .inl r, .inl l, .inl hf, .inl c, .inl p, v7, v8, v9, v10, v10, v10] [] (mI h I) = @ite _ (f1 I u r ∧ f2 I u r l hf p) (Classical.propDecidable _) (some (mI h (nF (fP I Y en_ e u r l hf) u (1 - u) r (fN I u r l hf)), .inl (some (.inl (fN I u r l hf))))) (some (mI h (tH Y c), .inl (some (.inl 0)))) := by
  have ht := WB_t W.1
  have hT := W.1.1
  have hto : 1 - u = 0 ∨ 1 - u = 1 := by omega
  obtain ⟨t, htt⟩ : ∃ t, t = 1 - u := ⟨_, rfl⟩
  obtain ⟨x, hx⟩ : ∃ x, x = I 115 (6 * u + r) := ⟨_, rfl⟩
  have hxr := R (6 * u + r) (by omega) (by omega)
  have bad0 : ¬f1 I u r → Go 265 19 [.inr (.inl (some 94)), .inl u, .inl r, .inl l, .inl hf, .inl c, .inl p, .inl (I 115 (6 * u + r)), .inl (1 - u), v9, v10, v10, v10] [.inr (.inl (some 94))] (mI h I) = some (mI h (tH I c), .inl (some (.inl 0))) := by
    intro _
    rw [b265_19, b265_22 L, zu2_tI, tH_49, if_neg (by omega), b265_26]
  by_cases hf1 : f1 I u r
  rotate_left
  · refine ⟨I, fun _ => 0, fun _ _ => rfl, Sc, fun q => absurd q hf1, ?_⟩
    rw [if_neg (fun q => hf1 q.1), b265_0 L (by omega) (by omega) (by omega) (by omega)]
    by_cases h9 : I 94 9 = 0
    · rw [if_neg (fun q => q h9), b265_17]
      by_cases hx0 : I 115 (6 * u + r) = 0
      · rw [if_neg (fun q => q hx0), bad0 hf1]
      · exact absurd ⟨h9, hx0⟩ hf1
    · rw [if_pos h9, bad0 hf1]
  · have g0 : AG I (tH I 0) := AG_t (AG_r I)
    have W0 : WT (tH I 0) := by rw [ag_WT g0]; exact W
    have V0 : WV (tH I 0) := by rw [ag_WV g0]; exact V
    have e0 : tH I 0 94 0 = I 94 0 := tH_94 (by decide)
    have hz := tp_v W.1 V (x := x) (by rw [hx]; have := hf1.2; omega) (by rw [hx]; exact Rk (6 * u + r) (by omega) (by omega) hf1.2)
    have hzr := hz.1
    obtain ⟨P3, hP3, eP3⟩ := Sc 133 (by decide) (by decide)
    obtain ⟨P4, hP4, eP4⟩ := Sc 134 (by decide) (by decide)
    obtain ⟨P5, hP5, eP5⟩ := Sc 135 (by decide) (by decide)
    obtain ⟨P6, hP6, eP6⟩ := Sc 136 (by decide) (by decide)
    obtain ⟨P7, hP7, eP7⟩ := Sc 137 (by decide) (by decide)
    obtain ⟨f, ef⟩ := r262 (h := h) (I := tH I 0) (s := u) (x := x) (l := l) (v4 := vU) (v5 := vU) (v6 := vU) (v7 := vU) L W0.1 V0 (Z_S3 (I := tH I 0) ⟨P3, hP3, eP3⟩) ⟨P4, hP4, eP4⟩ hu (by rw [e0, hx]; have := hf1.2; omega) (by rw [ag_Vs g0, ag_tp g0]; exact hz) hl
    rw [ag_Wn g0, ag_Eg g0, ag_Wf g0, ag_tp g0, e0, m3_t] at ef
    obtain ⟨C, hC⟩ : ∃ C, C = Cl (Eg I u) (Wf I u (tp I x) l (I 94 0)) := ⟨_, rfl⟩
    obtain ⟨Y1, hY1⟩ : ∃ Y1, Y1 = m3 I f (ind C) (ind (Wn I u x l)) := ⟨_, rfl⟩
    rw [← hC, ← hY1] at ef
    have hWvr : ∀ j, Wv I u (tp I x) l j → 0 ≤ j ∧ j < I 94 0 := fun j ⟨n, q, _⟩ => (Rh_v W.1 V hz n j q).1
    have hWfr : ∀ j, Wf I u (tp I x) l (I 94 0) j → 0 ≤ j ∧ j < I 94 0 := by
      rintro j ⟨i, hi, ⟨n, q, _⟩, ej⟩
      have vi := Rh_v W.1 V hz n i q
      have w2 := (W.1.2 i vi.1.1 vi.1.2).1.2.2.2.2.2.1 vi.2
      have := (W.1.2 i vi.1.1 vi.1.2).2 0 ⟨Int.le_refl _, by omega, Or.inr (Or.inl ⟨vi.2, by decide⟩)⟩
      rw [ej]
      omega
    have hCr : ∀ j, C j → 0 ≤ j ∧ j < I 94 0 := fun j q => by rw [hC] at q; exact Cl_lt W.1 hWfr j q
    have hWnr : ∀ j, Wn I u x l j → 0 ≤ j ∧ j < I 94 0 := by
      rintro j ((q | q) | q)
      · exact hWvr j q
      · exact hCr j (by rw [hC]; exact q)
      · rw [q, hx]; have := hf1.2; omega
    have g1 : AG I Y1 := by rw [hY1]; exact ⟨fun a h n => m3_f (by omega) (by omega) (by omega), fun k n => by rw [m3_f (by decide) (by decide) (by decide)]⟩
    have Y1e : ∀ a, a ≠ 133 → a ≠ 134 → a ≠ 138 → Y1 a = I a := fun a q1 q2 q3 => by rw [hY1]; exact m3_f q1 q2 q3
    have Y1_133 : Y1 133 = ind C := by rw [hY1]; rfl
    have Y1_134 : Y1 134 = ind (Wn I u x l) := by rw [hY1]; rfl
    have S3C : S3 C := S3_l W.1 hCr
    obtain ⟨t1, ht1⟩ : ∃ t1 : Int, t1 = @ite _ (f2a I u r l p) (Classical.propDecidable _) 0 c := ⟨_, rfl⟩
    obtain ⟨tp2, htp2⟩ : ∃ z, z = tp I (I 115 (6 * t + r)) := ⟨_, rfl⟩
    have h57 : Go 265 0 [.inr (.inl (some 94)), .inl u, .inl r, .inl l, .inl hf, .inl c, .inl p, v7, v8, v9, v10, v10, v10] [] (mI h I) = Go 265 57 [.inr (.inl (some 94)), .inl u, .inl r, .inl l, .inl hf, .inl c, .inl p, .inl x, .inl t, .inl tp2, v10, v10, v10] [.inl t1, .inr (.inl (some 94))] (mI h (tH Y1 0)) := by
      have g1t : AG I (tH Y1 0) := AG_t g1
      have hr2 := R (6 * t + r) (by omega) (by omega)
      have e115 : tH Y1 0 115 = I 115 := g1t.1 115 (by decide) (by decide)
      rw [b265_0 L (by omega) (by omega) (by omega) (by omega), if_neg (fun q => q hf1.1), b265_17, if_pos hf1.2, b265_21, b265_22 L, zu2_tI, tH_49, if_pos (by decide), b265_28 L, ← hx, ef, caln_v, ← htt, b265_33 L (by omega) (by omega) (by omega), e115, r261 L (by rw [ag_0 g1t]; exact ht) (by omega), ag_tp g1t, ← htp2, caln_r, b265_43]
      have ok : f2a I u r l p → Go 265 56 [.inr (.inl (some 94)), .inl u, .inl r, .inl l, .inl hf, .inl c, .inl p, .inl x, .inl t, .inl tp2, v10, v10, v10] [.inr (.inl (some 94))] (mI h (tH Y1 0)) = Go 265 57 [.inr (.inl (some 94)), .inl u, .inl r, .inl l, .inl hf, .inl c, .inl p, .inl x, .inl t, .inl tp2, v10, v10, v10] [.inl t1, .inr (.inl (some 94))] (mI h (tH Y1 0)) := by
        intro q
        rw [b265_56, ht1, if_pos q]
      by_cases q1 : p = 0
      · rw [if_pos q1, ok (fun q => absurd q1 q)]
      · rw [if_neg q1, b265_47]
        by_cases q2 : tp2 < 0
        · rw [if_pos q2, ok (fun _ q => by rw [← htt, ← htp2] at q; omega)]
        · have hb2 : tp2 < 120 := by
            rw [htp2]
            unfold tp
            split
            · decide
            · split
              · have := (fnd_lt (I := I) (x := I 97 (12 * (I 115 (6 * t + r) - 1) + 0)) ht.1).2.1
                unfold atR
                omega
              · omega
          have e134 : tH Y1 0 134 = ind (Wn I u x l) := by rw [tH_n (by decide), Y1_134]
          rw [if_neg q2, b265_49 L (by omega), e134]
          by_cases q3 : Wn I u x l tp2
          · rw [if_pos (by rw [ne_eq, ind_at]; exact fun q => q q3), ok (fun _ _ => by rw [← htt, ← htp2, ← hx]; exact q3)]
          · have hn : ¬f2a I u r l p := fun q => q3 (by
              have := q q1 (by rw [← htt, ← htp2]; omega)
              rw [← htt, ← htp2, ← hx] at this
              exact this)
            rw [if_neg (by rw [ne_eq, ind_at]; exact fun q => q q3), b265_54, ht1, if_neg hn]
    have ht1b : t1 = 0 ∨ t1 = c := by
      rw [ht1]
      split
      · exact Or.inl rfl
      · exact Or.inr rfl
    have g1t : AG I (tH Y1 t1) := AG_t g1
    obtain ⟨Y2, hY2⟩ : ∃ Y2, Y2 = rowU (rowU Y1 133 (ind (Cl (Eg I t) (Rf I t)))) 135 (ind (Hd I t)) := ⟨_, rfl⟩
    have hRfr : ∀ j, Rf I t j → 0 ≤ j ∧ j < I 94 0 := fun j ⟨k, a, b, c, d⟩ => by have := R k (by omega) (by omega); omega
    have S3R : S3 (Cl (Eg I t) (Rf I t)) := S3_l W.1 (Cl_lt W.1 hRfr)
    have S3H : S3 (Hd I t) := fun j q => S3R j q.1
    have h61 : Go 265 57 [.inr (.inl (some 94)), .inl u, .inl r, .inl l, .inl hf, .inl c, .inl p, .inl x, .inl t, .inl tp2, v10, v10, v10] [.inl t1, .inr (.inl (some 94))] (mI h (tH Y1 0)) = Go 265 61 [.inr (.inl (some 94)), .inl u, .inl r, .inl l, .inl hf, .inl c, .inl p, .inl x, .inl t, .inl tp2, v10, v10, v10] [] (mI h (tH Y2 t1)) := by
      rw [b265_57 L, zu2_tH, r263 L (by rw [ag_WB g1t]; exact W.1) (by rw [ag_WK g1t]; exact W.2.2.2.1) (Z_S3 (I := tH Y1 t1) ⟨C, S3C, Y1_133⟩) ⟨P5, hP5, (Y1e 135 (by decide) (by decide) (by decide)).trans eP5⟩ (by rw [ag_WR g1t]; exact R) (by omega), caln_v, ag_Eg g1t, ag_Rf g1t, ag_Hd g1t, hY2, tH_rU (by decide), tH_rU (by decide)]
    have g2 : AG I Y2 := by rw [hY2]; exact AG_U (AG_U g1 (by decide)) (by decide)
    have S3f : S3 (fS I u r l hf) := fun j q => by have := hWnr j (by rw [hx]; exact q.1); omega
    have Y2_134 : Y2 134 = ind (Wn I u (I 115 (6 * u + r)) l) := by rw [hY2, rowU_ne (by decide), rowU_ne (by decide), Y1_134, hx]
    have Y2_135 : Y2 135 = ind (Hd I (1 - u)) := by rw [hY2, rowU_eq, htt]
    obtain ⟨Y3, hY3⟩ : ∃ Y3, Y3 = rowU (rowU Y2 136 (ind (fS I u r l hf))) 137 (ind (fS I u r l hf)) := ⟨_, rfl⟩
    obtain ⟨w12, e138⟩ := r265a (h := h) (I := I) (Y := Y2) (u := u) (r := r) (l := l) (hf := hf) (c := c) (p := p) (x7 := x) (x9 := tp2) (v12 := v10) (t := t1) L g2 W hu Y2_134 Y2_135 ⟨P6, hP6, by rw [hY2, rowU_ne (by decide), rowU_ne (by decide), Y1e 136 (by decide) (by decide) (by decide), eP6]⟩ ⟨P7, hP7, by rw [hY2, rowU_ne (by decide), rowU_ne (by decide), Y1e 137 (by decide) (by decide) (by decide), eP7]⟩ S3f
    rw [← hY3, ← htt] at e138
    have g3 : AG I Y3 := by rw [hY3]; exact AG_U (AG_U g2 (by decide)) (by decide)
    have Y3e : ∀ a, a < 133 ∨ 138 < a → Y3 a = I a := fun a q => by
      rw [hY3, rowU_ne (by omega), rowU_ne (by omega), hY2, rowU_ne (by omega), rowU_ne (by omega), Y1e a (by omega) (by omega) (by omega)]
    have Y3_134 : Y3 134 = ind (Wn I u (I 115 (6 * u + r)) l) := by rw [hY3, rowU_ne (by decide), rowU_ne (by decide), Y2_134]
    have Y3_135 : Y3 135 = ind (Hd I (1 - u)) := by rw [hY3, rowU_ne (by decide), rowU_ne (by decide), Y2_135]
    have Y3_136 : Y3 136 = ind (fS I u r l hf) := by rw [hY3, rowU_ne (by decide), rowU_eq]
    have Y3_137 : Y3 137 = ind (fS I u r l hf) := by rw [hY3, rowU_eq]
    have Y3_133 : Y3 133 = ind (Cl (Eg I t) (Rf I t)) := by rw [hY3, rowU_ne (by decide), rowU_ne (by decide), hY2, rowU_ne (by decide), rowU_eq]
    have Sc3 : WSc Y3 := by
      intro a a0 a1
      by_cases q3 : a = 133
      · subst q3; exact ⟨_, S3R, Y3_133⟩
      · by_cases q4 : a = 134
        · subst q4; exact ⟨_, fun j q => by have := hWnr j (by rw [hx]; exact q); omega, Y3_134⟩
        · by_cases q5 : a = 135
          · subst q5; exact ⟨_, htt ▸ S3H, Y3_135⟩
          · by_cases q6 : a = 136
            · subst q6; exact ⟨_, S3f, Y3_136⟩
            · have : a = 137 := by omega
              subst this; exact ⟨_, S3f, Y3_137⟩
    obtain ⟨n, hn⟩ : ∃ n, n = fN I u r l hf := ⟨_, rfl⟩
    have hnb := cN_b (P := fS I u r l hf) (I 94 0).toNat
    have hn0 : 0 ≤ n := by rw [hn]; exact hnb.1
    have g3t : ∀ z, AG I (tH Y3 z) := fun z => AG_t g3
    have h140 : Go 265 138 [.inr (.inl (some 94)), .inl u, .inl r, .inl l, .inl hf, .inl c, .inl p, .inl x, .inl t, .inl tp2, .inl (b01 (∀ k, fS I u r l hf k → Gd I u k)), .inl 120, w12] [] (mI h (tH Y3 t1)) = Go 265 140 [.inr (.inl (some 94)), .inl u, .inl r, .inl l, .inl hf, .inl c, .inl p, .inl x, .inl t, .inl tp2, .inl (b01 (∀ k, fS I u r l hf k → Gd I u k)), .inl 120, w12] [.inl n] (mI h (tH Y3 t1)) := by
      rw [b265_138 L, r248 L (by rw [ag_0 (g3t t1)]; exact ht), caln_r, cN_136 (I := tH Y3 t1) (P := fS I u r l hf) (by rw [tH_n (by decide), Y3_136]), ag_0 (g3t t1), hn]
      rfl
    rw [h57, h61, e138, h140, b265_140]
    have lose : ∀ (x10 : Int), ¬f2 I u r l hf p → Go 265 152 [.inr (.inl (some 94)), .inl u, .inl r, .inl l, .inl hf, .inl c, .inl p, .inl x, .inl t, .inl tp2, .inl x10, .inl n, w12] [.inr (.inl (some 94))] (mI h (tH Y3 t1)) = some (mI h (tH Y3 c), .inl (some (.inl 0))) := by
      intro x10 _
      rw [b265_152, b265_156 L, zu2_tH, tH_49, if_neg (by omega), b265_160]
    have e108 : ∀ z, tH Y3 z 108 = I 108 := fun z => (g3t z).1 108 (by decide) (by decide)
    have res : ∃ e, (f2 I u r l hf p → 0 < fN I u r l hf → fE I Y3 en_ e u r l hf) ∧
        (if b01 (∀ k, fS I u r l hf k → Gd I u k) = 0 then Go 265 152 [.inr (.inl (some 94)), .inl u, .inl r, .inl l, .inl hf, .inl c, .inl p, .inl x, .inl t, .inl tp2, .inl (b01 (∀ k, fS I u r l hf k → Gd I u k)), .inl n, w12] [.inr (.inl (some 94))] (mI h (tH Y3 t1)) else Go 265 144 [.inr (.inl (some 94)), .inl u, .inl r, .inl l, .inl hf, .inl c, .inl p, .inl x, .inl t, .inl tp2, .inl (b01 (∀ k, fS I u r l hf k → Gd I u k)), .inl n, w12] [.inr (.inl (some 94))] (mI h (tH Y3 t1))) =
        @ite _ (f1 I u r ∧ f2 I u r l hf p) (Classical.propDecidable _) (some (mI h (nF (fP I Y3 en_ e u r l hf) u (1 - u) r (fN I u r l hf)), .inl (some (.inl (fN I u r l hf))))) (some (mI h (tH Y3 c), .inl (some (.inl 0)))) := by
      have nope : ¬f2 I u r l hf p → ∀ E2 : Option (HP × OUT), E2 = some (mI h (tH Y3 c), .inl (some (.inl 0))) → ∃ e, (f2 I u r l hf p → 0 < fN I u r l hf → fE I Y3 en_ e u r l hf) ∧ E2 = @ite _ (f1 I u r ∧ f2 I u r l hf p) (Classical.propDecidable _) (some (mI h (nF (fP I Y3 en_ e u r l hf) u (1 - u) r (fN I u r l hf)), .inl (some (.inl (fN I u r l hf))))) (some (mI h (tH Y3 c), .inl (some (.inl 0)))) := by
        intro q E2 hE
        exact ⟨fun _ => 0, fun q2 => absurd q2 q, by rw [hE, if_neg (fun q2 => q q2.2)]⟩
      by_cases q1 : ∀ k, fS I u r l hf k → Gd I u k
      rotate_left
      · have hn2 : ¬f2 I u r l hf p := fun q => q1 q.2.1
        rw [if_pos (b01_f q1)]
        exact nope hn2 _ (lose _ hn2)
      · rw [b01_t q1, if_neg neg1_ne, b265_144]
        by_cases q2 : f2a I u r l p
        rotate_left
        · have hn2 : ¬f2 I u r l hf p := fun q => q2 q.1
          have t1c : t1 = c := by rw [ht1, if_neg q2]
          refine nope hn2 _ ?_
          have l154 : Go 265 154 [.inr (.inl (some 94)), .inl u, .inl r, .inl l, .inl hf, .inl c, .inl p, .inl x, .inl t, .inl tp2, .inl 1, .inl n, w12] [.inr (.inl (some 94))] (mI h (tH Y3 t1)) = some (mI h (tH Y3 c), .inl (some (.inl 0))) := by
            rw [b265_154 L, tH_49, t1c, b265_156 L, zu2_tH, tH_49, if_neg (by omega), b265_160]
          by_cases q3 : n ≤ 0
          · rw [if_pos q3, l154]
          · rw [if_neg q3, b265_146 L (by omega), e108]
            by_cases q4 : I 108 t = 20
            · rw [if_neg (fun q => q q4), lose _ hn2]
            · rw [if_pos q4, l154]
        · have t10 : t1 = 0 := by rw [ht1, if_pos q2]
          have W3 : WT (tH Y3 0) := by rw [ag_WT (g3t 0)]; exact W
          have l162 : Go 265 154 [.inr (.inl (some 94)), .inl u, .inl r, .inl l, .inl hf, .inl c, .inl p, .inl x, .inl t, .inl tp2, .inl 1, .inl n, w12] [.inr (.inl (some 94))] (mI h (tH Y3 t1)) = Go 265 162 [.inr (.inl (some 94)), .inl u, .inl r, .inl l, .inl hf, .inl c, .inl p, .inl x, .inl t, .inl tp2, .inl 1, .inl n, w12] [] (mI h (tH Y3 0)) := by
            rw [b265_154 L, tH_49, t10, b265_156 L, zu2_tH, tH_49, if_pos (by decide)]
          by_cases q3 : n ≤ 0
          · have hf2 : f2 I u r l hf p := ⟨q2, q1, fun q => by omega⟩
            refine ⟨fun _ => 0, fun _ q => by omega, ?_⟩
            have h117 : ∀ j, tH Y3 0 117 j = 0 ∨ tH Y3 0 117 j = 1 := by rw [(g3t 0).1 117 (by decide) (by decide)]; exact hb7
            rw [if_pos q3, l162, b265_162, if_pos q3, if_pos ⟨hf1, hf2⟩, b265_171 L, r264 L W3 h117 hu (by omega) hr (by rw [(g3t 0).1 119 (by decide) (by decide)]; exact hlog t (by omega)), caln_v, b265_177]
            unfold fP
            rw [← hn, if_neg (by omega), htt]
          · rw [if_neg q3, b265_146 L (by omega), e108]
            by_cases q4 : I 108 t = 20
            · have hn2 : ¬f2 I u r l hf p := fun q => q.2.2 (by omega) (by rw [← htt]; exact q4)
              rw [if_neg (fun q => q q4)]
              exact nope hn2 _ (lose _ hn2)
            · have hf2 : f2 I u r l hf p := ⟨q2, q1, fun _ => by rw [← htt]; exact q4⟩
              have hms := W.2.2.2.1.1 t (by omega)
              obtain ⟨e, d1, d2, d3, d4⟩ := r246 (h := h) (J := tH Y3 0) (en_ := en_) (s := t) (win := 4) (deep := 4) (t := 1) (P := fS I u r l hf) (v5 := vU) (v6 := vU) (v7 := vU) L W3 (by rw [ag_NmD (g3t 0)]; exact D) (by rw [ag_WX (g3t 0)]; exact X) (by rw [ag_EnN (g3t 0)]; exact E) (by omega) (by decide) (Or.inr rfl) (by rw [e108]; omega)
                (by rw [tH_n (by decide), Y3_136]) (fun j q => by rw [ag_0 (g3t 0)]; exact hWnr j (by rw [hx]; exact q.1)) (fun _ z hz q => by
                  rw [tH_n (by decide), Y3_135, ne_eq, ind_at, Classical.not_not] at hz
                  exact q.2.1 hz)
              rw [ag_0 (g3t 0), ag_KO (g3t 0)] at d1
              rw [e108] at d2 d4
              have hfE : fE I Y3 en_ e u r l hf := ⟨d1, by rw [← htt]; exact d2, by rw [← htt]; exact d3⟩
              refine ⟨e, fun _ _ => hfE, ?_⟩
              have WP := WT_pkF (en_ := en_) (e := e) (win := 4) (deep := 4) (t := 1) W3 (show t = 0 ∨ t = 1 by omega) d2.1
              have h117 : ∀ j, pkF (tH Y3 0) en_ e t 4 4 1 117 j = 0 ∨ pkF (tH Y3 0) en_ e t 4 4 1 117 j = 1 := by rw [pkF_f (by decide), (g3t 0).1 117 (by decide) (by decide)]; exact hb7
              rw [if_pos q4, l162, b265_162, if_neg q3, if_pos ⟨hf1, hf2⟩, b265_164 L, d4, caln_r, b265_170, b265_171 L, r264 L WP h117 hu (by omega) hr (by rw [pkF_f (by decide), (g3t 0).1 119 (by decide) (by decide)]; exact hlog t (by omega)), caln_v, b265_177]
              unfold fP
              rw [← hn, if_pos (by omega), htt]
    obtain ⟨e, d1, d2⟩ := res
    exact ⟨Y3, e, Y3e, Sc3, fun _ => ⟨⟨Y3_134, Y3_135, Y3_136, Y3_137⟩, d1⟩, d2⟩
