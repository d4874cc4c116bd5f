set_option maxHeartbeats 8000000 in
theorem ft_all {l : Launch} (hl : l.stackTraces = false) {D : va_G} {cA : Nat → ClassId} {B0 : Nat} (OK : zOK) : ∀ n, FT l D cA B0 n := by
  intro n
  induction n with
  | zero =>
    intro y ip ls st h hf o hz
    simp [ex] at hz
  | succ n F =>
    intro y ip ls st h hf o hz hy p e R s m args below meth c H locs Q al al0 lm n0 c0 s0 C hbf hR V FLs S X hn hc0 hs0 hcR hsR ER EX
    have hB0 : B0 ≤ s.heap.size := hbf.2.2.2.2.2.2
    unfold ex at hz
    split at hz
    · cases hz
    · rename_i v hv
      rw [zPc_at hv]
      split at hz
      · -- a call
        rename_i h18
        split at hz
        · rename_i hg
          obtain ⟨g1, g2, g3, g4, g5⟩ := hg
          cases he : ex n (qb v) 0 (zpad (qb v) (st.take (zNa (qb v))).reverse) [] h with
          | none => rw [he] at hz; cases hz
          | some q =>
            obtain ⟨h1, oc⟩ := q
            have hle1 := ex_mono _ _ _ _ _ _ _ _ he
            have hle2 : hle h1 hf := by
              rw [he] at hz
              rcases oc with (_ | r) | e'
              · exact ex_mono _ _ _ _ _ _ _ _ hz
              · exact ex_mono _ _ _ _ _ _ _ _ hz
              · dsimp only at hz
                split at hz
                · split at hz
                  · cases hz; exact hle.rf
                  · cases hz
                · exact hle.tr (h1 := hOpq h1) (show hle h1 (hOpq h1) from ⟨Nat.le_succ _, Nat.le_refl _, Nat.le_refl _⟩) (ex_mono _ _ _ _ _ _ _ _ hz)
            obtain ⟨l1, l2, l3⟩ := hle1
            obtain ⟨r1, r2, r3⟩ := hle2
            obtain ⟨hnx, hrun⟩ := call_run hl OK F hy hv h18 C hbf hR V FLs.size S (lm := lm) (cells := h.1.2.1 - c0) (slots := h.1.2.2 - s0) ⟨by omega, by omega⟩ g1 g2 g3 g4 g5 he
            have ec : h.1.2.1 - c0 + (h1.1.2.1 - h.1.2.1) = h1.1.2.1 - c0 := by omega
            have es : h.1.2.2 - s0 + (h1.1.2.2 - h.1.2.2) = h1.1.2.2 - s0 := by omega
            intro T hT XT
            rcases hrun T hT XT with ⟨vv, st₀, t, T', L, e0, X', hL, e1, e2, ⟨r, al1, ho, hvv, hX1, hRH, hSX, hFr, hov⟩, go⟩ | ⟨q, st₀, t, T', L, E, ce, e0, X', hL, e1, e2, ⟨e', al1, ho, rfl, hX1, hRH, hSX, hFr, -⟩, hce, hcv, hcl, go⟩
            · -- it returns
              rw [ec, es] at X'
              have hva : vv = r.map (iV al1) := by cases hvv; rfl
              have hvm : t.vm.Alike s.vm := by rw [← e2]; exact X'.warmed.alike.symm
              unfold va_F at hFr
              rw [e0] at hFr
              have hS1 : va_S (zA B0) s.heap t.heap (locs ++ L) := by
                refine ⟨Nat.le_trans V.2.2.1 hFr.1, fun q hq hA => ?_, fun z hz => ?_⟩
                · rw [hFr.2 q (Nat.lt_of_lt_of_le hq V.2.2.1) hA]
                  exact V.2.2.2.1 q hq hA
                · rcases List.mem_append.mp hz with hz | hz
                  · exact V.2.2.2.2 z hz
                  · exact hL z hz
              have V1 : HV D cA B0 al1 h1 s t.heap (locs ++ L) := ⟨hRH, hSX.moved hvm, hS1⟩
              have hS2 : ∀ w ∈ r.toList ++ st.drop (zNa (qb v)), oV (hN h1) w := by
                intro w hw
                rcases List.mem_append.mp hw with hw | hw
                · exact hov w (by simpa using hw)
                · exact oV_mono l1 (S w (List.mem_of_mem_drop hw))
              have hcont : ex n y (ip + 1) ls (r.toList ++ st.drop (zNa (qb v))) h1 = some (hf, o) := by
                rw [he, ho] at hz
                cases r with
                | none => exact hz
                | some r => exact hz
              have K := F y (ip + 1) ls (r.toList ++ st.drop (zNa (qb v))) h1 hf o hcont hy p e R s m args below meth c t.heap (locs ++ L) Q al1 al0 lm n0 c0 s0 C hbf hR V1 (FLs.ext hX1 l1) hS2 (X.tr hX1 hn) (Nat.le_trans hn l1) (by omega) (by omega) hcR hsR ER EX
              rw [hnx] at K
              have est : (r.toList ++ st.drop (zNa (qb v))).map (iV al1) = vv.toList ++ (st.drop (zNa (qb v))).map (iV al) := by
                rw [List.map_append, hva]
                congr 1
                · cases r <;> rfl
                · exact List.map_congr_left fun w hw => iV_ext hX1 (S w (List.mem_of_mem_drop hw))
              rw [est] at K
              obtain ⟨t2, a1, b1⟩ := K T' e1 X'
              exact ⟨t2, go t2 a1, b1⟩
            · -- it throws
              rw [ec, es] at X'
              have hvm : t.vm.Alike s.vm := by rw [← e2]; exact X'.warmed.alike.symm
              unfold va_F at hFr
              rw [e0] at hFr
              have hS1 : va_S (zA B0) s.heap t.heap (locs ++ L) := by
                refine ⟨Nat.le_trans V.2.2.1 hFr.1, fun q hq hA => ?_, fun z hz => ?_⟩
                · rw [hFr.2 q (Nat.lt_of_lt_of_le hq V.2.2.1) hA]
                  exact V.2.2.2.1 q hq hA
                · rcases List.mem_append.mp hz with hz | hz
                  · exact V.2.2.2.2 z hz
                  · exact hL z hz
              have V1 : HV D cA B0 al1 h1 s t.heap (locs ++ L) := ⟨hRH, hSX.moved hvm, hS1⟩
              rw [he, ho] at hz
              dsimp only at hz
              have kx : vx_W p l e R s m args below meth c t.heap (locs ++ L) (h1.1.2.1 - c0) (h1.1.2.2 - s0) Q (F0 m (qpc v) lm ((st.drop (zNa (qb v))).map (iV al))) q := by
                split at hz
                · split at hz
                  · rename_i hH
                    cases hz
                    exact (EX e' rfl).2 al1 t.heap (locs ++ L) lm ip v q ce _ hv h18 (by simpa using hH) (X.tr hX1 hn) (Nat.le_trans hn l1) V1 hce hcv hcl (by omega) (by omega)
                  · cases hz
                · rename_i tt htt
                  have hex3 : e' < 3 := by
                    unfold zhand at htt
                    cases hfx : zhn.find? (fun q => q.1 == y && decide (q.2.1 ≤ qpc v) && decide (qpc v < q.2.2.1) && q.2.2.2.2.2.1 == e') with
                    | none => rw [hfx] at htt; cases htt
                    | some w =>
                      have h8 := (zhn_w (List.mem_of_find?_eq_some hfx)).2.2.2.1
                      have h9 := List.find?_some hfx
                      simp at h9
                      omega
                  obtain ⟨X2, V2⟩ := HV.opq (q := q) V1
                  refine catch_at hbf C hy hex3 htt hce hcv hcl ?_
                  have hS2 : ∀ w ∈ ([.inr (.inl (some (hN h1)))] : List MV), oV (hN (hOpq h1)) w := by
                    intro w hw
                    have hw := List.mem_singleton.mp hw
                    subst hw
                    exact Nat.lt_succ_self _
                  have K := F y tt ls [.inr (.inl (some (hN h1)))] (hOpq h1) hf o hz hy p e R s m args below meth c t.heap (locs ++ L) Q (zup al1 (hN h1) q) al0 lm n0 c0 s0 C hbf hR V2 ((FLs.ext hX1 l1).ext X2 (Nat.le_succ _)) hS2 ((X.tr hX1 hn).tr X2 (Nat.le_trans hn l1)) (Nat.le_trans (Nat.le_trans hn l1) (Nat.le_succ _)) (by show c0 ≤ h1.1.2.1; omega) (by show s0 ≤ h1.1.2.2; omega) hcR hsR ER EX
                  have e5 : ([.inr (.inl (some (hN h1)))] : List MV).map (iV (zup al1 (hN h1) q)) = [.ref q] := by simp [iV, zup]
                  rw [e5] at K
                  exact K
              obtain ⟨t2, a1, b1⟩ := kx T' e1 X'
              exact ⟨t2, go.trans a1, b1⟩
        · cases hz
      · rename_i h18
        split at hz
        · cases hz
        · rename_i ip1 ls1 st1 h1 hst
          obtain ⟨hle1, hcase⟩ := zstep_l hst
          have hle2 := ex_mono _ _ _ _ _ _ _ _ hz
          obtain ⟨l1, l2, l3⟩ := hle1
          obtain ⟨r1, r2, r3⟩ := hle2
          rcases hcase with ⟨hf1, hq⟩ | ⟨hf1, hq⟩ | ⟨hf1, hq⟩ | ⟨hf1, hq⟩
          · refine sd1 C hbf hv (OK.1 y hy ip) hf1 h18 hq hR FLs S (fun lm1 hh1 FL1 S1 => ?_)
            subst hh1
            exact F y ip1 ls1 st1 _ hf o hz hy p e R s m args below meth c H locs Q al al0 lm1 n0 c0 s0 C hbf hR V FL1 S1 X hn hc0 hs0 hcR hsR ER EX
          · refine sd2 C hv (OK.1 y hy ip) hf1 h18 hq S (fun hh1 hls S1 => ?_)
            subst hh1
            subst hls
            exact F y ip1 _ st1 _ hf o hz hy p e R s m args below meth c H locs Q al al0 lm n0 c0 s0 C hbf hR V FLs S1 X hn hc0 hs0 hcR hsR ER EX
          · refine sd3 C hbf hv (OK.1 y hy ip) hf1 h18 hq ⟨by omega, by omega⟩ hB0 V S (fun al1 H1 locs1 X1 hn1 hc1 hs1 V1 hls S1 => ?_)
            subst hls
            have K := F y ip1 _ st1 h1 hf o hz hy p e R s m args below meth c H1 locs1 Q al1 al0 lm n0 c0 s0 C hbf hR V1 (FLs.ext X1 hn1) S1 (X.tr X1 hn) (Nat.le_trans hn hn1) (by omega) (by omega) hcR hsR ER EX
            have ec : h.1.2.1 - c0 + (h1.1.2.1 - h.1.2.1) = h1.1.2.1 - c0 := by omega
            have es : h.1.2.2 - s0 + (h1.1.2.2 - h.1.2.2) = h1.1.2.2 - s0 := by omega
            rw [ec, es]
            exact K
          · refine sd5 C hv (OK.1 y hy ip) hf1 h18 hq S (fun hh1 hls S1 => ?_)
            subst hh1
            subst hls
            exact F y ip1 _ st1 _ hf o hz hy p e R s m args below meth c H locs Q al al0 lm n0 c0 s0 C hbf hR V FLs S1 X hn hc0 hs0 hcR hsR ER EX
        · rename_i r hst
          cases hz
          obtain ⟨hle1, hf1, hq⟩ := zstep_r hst
          unfold zs4 zout at hq
          split at hq
          · rename_i x hop
            split at hq
            · rename_i hsh
              have hq := Option.some.inj hq
              have hq := Sum.inr.inj hq
              obtain ⟨rfl, rfl⟩ := Prod.mk.inj hq
              exact ER _ rfl al H locs lm ip v hv X hn V (fun w hw => by cases hw; exact S _ List.mem_cons_self) FLs.size hc0 hs0 (Or.inl ⟨hop, x, rfl, hsh⟩)
            · cases hq
          · rename_i x hop
            split at hq
            · have hq := Option.some.inj hq
              have hq := Sum.inr.inj hq
              obtain ⟨rfl, rfl⟩ := Prod.mk.inj hq
              exact ER _ rfl al H locs lm ip v hv X hn V (fun w hw => by cases hw; exact S _ List.mem_cons_self) FLs.size hc0 hs0 (Or.inr (Or.inl ⟨hop, x, rfl⟩))
            · cases hq
          · rename_i hop
            split at hq
            · have hq := Option.some.inj hq
              have hq := Sum.inr.inj hq
              obtain ⟨rfl, rfl⟩ := Prod.mk.inj hq
              exact ER _ rfl al H locs lm ip v hv X hn V (fun w hw => by cases hw) FLs.size hc0 hs0 (Or.inr (Or.inr ⟨hop, rfl⟩))
            · cases hq
          · rename_i hop
            split at hq
            · rename_i hst4
              have hq := Option.some.inj hq
              have hq := Sum.inr.inj hq
              obtain ⟨rfl, rfl⟩ := Prod.mk.inj hq
              exact (EX _ rfl).1 al H locs lm ip v h _ hv hop rfl rfl X hn V hst4 FLs.size hc0 hs0
            · cases hq
          · cases hq
