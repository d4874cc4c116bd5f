/-! ===== the calls (18): what is planned to be sent ===== -/
section OPS12
variable {n m : Int} {h h1 : HP} {I I1 J K M D : Nat → Int → Int}
theorem HE_cc (f : ∀ a, a = 108 ∨ a = 109 ∨ (111 ≤ a ∧ a ≤ 114) → K a = J a) : HE K = HE J := by
  unfold HE GE
  rw [f 108 (by decide), f 109 (by decide), f 111 (by decide), f 112 (by decide), f 113 (by decide), f 114 (by decide)]
theorem Th_dO {s a v o : Int} (ho : 0 ≤ o ∧ o < J 94 0) (hT : J 94 0 ≤ 120) : Th (dO J s a v) s o ↔ Th J s o := by
  have e1 : HE (dO J s a v) = HE J := HE_cc (fun b hb => dO_f (by omega))
  have e2 : 0 < dO J s a v 101 (120 * s + o) ↔ 0 < J 101 (120 * s + o) := by
    unfold dO
    rw [dA_f (by decide)]
    unfold dJ
    split
    · have y1 : sY J s 101 = s1 J s := by
        unfold sY sJ
        rw [rowU_ne (by decide), kN_f (by decide) (by decide) (by decide), rowU_ne (by decide), rowU_eq]
      rw [y1]
      unfold s1 s2
      rw [fillR_in (by omega), fillR_in (by omega)]
      by_cases q : 0 < J 101 (120 * s + o)
      · rw [b01_t q, if_neg (by decide)]
        exact ⟨fun _ => q, fun _ => by decide⟩
      · rw [b01_f q, if_pos rfl]
        exact ⟨fun r => absurd r (by decide), fun r => absurd r q⟩
    · exact Iff.rfl
  unfold Th
  rw [e1, e2]
theorem bE_dO {s a v k x : Int} {b : Nat} (hb : (115 ≤ b ∧ b ≤ 119) ∨ 123 ≤ b) : bE (dO J s a v) k x b = bE J k x b := by
  have d : ∀ c, (110 < c ∧ c < 120) ∨ 122 < c ∨ c < 101 → dO J s a v c = J c := fun c hc => dO_f (by omega)
  have hc : ∀ A B : Nat → Int → Int, (∀ c, (110 < c ∧ c < 120) ∨ 122 < c ∨ c < 101 → A c = B c) → bC A k x b = bC B k x b := fun A B q => by
    unfold bC
    rw [q 115 (by decide), q 119 (by decide), q 123 (by decide), q 124 (by decide), q 125 (by decide), q 94 (by decide)]
    by_cases c1 : b = 115
    · subst c1; rw [rowU_eq, rowU_eq]
    by_cases c2 : b = 119
    · subst c2; rw [rowU_ne (by decide), rowU_eq, rowU_ne (by decide), rowU_eq]
    by_cases c3 : b = 125
    · subst c3; rw [rowU_ne (by decide), rowU_ne (by decide), rowU_eq, rowU_ne (by decide), rowU_ne (by decide), rowU_eq]
    by_cases c4 : b = 124
    · subst c4; rw [rowU_ne (by decide), rowU_ne (by decide), rowU_ne (by decide), rowU_eq, rowU_ne (by decide), rowU_ne (by decide), rowU_ne (by decide), rowU_eq]
    by_cases c5 : b = 123
    · subst c5; rw [rowU_ne (by decide), rowU_ne (by decide), rowU_ne (by decide), rowU_ne (by decide), rowU_eq, rowU_ne (by decide), rowU_ne (by decide), rowU_ne (by decide), rowU_ne (by decide), rowU_eq]
    rw [rowU_ne c1, rowU_ne c2, rowU_ne c3, rowU_ne c4, rowU_ne c5, rowU_ne c1, rowU_ne c2, rowU_ne c3, rowU_ne c4, rowU_ne c5]
    exact q b (by omega)
  unfold bE
  rw [d 115 (by decide)]
  split
  · exact d b (by omega)
  · exact hc _ _ d
theorem nwP_U {a c : Nat} {f : Int → Int} (hc : c < a) : rowU (nwP I a) c f = nwP (rowU I c f) a := by
  funext b
  by_cases e : b = c
  · subst e
    rw [rowU_eq, nwP_f (Or.inl hc), rowU_eq]
  · rw [rowU_ne e]
    by_cases d : b < a ∨ a + 5 < b
    · rw [nwP_f d, nwP_f d, rowU_ne e]
    · unfold nwP nuQ
      by_cases b4 : b = a + 4
      · subst b4
        rw [rowU_eq, rowU_eq, rowU_ne (by omega), rowU_eq, rowU_ne (by omega), rowU_eq]
      · rw [rowU_ne b4, rowU_ne b4]
        by_cases b5 : b = a + 5
        · subst b5; rw [rowU_eq, rowU_eq]
        · rw [rowU_ne b5, rowU_ne b5, rowU_ne b4, rowU_ne b4]
          by_cases b3 : b = a + 3
          · subst b3; rw [rowU_eq, rowU_eq]
          · rw [rowU_ne b3, rowU_ne b3]
            by_cases b2 : b = a + 2
            · subst b2; rw [rowU_eq, rowU_eq]
            · rw [rowU_ne b2, rowU_ne b2]
              by_cases b1 : b = a + 1
              · subst b1; rw [rowU_eq, rowU_eq]
              · have b0 : b = a := by omega
                subst b0
                rw [rowU_ne (by omega), rowU_eq, rowU_ne (by omega), rowU_eq]
/-- the plan stands in the courier's rows -/
def PLN (I J : Nat → Int → Int) (u r l hf : Int) : Prop := I 84 = ind (fS J u r l hf) ∧ I 87 = ind (Wn J u (J 115 (6 * u + r)) l) ∧ I 89 = ind (Hd J (1 - u)) ∧ I 83 5 = fN J u r l hf
def fG (J : Nat → Int → Int) (u r l hf : Int) : Prop := (∀ k, fS J u r l hf k → Gd J u k) ∧ (0 < fN J u r l hf → J 108 (1 - u) ≠ 20)
theorem Wn_t {u r l : Int} (V : INV n J) (hu : u = 0 ∨ u = 1) (hr : 0 ≤ r ∧ r ≤ 5) (hx : J 115 (6 * u + r) ≠ 0) : (∀ j, Wn J u (J 115 (6 * u + r)) l j → 0 ≤ j ∧ j < J 94 0) ∧ ∀ j, Hd J (1 - u) j → 0 ≤ j ∧ j < J 94 0 := by
  have R := iv_R V
  have wr := iv_WR V (6 * u + r) (by omega) (by omega)
  have hx2 : 0 < J 115 (6 * u + r) ∧ J 115 (6 * u + r) ≤ J 94 0 := by omega
  refine ⟨Wn_r R.1 (iv_WV V) hx2 (tp_v R.1 (iv_WV V) hx2 (iv_WRk V (6 * u + r) (by omega) (by omega) hx)), fun j q => ?_⟩
  refine Cl_lt R.1 (fun j ⟨k, a, b, c, d⟩ => ?_) j q.1
  have := iv_WR V k (by omega) (by omega)
  omega
theorem k159 {u r l hf : Int} {v5 v6 : MV} (E : EV n h I J) (hu : u = 0 ∨ u = 1) (hr : 0 ≤ r ∧ r ≤ 5) (hl : 0 ≤ l ∧ l ≤ 20) (hh : hf = 0 ∨ hf = 1) :
    (f1 J u r ∧ fG J u r l hf → ∃ I1, Go 159 0 [.inr (.inl (some 1)), .inl u, .inl r, .inl l, .inl hf, v5, v6] [] (mI h I) = some (mI h I1, .inl none) ∧ EV n h I1 J ∧ PLN I1 J u r l hf ∧ ∀ c, 90 ≤ c → c ≤ 139 → I1 c = I c) ∧
    (¬(f1 J u r ∧ fG J u r l hf) → ∃ I1, Go 159 0 [.inr (.inl (some 1)), .inl u, .inl r, .inl l, .inl hf, v5, v6] [] (mI h I) = some (mI (hThr h) I1, .inr 2) ∧ EV n h I1 J ∧ ∀ c, 90 ≤ c → c ≤ 139 → I1 c = I c) := by
  have su := sto_o (s := u)
  have st := sto_o (s := 1 - u)
  have ht : 1 - u = 0 ∨ 1 - u = 1 := by omega
  have Y := E.1
  have L10 := ly_10 Y
  have V := ev_V E
  have T := iv_T V
  have hT := iv_t V
  have C := ev_C E
  have R := iv_R V
  have e13 : I 1 13 = b01 (J 94 9 = 0) := C.2.1.2.2
  have e8 : I (sto u + 8) r = J 115 (6 * u + r) - 1 := (ev_N E hu).1 r hr.1 (by omega)
  have bad : Go 159 24 [.inr (.inl (some 1)), .inl u, .inl r, .inl l, .inl hf, .inr (.inl (some ((sto u)))), .inr (.inl (some ((sto (1 - u)))))] [] (mI h I) = some (mI (hThr h) I, .inr 2) := by rw [b159_24]
  rw [b159_0 L10, k142 Y hu, caln_r, b159_3 L10, k143 Y hu, caln_r, b159_7 L10, e13]
  by_cases c9 : J 94 9 = 0
  rotate_left
  · rw [b01_f c9, if_pos rfl, bad]
    exact ⟨fun q => absurd q.1.1 c9, fun _ => ⟨I, rfl, E, fun _ _ _ => rfl⟩⟩
  rw [b01_t c9, if_neg (by decide), b159_11, if_neg (by omega), b159_13, if_neg (by omega), b159_16 (ly_8 Y su) (ly_3 Y su) (ly_4 Y su) (by omega), e8]
  by_cases hx : J 115 (6 * u + r) = 0
  · rw [if_neg (fun q => q (by rw [hx]; rfl)), bad]
    exact ⟨fun q => absurd hx q.1.2, fun _ => ⟨I, rfl, E, fun _ _ _ => rfl⟩⟩
  obtain ⟨P4, p4, i4⟩ := C.2.2.2.2.2.1.1
  obtain ⟨P7, p7, i7⟩ := C.2.2.2.2.1.2.1
  obtain ⟨P9, p9, i9⟩ := C.2.2.2.2.1.2.2
  obtain ⟨I1, g24, a84, a87, a89, a83, f24, _⟩ := k24 (h := h) (I := I) (J := J) (a1 := sto u) (a2 := sto (1 - u)) (u := u) (t := 1 - u) (r := r) (l := l) (hf := hf) (P4 := P4) (P7 := P7) (P9 := P9) (v6 := vU) (v7 := vU) su st (ly_0 Y) (ly_83 Y) (ly_86 Y) (ly_88 Y) (ly_8 Y su) (ly_3 Y su) (ly_4 Y su) (ly_8 Y st) (ly_3 Y st) (ly_4 Y st) E.2.1 C.1 R T (iv_WV V) (iv_Sh V) (ev_s E hu).1 (ev_s E ht).1 (iv_M V) (iv_WR V) (iv_WRk V) hu rfl (by omega) hx hl hh p4 i4 p7 i7 p9 i9
  obtain ⟨w1, w2⟩ := Wn_t (l := l) V hu hr hx
  have s1 : SL J (fS J u r l hf) := fun j q => w1 j q.1
  have E1 : EV n h I1 J := EV_cr E (fun c hc => f24 c (by omega)) ⟨⟨?_, ⟨_, SL_1 E w1, a87⟩, ⟨_, SL_1 E w2, a89⟩⟩, ⟨⟨_, s1, a84⟩, ?_, ?_⟩, ?_, ?_⟩
  rotate_left
  · rw [f24 75 (by decide)]; exact C.2.2.2.2.1.1
  · rw [f24 90 (by decide)]; exact C.2.2.2.2.2.1.2.1
  · rw [f24 91 (by decide)]; exact C.2.2.2.2.2.1.2.2
  · rw [f24 78 (by decide)]; exact C.2.2.2.2.2.2.1
  · rw [f24 79 (by decide)]; exact C.2.2.2.2.2.2.2
  have fr : ∀ c, 90 ≤ c → c ≤ 139 → I1 c = I c := fun c c0 c1 => f24 c (by omega)
  have e5 : I1 (sto (1 - u) + 1) 5 = J 108 (1 - u) := ((ev_s E1 ht).1).2.1.1
  have hm := T.2.2.2.1.1 (1 - u) ht
  rw [if_pos (show J 115 (6 * u + r) - 1 ≠ -1 from fun q => hx (by omega)), b159_25 L10 (ly_8 Y su) (ly_3 Y su) (ly_4 Y su) (by omega) (ly_83 Y), e8, g24, caln_v, b159_38 L10 (ly_8 Y su) (ly_83 Y), k27 (ly_0 Y) (ly_83 Y) (ly_3 Y su) (ev_B E1) hT (ev_s E1 hu).1 (iv_M V) T.2.2.2.1 (iv_P V) T.2.1 hu a84 s1, caln_r, b159_43]
  by_cases c1 : ∀ j, fS J u r l hf j → Gd J u j
  rotate_left
  · rw [b01_f c1, if_neg (fun q => q rfl), b159_44]
    exact ⟨fun q => absurd q.2.1 c1, fun _ => ⟨I1, rfl, E1, fr⟩⟩
  rw [b01_t c1, if_pos (by decide), b159_45 L10 (ly_83 Y), a83]
  by_cases c2 : fN J u r l hf ≤ 0
  · rw [if_pos c2, b159_55]
    exact ⟨fun _ => ⟨I1, rfl, E1, ⟨a84, a87, a89, a83⟩, fr⟩, fun q => absurd ⟨⟨c9, hx⟩, c1, fun z => by omega⟩ q⟩
  rw [if_neg c2, b159_49 (ly_8 Y st) (ly_3 Y st), e5]
  by_cases c3 : J 108 (1 - u) = 20
  · rw [if_neg (by omega), b159_54]
    exact ⟨fun q => absurd c3 (q.2.2 (by omega)), fun _ => ⟨I1, rfl, E1, fr⟩⟩
  · rw [if_pos (by omega), b159_55]
    exact ⟨fun _ => ⟨I1, rfl, E1, ⟨a84, a87, a89, a83⟩, fr⟩, fun q => absurd ⟨⟨c9, hx⟩, c1, fun _ => c3⟩ q⟩
end OPS12
