/-! ===== the law (3): the cases ===== -/
section LAW
variable {L : Int} {X : Int → Int} {n : Nat} {h : HP} {I : Nat → Int → Int} {x4 : Int} {v5 v6 : MV}
theorem law_D {z yr : Nat} {as bs : List MV} {es : Int → Nat} (J : LI L X n h I) (S : STEP z as yr bs es n h I) (B : CBD z as es h I 0) (he : eInj es) :
    ∃ h2 I2 I3 w, Go z 0 as [] (mI h I) = some (mI h2 I2, .inl (some (.inl w))) ∧ I2 0 = X ∧ hK h2 0 = (6, L) ∧ LYB h2 ∧ Go yr 0 bs [] (mI h2 I2) = some (mI h2 I3, .inl (some (.inl w))) ∧ LI L X (n + 1) h2 I3 := by
  obtain ⟨E, Sc, k0, i0, hc1, hc2⟩ := J
  obtain ⟨h1, I1, c, v, e1, X1, O1, f1, hc, R⟩ := S
  have c0 : c = 0 := by
    have := CBD_c B (by decide) he e1 hc
    omega
  subst c0
  have Y1 := LYB_X X1 E.1
  obtain ⟨I3, w, e3, c49, hw, f3, C3, V3, S3⟩ := R h1 I1 (ly_94 Y1) (fun _ _ => rfl)
  have n140 := E.2.1.1
  have kp1 := (Go_k (L := L) e1) ⟨k0, by show 0 < hN h; omega⟩
  have i1 : I1 0 = X := kp1.2.trans i0
  have ew := hw rfl
  subst ew
  refine ⟨h1, I1, I3, w, e1, i1, kp1.1.1, Y1, e3, ⟨Y1, O1, CPL_I O1 (fun a ha => by rw [f3 a (by omega)]) C3, V3⟩, S3, kp1.1.1, by rw [f3 0 (by decide)]; exact i1, ?_, law_s X1.2.2.2 hc2⟩
  have := X1.2.2.1
  omega
theorem l25 (J : LI L X n h I) (hn : n < 512) (h4 : 0 ≤ x4 ∧ x4 + 6 ≤ L ∧ L ≤ 3072) : ∃ h2 I3 y5 y6, Go 315 25 [.inr (.inl (some 0)), .inr (.inl (some 1)), .inr (.inl (some 94)), .inr (.inl (some 139)), .inl x4, v5, v6] [] (mI h I) = Go 315 1826 [.inr (.inl (some 0)), .inr (.inl (some 1)), .inr (.inl (some 94)), .inr (.inl (some 139)), .inl x4, y5, y6] [] (mI h2 I3) ∧ LI L X (n + 1) h2 I3 := by
  obtain ⟨a4, b4, c4⟩ := h4
  have i0 : I 0 = X := J.2.2.2.1
  have k0 := J.2.2.1
  obtain ⟨h2, I2, I3, c, w, eG, i2, k2, Y2, eR, c49, hv, J2⟩ := law_W J (s99 (x := (X (x4 + 1))) J.1 J.2.1 (by omega)) (w99 (x := (X (x4 + 1))) J.1 (by omega))
  refine ⟨h2, I3, .inl c, .inl w, ?_, J2⟩
  rw [b315_25 (by omega) k0 (by omega), i0, eG, caln_r, b315_33 (by omega) k2 (by omega) (ly_94 Y2), i2, eR, caln_r, b315_41 (ly_94 Y2), r162 (ly_94 Y2), caln_r, b315_44, c49, if_pos rfl, b315_48]
  by_cases c0 : c = 0
  · rw [if_neg (fun q => q c0), b315_50 (ly_139 Y2), if_pos (lcmp_0.mpr (show I3 139 0 = w from hv c0)), b315_59]
  · rw [if_pos c0, b315_59]
theorem l60 (J : LI L X n h I) (hn : n < 512) (h4 : 0 ≤ x4 ∧ x4 + 6 ≤ L ∧ L ≤ 3072) : ∃ h2 I3 y5 y6, Go 315 60 [.inr (.inl (some 0)), .inr (.inl (some 1)), .inr (.inl (some 94)), .inr (.inl (some 139)), .inl x4, v5, v6] [] (mI h I) = Go 315 1826 [.inr (.inl (some 0)), .inr (.inl (some 1)), .inr (.inl (some 94)), .inr (.inl (some 139)), .inl x4, y5, y6] [] (mI h2 I3) ∧ LI L X (n + 1) h2 I3 := by
  obtain ⟨a4, b4, c4⟩ := h4
  have i0 : I 0 = X := J.2.2.2.1
  have k0 := J.2.2.1
  obtain ⟨h2, I2, I3, w, eG, i2, k2, Y2, eR, J2⟩ := law_D J (s100 J.1 J.2.1) (t100 J.1) eA_i
  refine ⟨h2, I3, v5, v6, ?_, J2⟩
  rw [b315_60 (ly_10 J.1.1), eG, caln_r, b315_62 (ly_94 Y2), eR, caln_r, b315_64, if_pos rfl]
theorem l67 (J : LI L X n h I) (hn : n < 512) (h4 : 0 ≤ x4 ∧ x4 + 6 ≤ L ∧ L ≤ 3072) : ∃ h2 I3 y5 y6, Go 315 67 [.inr (.inl (some 0)), .inr (.inl (some 1)), .inr (.inl (some 94)), .inr (.inl (some 139)), .inl x4, v5, v6] [] (mI h I) = Go 315 1826 [.inr (.inl (some 0)), .inr (.inl (some 1)), .inr (.inl (some 94)), .inr (.inl (some 139)), .inl x4, y5, y6] [] (mI h2 I3) ∧ LI L X (n + 1) h2 I3 := by
  obtain ⟨a4, b4, c4⟩ := h4
  have i0 : I 0 = X := J.2.2.2.1
  have k0 := J.2.2.1
  obtain ⟨h2, I2, I3, c, w, eG, i2, k2, Y2, eR, c49, hv, J2⟩ := law_W J (s101 (s := (X (x4 + 1))) J.1 J.2.1) (w101 (s := (X (x4 + 1))) J.1)
  refine ⟨h2, I3, .inl c, .inl w, ?_, J2⟩
  rw [b315_67 (by omega) k0 (by omega), i0, eG, caln_r, b315_75 (by omega) k2 (by omega) (ly_94 Y2), i2, eR, caln_r, b315_83 (ly_94 Y2), r162 (ly_94 Y2), caln_r, b315_86, c49, if_pos rfl, b315_90]
  by_cases c0 : c = 0
  · rw [if_neg (fun q => q c0), b315_92 (ly_139 Y2), if_pos (lcmp_0.mpr (show I3 139 0 = w from hv c0)), b315_101]
  · rw [if_pos c0, b315_101]
theorem l102 (J : LI L X n h I) (hn : n < 512) (h4 : 0 ≤ x4 ∧ x4 + 6 ≤ L ∧ L ≤ 3072) : ∃ h2 I3 y5 y6, Go 315 102 [.inr (.inl (some 0)), .inr (.inl (some 1)), .inr (.inl (some 94)), .inr (.inl (some 139)), .inl x4, v5, v6] [] (mI h I) = Go 315 1826 [.inr (.inl (some 0)), .inr (.inl (some 1)), .inr (.inl (some 94)), .inr (.inl (some 139)), .inl x4, y5, y6] [] (mI h2 I3) ∧ LI L X (n + 1) h2 I3 := by
  obtain ⟨a4, b4, c4⟩ := h4
  have i0 : I 0 = X := J.2.2.2.1
  have k0 := J.2.2.1
  obtain ⟨h2, I2, I3, c, w, eG, i2, k2, Y2, eR, c49, hv, J2⟩ := law_W J (s102 (s := (X (x4 + 1))) J.1 J.2.1) (w102 (s := (X (x4 + 1))) J.1)
  refine ⟨h2, I3, .inl c, .inl w, ?_, J2⟩
  rw [b315_102 (by omega) k0 (by omega), i0, eG, caln_r, b315_110 (by omega) k2 (by omega) (ly_94 Y2), i2, eR, caln_r, b315_118 (ly_94 Y2), r162 (ly_94 Y2), caln_r, b315_121, c49, if_pos rfl, b315_125]
  by_cases c0 : c = 0
  · rw [if_neg (fun q => q c0), b315_127 (ly_139 Y2), if_pos (lcmp_0.mpr (show I3 139 0 = w from hv c0)), b315_136]
  · rw [if_pos c0, b315_136]
theorem l137 (J : LI L X n h I) (hn : n < 512) (h4 : 0 ≤ x4 ∧ x4 + 6 ≤ L ∧ L ≤ 3072) : ∃ h2 I3 y5 y6, Go 315 137 [.inr (.inl (some 0)), .inr (.inl (some 1)), .inr (.inl (some 94)), .inr (.inl (some 139)), .inl x4, v5, v6] [] (mI h I) = Go 315 1826 [.inr (.inl (some 0)), .inr (.inl (some 1)), .inr (.inl (some 94)), .inr (.inl (some 139)), .inl x4, y5, y6] [] (mI h2 I3) ∧ LI L X (n + 1) h2 I3 := by
  obtain ⟨a4, b4, c4⟩ := h4
  have i0 : I 0 = X := J.2.2.2.1
  have k0 := J.2.2.1
  obtain ⟨h2, I2, I3, c, w, eG, i2, k2, Y2, eR, c49, hv, J2⟩ := law_W J (s103 (s := (X (x4 + 1))) (f := (X (x4 + 2))) (d := (X (x4 + 3))) (one := (X (x4 + 4))) (oth := (X (x4 + 5))) J.1 J.2.1) (w103 (s := (X (x4 + 1))) (f := (X (x4 + 2))) (d := (X (x4 + 3))) (one := (X (x4 + 4))) (oth := (X (x4 + 5))) J.1)
  refine ⟨h2, I3, .inl c, .inl w, ?_, J2⟩
  rw [b315_137 (by omega) k0 (by omega) (by omega) (by omega) (by omega) (by omega) (by omega) (by omega) (by omega) (by omega), i0, eG, caln_r, b315_165 (by omega) k2 (by omega) (by omega) (by omega) (by omega) (by omega) (by omega) (by omega) (by omega) (by omega) (ly_94 Y2), i2, eR, caln_r, b315_193 (ly_94 Y2), r162 (ly_94 Y2), caln_r, b315_196, c49, if_pos rfl, b315_200]
  by_cases c0 : c = 0
  · rw [if_neg (fun q => q c0), b315_202 (ly_139 Y2), if_pos (lcmp_0.mpr (show I3 139 0 = w from hv c0)), b315_211]
  · rw [if_pos c0, b315_211]
theorem l212 (J : LI L X n h I) (hn : n < 512) (h4 : 0 ≤ x4 ∧ x4 + 6 ≤ L ∧ L ≤ 3072) : ∃ h2 I3 y5 y6, Go 315 212 [.inr (.inl (some 0)), .inr (.inl (some 1)), .inr (.inl (some 94)), .inr (.inl (some 139)), .inl x4, v5, v6] [] (mI h I) = Go 315 1826 [.inr (.inl (some 0)), .inr (.inl (some 1)), .inr (.inl (some 94)), .inr (.inl (some 139)), .inl x4, y5, y6] [] (mI h2 I3) ∧ LI L X (n + 1) h2 I3 := by
  obtain ⟨a4, b4, c4⟩ := h4
  have i0 : I 0 = X := J.2.2.2.1
  have k0 := J.2.2.1
  obtain ⟨h2, I2, I3, c, w, eG, i2, k2, Y2, eR, c49, hv, J2⟩ := law_W J (s104 (s := (X (x4 + 1))) (x := (X (x4 + 2))) J.1 J.2.1) (w104 (s := (X (x4 + 1))) (x := (X (x4 + 2))) J.1)
  refine ⟨h2, I3, .inl c, .inl w, ?_, J2⟩
  rw [b315_212 (by omega) k0 (by omega) (by omega) (by omega), i0, eG, caln_r, b315_225 (by omega) k2 (by omega) (by omega) (by omega) (ly_94 Y2), i2, eR, caln_r, b315_238 (ly_94 Y2), r162 (ly_94 Y2), caln_r, b315_241, c49, if_pos rfl, b315_245]
  by_cases c0 : c = 0
  · rw [if_neg (fun q => q c0), b315_247 (ly_139 Y2), if_pos (lcmp_0.mpr (show I3 139 0 = w from hv c0)), b315_256]
  · rw [if_pos c0, b315_256]
theorem l257 (J : LI L X n h I) (hn : n < 512) (h4 : 0 ≤ x4 ∧ x4 + 6 ≤ L ∧ L ≤ 3072) : ∃ h2 I3 y5 y6, Go 315 257 [.inr (.inl (some 0)), .inr (.inl (some 1)), .inr (.inl (some 94)), .inr (.inl (some 139)), .inl x4, v5, v6] [] (mI h I) = Go 315 1826 [.inr (.inl (some 0)), .inr (.inl (some 1)), .inr (.inl (some 94)), .inr (.inl (some 139)), .inl x4, y5, y6] [] (mI h2 I3) ∧ LI L X (n + 1) h2 I3 := by
  obtain ⟨a4, b4, c4⟩ := h4
  have i0 : I 0 = X := J.2.2.2.1
  have k0 := J.2.2.1
  obtain ⟨h2, I2, I3, w, eG, i2, k2, Y2, eR, J2⟩ := law_D J (s105 J.1 J.2.1) (t105 J.1) eA_i
  refine ⟨h2, I3, v5, v6, ?_, J2⟩
  rw [b315_257 (ly_10 J.1.1), eG, caln_r, b315_259 (ly_94 Y2), eR, caln_r, b315_261, if_pos rfl]
theorem l264 (J : LI L X n h I) (hn : n < 512) (h4 : 0 ≤ x4 ∧ x4 + 6 ≤ L ∧ L ≤ 3072) : ∃ h2 I3 y5 y6, Go 315 264 [.inr (.inl (some 0)), .inr (.inl (some 1)), .inr (.inl (some 94)), .inr (.inl (some 139)), .inl x4, v5, v6] [] (mI h I) = Go 315 1826 [.inr (.inl (some 0)), .inr (.inl (some 1)), .inr (.inl (some 94)), .inr (.inl (some 139)), .inl x4, y5, y6] [] (mI h2 I3) ∧ LI L X (n + 1) h2 I3 := by
  obtain ⟨a4, b4, c4⟩ := h4
  have i0 : I 0 = X := J.2.2.2.1
  have k0 := J.2.2.1
  obtain ⟨h2, I2, I3, c, w, eG, i2, k2, Y2, eR, c49, hv, J2⟩ := law_W J (s106 (x := (X (x4 + 1))) J.1 J.2.1) (w106 (x := (X (x4 + 1))) J.1)
  refine ⟨h2, I3, .inl c, .inl w, ?_, J2⟩
  rw [b315_264 (by omega) k0 (by omega), i0, eG, caln_r, b315_272 (by omega) k2 (by omega) (ly_94 Y2), i2, eR, caln_r, b315_280 (ly_94 Y2), r162 (ly_94 Y2), caln_r, b315_283, c49, if_pos rfl, b315_287]
  by_cases c0 : c = 0
  · rw [if_neg (fun q => q c0), b315_289 (ly_139 Y2), if_pos (lcmp_0.mpr (show I3 139 0 = w from hv c0)), b315_298]
  · rw [if_pos c0, b315_298]
theorem l299 (J : LI L X n h I) (hn : n < 512) (h4 : 0 ≤ x4 ∧ x4 + 6 ≤ L ∧ L ≤ 3072) : ∃ h2 I3 y5 y6, Go 315 299 [.inr (.inl (some 0)), .inr (.inl (some 1)), .inr (.inl (some 94)), .inr (.inl (some 139)), .inl x4, v5, v6] [] (mI h I) = Go 315 1826 [.inr (.inl (some 0)), .inr (.inl (some 1)), .inr (.inl (some 94)), .inr (.inl (some 139)), .inl x4, y5, y6] [] (mI h2 I3) ∧ LI L X (n + 1) h2 I3 := by
  obtain ⟨a4, b4, c4⟩ := h4
  have i0 : I 0 = X := J.2.2.2.1
  have k0 := J.2.2.1
  obtain ⟨h2, I2, I3, c, w, eG, i2, k2, Y2, eR, c49, hv, J2⟩ := law_W J (s107 (x := (X (x4 + 1))) J.1 J.2.1) (w107 (x := (X (x4 + 1))) J.1)
  refine ⟨h2, I3, .inl c, .inl w, ?_, J2⟩
  rw [b315_299 (by omega) k0 (by omega), i0, eG, caln_r, b315_307 (by omega) k2 (by omega) (ly_94 Y2), i2, eR, caln_r, b315_315 (ly_94 Y2), r162 (ly_94 Y2), caln_r, b315_318, c49, if_pos rfl, b315_322]
  by_cases c0 : c = 0
  · rw [if_neg (fun q => q c0), b315_324 (ly_139 Y2), if_pos (lcmp_0.mpr (show I3 139 0 = w from hv c0)), b315_333]
  · rw [if_pos c0, b315_333]
theorem l334 (J : LI L X n h I) (hn : n < 512) (h4 : 0 ≤ x4 ∧ x4 + 6 ≤ L ∧ L ≤ 3072) : ∃ h2 I3 y5 y6, Go 315 334 [.inr (.inl (some 0)), .inr (.inl (some 1)), .inr (.inl (some 94)), .inr (.inl (some 139)), .inl x4, v5, v6] [] (mI h I) = Go 315 1826 [.inr (.inl (some 0)), .inr (.inl (some 1)), .inr (.inl (some 94)), .inr (.inl (some 139)), .inl x4, y5, y6] [] (mI h2 I3) ∧ LI L X (n + 1) h2 I3 := by
  obtain ⟨a4, b4, c4⟩ := h4
  have i0 : I 0 = X := J.2.2.2.1
  have k0 := J.2.2.1
  obtain ⟨h2, I2, I3, c, w, eG, i2, k2, Y2, eR, c49, hv, J2⟩ := law_W J (s108 (x := (X (x4 + 1))) (j := (X (x4 + 2))) J.1 J.2.1) (w108 (x := (X (x4 + 1))) (j := (X (x4 + 2))) J.1)
  refine ⟨h2, I3, .inl c, .inl w, ?_, J2⟩
  rw [b315_334 (by omega) k0 (by omega) (by omega) (by omega), i0, eG, caln_r, b315_347 (by omega) k2 (by omega) (by omega) (by omega) (ly_94 Y2), i2, eR, caln_r, b315_360 (ly_94 Y2), r162 (ly_94 Y2), caln_r, b315_363, c49, if_pos rfl, b315_367]
  by_cases c0 : c = 0
  · rw [if_neg (fun q => q c0), b315_369 (ly_139 Y2), if_pos (lcmp_0.mpr (show I3 139 0 = w from hv c0)), b315_378]
  · rw [if_pos c0, b315_378]
theorem l379 (J : LI L X n h I) (hn : n < 512) (h4 : 0 ≤ x4 ∧ x4 + 6 ≤ L ∧ L ≤ 3072) : ∃ h2 I3 y5 y6, Go 315 379 [.inr (.inl (some 0)), .inr (.inl (some 1)), .inr (.inl (some 94)), .inr (.inl (some 139)), .inl x4, v5, v6] [] (mI h I) = Go 315 1826 [.inr (.inl (some 0)), .inr (.inl (some 1)), .inr (.inl (some 94)), .inr (.inl (some 139)), .inl x4, y5, y6] [] (mI h2 I3) ∧ LI L X (n + 1) h2 I3 := by
  obtain ⟨a4, b4, c4⟩ := h4
  have i0 : I 0 = X := J.2.2.2.1
  have k0 := J.2.2.1
  obtain ⟨h2, I2, I3, c, w, eG, i2, k2, Y2, eR, c49, hv, J2⟩ := law_W J (s109 (s := (X (x4 + 1))) (x := (X (x4 + 2))) (j := (X (x4 + 3))) J.1 J.2.1) (w109 (s := (X (x4 + 1))) (x := (X (x4 + 2))) (j := (X (x4 + 3))) J.1)
  refine ⟨h2, I3, .inl c, .inl w, ?_, J2⟩
  rw [b315_379 (by omega) k0 (by omega) (by omega) (by omega) (by omega) (by omega), i0, eG, caln_r, b315_397 (by omega) k2 (by omega) (by omega) (by omega) (by omega) (by omega) (ly_94 Y2), i2, eR, caln_r, b315_415 (ly_94 Y2), r162 (ly_94 Y2), caln_r, b315_418, c49, if_pos rfl, b315_422]
  by_cases c0 : c = 0
  · rw [if_neg (fun q => q c0), b315_424 (ly_139 Y2), if_pos (lcmp_0.mpr (show I3 139 0 = w from hv c0)), b315_433]
  · rw [if_pos c0, b315_433]
theorem l434 (J : LI L X n h I) (hn : n < 512) (h4 : 0 ≤ x4 ∧ x4 + 6 ≤ L ∧ L ≤ 3072) : ∃ h2 I3 y5 y6, Go 315 434 [.inr (.inl (some 0)), .inr (.inl (some 1)), .inr (.inl (some 94)), .inr (.inl (some 139)), .inl x4, v5, v6] [] (mI h I) = Go 315 1826 [.inr (.inl (some 0)), .inr (.inl (some 1)), .inr (.inl (some 94)), .inr (.inl (some 139)), .inl x4, y5, y6] [] (mI h2 I3) ∧ LI L X (n + 1) h2 I3 := by
  obtain ⟨a4, b4, c4⟩ := h4
  have i0 : I 0 = X := J.2.2.2.1
  have k0 := J.2.2.1
  obtain ⟨h2, I2, I3, c, w, eG, i2, k2, Y2, eR, c49, hv, J2⟩ := law_W J (s110 (s := (X (x4 + 1))) (x := (X (x4 + 2))) J.1 J.2.1) (w110 (s := (X (x4 + 1))) (x := (X (x4 + 2))) J.1)
  refine ⟨h2, I3, .inl c, .inl w, ?_, J2⟩
  rw [b315_434 (by omega) k0 (by omega) (by omega) (by omega), i0, eG, caln_r, b315_447 (by omega) k2 (by omega) (by omega) (by omega) (ly_94 Y2), i2, eR, caln_r, b315_460 (ly_94 Y2), r162 (ly_94 Y2), caln_r, b315_463, c49, if_pos rfl, b315_467]
  by_cases c0 : c = 0
  · rw [if_neg (fun q => q c0), b315_469 (ly_139 Y2), if_pos (lcmp_0.mpr (show I3 139 0 = w from hv c0)), b315_478]
  · rw [if_pos c0, b315_478]
theorem l479 (J : LI L X n h I) (hn : n < 512) (h4 : 0 ≤ x4 ∧ x4 + 6 ≤ L ∧ L ≤ 3072) : ∃ h2 I3 y5 y6, Go 315 479 [.inr (.inl (some 0)), .inr (.inl (some 1)), .inr (.inl (some 94)), .inr (.inl (some 139)), .inl x4, v5, v6] [] (mI h I) = Go 315 1826 [.inr (.inl (some 0)), .inr (.inl (some 1)), .inr (.inl (some 94)), .inr (.inl (some 139)), .inl x4, y5, y6] [] (mI h2 I3) ∧ LI L X (n + 1) h2 I3 := by
  obtain ⟨a4, b4, c4⟩ := h4
  have i0 : I 0 = X := J.2.2.2.1
  have k0 := J.2.2.1
  obtain ⟨h2, I2, I3, c, w, eG, i2, k2, Y2, eR, c49, hv, J2⟩ := law_W J (s111 (s := (X (x4 + 1))) J.1 J.2.1) (w111 (s := (X (x4 + 1))) J.1)
  refine ⟨h2, I3, .inl c, .inl w, ?_, J2⟩
  rw [b315_479 (by omega) k0 (by omega), i0, eG, caln_r, b315_487 (by omega) k2 (by omega) (ly_94 Y2), i2, eR, caln_r, b315_495 (ly_94 Y2), r162 (ly_94 Y2), caln_r, b315_498, c49, if_pos rfl, b315_502]
  by_cases c0 : c = 0
  · rw [if_neg (fun q => q c0), b315_504 (ly_139 Y2), if_pos (lcmp_0.mpr (show I3 139 0 = w from hv c0)), b315_513]
  · rw [if_pos c0, b315_513]
theorem l514 (J : LI L X n h I) (hn : n < 512) (h4 : 0 ≤ x4 ∧ x4 + 6 ≤ L ∧ L ≤ 3072) : ∃ h2 I3 y5 y6, Go 315 514 [.inr (.inl (some 0)), .inr (.inl (some 1)), .inr (.inl (some 94)), .inr (.inl (some 139)), .inl x4, v5, v6] [] (mI h I) = Go 315 1826 [.inr (.inl (some 0)), .inr (.inl (some 1)), .inr (.inl (some 94)), .inr (.inl (some 139)), .inl x4, y5, y6] [] (mI h2 I3) ∧ LI L X (n + 1) h2 I3 := by
  obtain ⟨a4, b4, c4⟩ := h4
  have i0 : I 0 = X := J.2.2.2.1
  have k0 := J.2.2.1
  obtain ⟨h2, I2, I3, c, w, eG, i2, k2, Y2, eR, c49, hv, J2⟩ := law_W J (s112 (s := (X (x4 + 1))) J.1 J.2.1) (w112 (s := (X (x4 + 1))) J.1)
  refine ⟨h2, I3, .inl c, .inl w, ?_, J2⟩
  rw [b315_514 (by omega) k0 (by omega), i0, eG, caln_r, b315_522 (by omega) k2 (by omega) (ly_94 Y2), i2, eR, caln_r, b315_530 (ly_94 Y2), r162 (ly_94 Y2), caln_r, b315_533, c49, if_pos rfl, b315_537]
  by_cases c0 : c = 0
  · rw [if_neg (fun q => q c0), b315_539 (ly_139 Y2), if_pos (lcmp_0.mpr (show I3 139 0 = w from hv c0)), b315_548]
  · rw [if_pos c0, b315_548]
theorem l549 (J : LI L X n h I) (hn : n < 512) (h4 : 0 ≤ x4 ∧ x4 + 6 ≤ L ∧ L ≤ 3072) : ∃ h2 I3 y5 y6, Go 315 549 [.inr (.inl (some 0)), .inr (.inl (some 1)), .inr (.inl (some 94)), .inr (.inl (some 139)), .inl x4, v5, v6] [] (mI h I) = Go 315 1826 [.inr (.inl (some 0)), .inr (.inl (some 1)), .inr (.inl (some 94)), .inr (.inl (some 139)), .inl x4, y5, y6] [] (mI h2 I3) ∧ LI L X (n + 1) h2 I3 := by
  obtain ⟨a4, b4, c4⟩ := h4
  have i0 : I 0 = X := J.2.2.2.1
  have k0 := J.2.2.1
  obtain ⟨h2, I2, I3, c, w, eG, i2, k2, Y2, eR, c49, hv, J2⟩ := law_W J (s113 (s := (X (x4 + 1))) (x := (X (x4 + 2))) J.1 J.2.1) (w113 (s := (X (x4 + 1))) (x := (X (x4 + 2))) J.1)
  refine ⟨h2, I3, .inl c, .inl w, ?_, J2⟩
  rw [b315_549 (by omega) k0 (by omega) (by omega) (by omega), i0, eG, caln_r, b315_562 (by omega) k2 (by omega) (by omega) (by omega) (ly_94 Y2), i2, eR, caln_r, b315_575 (ly_94 Y2), r162 (ly_94 Y2), caln_r, b315_578, c49, if_pos rfl, b315_582]
  by_cases c0 : c = 0
  · rw [if_neg (fun q => q c0), b315_584 (ly_139 Y2), if_pos (lcmp_0.mpr (show I3 139 0 = w from hv c0)), b315_593]
  · rw [if_pos c0, b315_593]
theorem l594 (J : LI L X n h I) (hn : n < 512) (h4 : 0 ≤ x4 ∧ x4 + 6 ≤ L ∧ L ≤ 3072) : ∃ h2 I3 y5 y6, Go 315 594 [.inr (.inl (some 0)), .inr (.inl (some 1)), .inr (.inl (some 94)), .inr (.inl (some 139)), .inl x4, v5, v6] [] (mI h I) = Go 315 1826 [.inr (.inl (some 0)), .inr (.inl (some 1)), .inr (.inl (some 94)), .inr (.inl (some 139)), .inl x4, y5, y6] [] (mI h2 I3) ∧ LI L X (n + 1) h2 I3 := by
  obtain ⟨a4, b4, c4⟩ := h4
  have i0 : I 0 = X := J.2.2.2.1
  have k0 := J.2.2.1
  obtain ⟨h2, I2, I3, c, w, eG, i2, k2, Y2, eR, c49, hv, J2⟩ := law_W J (s114 (x := (X (x4 + 1))) J.1 J.2.1 (by omega)) (w114 (x := (X (x4 + 1))) J.1 (by omega))
  refine ⟨h2, I3, .inl c, .inl w, ?_, J2⟩
  rw [b315_594 (by omega) k0 (by omega), i0, eG, caln_r, b315_602 (by omega) k2 (by omega) (ly_94 Y2), i2, eR, caln_r, b315_610 (ly_94 Y2), r162 (ly_94 Y2), caln_r, b315_613, c49, if_pos rfl, b315_617]
  by_cases c0 : c = 0
  · rw [if_neg (fun q => q c0), b315_619 (ly_139 Y2), if_pos (lcmp_0.mpr (show I3 139 0 = w from hv c0)), b315_628]
  · rw [if_pos c0, b315_628]
theorem l629 (J : LI L X n h I) (hn : n < 512) (h4 : 0 ≤ x4 ∧ x4 + 6 ≤ L ∧ L ≤ 3072) : ∃ h2 I3 y5 y6, Go 315 629 [.inr (.inl (some 0)), .inr (.inl (some 1)), .inr (.inl (some 94)), .inr (.inl (some 139)), .inl x4, v5, v6] [] (mI h I) = Go 315 1826 [.inr (.inl (some 0)), .inr (.inl (some 1)), .inr (.inl (some 94)), .inr (.inl (some 139)), .inl x4, y5, y6] [] (mI h2 I3) ∧ LI L X (n + 1) h2 I3 := by
  obtain ⟨a4, b4, c4⟩ := h4
  have i0 : I 0 = X := J.2.2.2.1
  have k0 := J.2.2.1
  obtain ⟨h2, I2, I3, c, w, eG, i2, k2, Y2, eR, c49, hv, J2⟩ := law_W J (s115 (s := (X (x4 + 1))) (k := (X (x4 + 2))) (old := (X (x4 + 3))) (now := (X (x4 + 4))) J.1 J.2.1) (w115 (s := (X (x4 + 1))) (k := (X (x4 + 2))) (old := (X (x4 + 3))) (now := (X (x4 + 4))) J.1)
  refine ⟨h2, I3, .inl c, .inl w, ?_, J2⟩
  rw [b315_629 (by omega) k0 (by omega) (by omega) (by omega) (by omega) (by omega) (by omega) (by omega), i0, eG, caln_r, b315_652 (by omega) k2 (by omega) (by omega) (by omega) (by omega) (by omega) (by omega) (by omega) (ly_94 Y2), i2, eR, caln_r, b315_675 (ly_94 Y2), r162 (ly_94 Y2), caln_r, b315_678, c49, if_pos rfl, b315_682]
  by_cases c0 : c = 0
  · rw [if_neg (fun q => q c0), b315_684 (ly_139 Y2), if_pos (lcmp_0.mpr (show I3 139 0 = w from hv c0)), b315_693]
  · rw [if_pos c0, b315_693]
theorem l694 (J : LI L X n h I) (hn : n < 512) (h4 : 0 ≤ x4 ∧ x4 + 6 ≤ L ∧ L ≤ 3072) : ∃ h2 I3 y5 y6, Go 315 694 [.inr (.inl (some 0)), .inr (.inl (some 1)), .inr (.inl (some 94)), .inr (.inl (some 139)), .inl x4, v5, v6] [] (mI h I) = Go 315 1826 [.inr (.inl (some 0)), .inr (.inl (some 1)), .inr (.inl (some 94)), .inr (.inl (some 139)), .inl x4, y5, y6] [] (mI h2 I3) ∧ LI L X (n + 1) h2 I3 := by
  obtain ⟨a4, b4, c4⟩ := h4
  have i0 : I 0 = X := J.2.2.2.1
  have k0 := J.2.2.1
  obtain ⟨h2, I2, I3, c, w, eG, i2, k2, Y2, eR, c49, hv, J2⟩ := law_W J (s116 (s := (X (x4 + 1))) J.1 J.2.1 (by omega)) (w116 (s := (X (x4 + 1))) J.1 (by omega))
  refine ⟨h2, I3, .inl c, .inl w, ?_, J2⟩
  rw [b315_694 (by omega) k0 (by omega), i0, eG, caln_r, b315_702 (by omega) k2 (by omega) (ly_94 Y2), i2, eR, caln_r, b315_710 (ly_94 Y2), r162 (ly_94 Y2), caln_r, b315_713, c49, if_pos rfl, b315_717]
  by_cases c0 : c = 0
  · rw [if_neg (fun q => q c0), b315_719 (ly_139 Y2)]
    have hw := hv c0
    unfold wv at hw
    rw [if_pos rfl] at hw
    by_cases w0 : w = 0
    · rw [if_pos w0] at hw
      rw [if_pos w0, b315_726, b315_727, if_pos (lcmp_0.mpr hw), b315_731]
    · rw [if_neg w0] at hw
      rw [if_neg w0, b315_724, b315_727, if_pos (lcmp_0.mpr hw), b315_731]
  · rw [if_pos c0, b315_731]
theorem l732 (J : LI L X n h I) (hn : n < 512) (h4 : 0 ≤ x4 ∧ x4 + 6 ≤ L ∧ L ≤ 3072) : ∃ h2 I3 y5 y6, Go 315 732 [.inr (.inl (some 0)), .inr (.inl (some 1)), .inr (.inl (some 94)), .inr (.inl (some 139)), .inl x4, v5, v6] [] (mI h I) = Go 315 1826 [.inr (.inl (some 0)), .inr (.inl (some 1)), .inr (.inl (some 94)), .inr (.inl (some 139)), .inl x4, y5, y6] [] (mI h2 I3) ∧ LI L X (n + 1) h2 I3 := by
  obtain ⟨a4, b4, c4⟩ := h4
  have i0 : I 0 = X := J.2.2.2.1
  have k0 := J.2.2.1
  obtain ⟨h2, I2, I3, c, w, eG, i2, k2, Y2, eR, c49, hv, J2⟩ := law_W J (s117 (s := (X (x4 + 1))) (r := (X (x4 + 2))) J.1 J.2.1) (w117 (s := (X (x4 + 1))) (r := (X (x4 + 2))) J.1)
  refine ⟨h2, I3, .inl c, .inl w, ?_, J2⟩
  rw [b315_732 (by omega) k0 (by omega) (by omega) (by omega), i0, eG, caln_r, b315_745 (by omega) k2 (by omega) (by omega) (by omega) (ly_94 Y2), i2, eR, caln_r, b315_758 (ly_94 Y2), r162 (ly_94 Y2), caln_r, b315_761, c49, if_pos rfl, b315_765]
  by_cases c0 : c = 0
  · rw [if_neg (fun q => q c0), b315_767 (ly_139 Y2), if_pos (lcmp_0.mpr (show I3 139 0 = w from hv c0)), b315_776]
  · rw [if_pos c0, b315_776]
theorem l777 (J : LI L X n h I) (hn : n < 512) (h4 : 0 ≤ x4 ∧ x4 + 6 ≤ L ∧ L ≤ 3072) : ∃ h2 I3 y5 y6, Go 315 777 [.inr (.inl (some 0)), .inr (.inl (some 1)), .inr (.inl (some 94)), .inr (.inl (some 139)), .inl x4, v5, v6] [] (mI h I) = Go 315 1826 [.inr (.inl (some 0)), .inr (.inl (some 1)), .inr (.inl (some 94)), .inr (.inl (some 139)), .inl x4, y5, y6] [] (mI h2 I3) ∧ LI L X (n + 1) h2 I3 := by
  obtain ⟨a4, b4, c4⟩ := h4
  have i0 : I 0 = X := J.2.2.2.1
  have k0 := J.2.2.1
  obtain ⟨h2, I2, I3, c, w, eG, i2, k2, Y2, eR, c49, hv, J2⟩ := law_W J (s118 (s := (X (x4 + 1))) J.1 J.2.1) (w118 (s := (X (x4 + 1))) J.1)
  refine ⟨h2, I3, .inl c, .inl w, ?_, J2⟩
  rw [b315_777 (by omega) k0 (by omega), i0, eG, caln_r, b315_785 (by omega) k2 (by omega) (ly_94 Y2), i2, eR, caln_r, b315_793 (ly_94 Y2), r162 (ly_94 Y2), caln_r, b315_796, c49, if_pos rfl, b315_800]
  by_cases c0 : c = 0
  · rw [if_neg (fun q => q c0), b315_802 (ly_139 Y2), if_pos (lcmp_0.mpr (show I3 139 0 = w from hv c0)), b315_811]
  · rw [if_pos c0, b315_811]
theorem l812 (J : LI L X n h I) (hn : n < 512) (h4 : 0 ≤ x4 ∧ x4 + 6 ≤ L ∧ L ≤ 3072) : ∃ h2 I3 y5 y6, Go 315 812 [.inr (.inl (some 0)), .inr (.inl (some 1)), .inr (.inl (some 94)), .inr (.inl (some 139)), .inl x4, v5, v6] [] (mI h I) = Go 315 1826 [.inr (.inl (some 0)), .inr (.inl (some 1)), .inr (.inl (some 94)), .inr (.inl (some 139)), .inl x4, y5, y6] [] (mI h2 I3) ∧ LI L X (n + 1) h2 I3 := by
  obtain ⟨a4, b4, c4⟩ := h4
  have i0 : I 0 = X := J.2.2.2.1
  have k0 := J.2.2.1
  obtain ⟨h2, I2, I3, c, w, eG, i2, k2, Y2, eR, c49, hv, J2⟩ := law_W J (s119 (s := (X (x4 + 1))) (x := (X (x4 + 2))) J.1 J.2.1) (w119 (s := (X (x4 + 1))) (x := (X (x4 + 2))) J.1)
  refine ⟨h2, I3, .inl c, .inl w, ?_, J2⟩
  rw [b315_812 (by omega) k0 (by omega) (by omega) (by omega), i0, eG, caln_r, b315_825 (by omega) k2 (by omega) (by omega) (by omega) (ly_94 Y2), i2, eR, caln_r, b315_838 (ly_94 Y2), r162 (ly_94 Y2), caln_r, b315_841, c49, if_pos rfl, b315_845]
  by_cases c0 : c = 0
  · rw [if_neg (fun q => q c0), b315_847 (ly_139 Y2)]
    have hw := hv c0
    unfold wv at hw
    rw [if_pos rfl] at hw
    by_cases w0 : w = 0
    · rw [if_pos w0] at hw
      rw [if_pos w0, b315_854, b315_855, if_pos (lcmp_0.mpr hw), b315_859]
    · rw [if_neg w0] at hw
      rw [if_neg w0, b315_852, b315_855, if_pos (lcmp_0.mpr hw), b315_859]
  · rw [if_pos c0, b315_859]
theorem l860 (J : LI L X n h I) (hn : n < 512) (h4 : 0 ≤ x4 ∧ x4 + 6 ≤ L ∧ L ≤ 3072) : ∃ h2 I3 y5 y6, Go 315 860 [.inr (.inl (some 0)), .inr (.inl (some 1)), .inr (.inl (some 94)), .inr (.inl (some 139)), .inl x4, v5, v6] [] (mI h I) = Go 315 1826 [.inr (.inl (some 0)), .inr (.inl (some 1)), .inr (.inl (some 94)), .inr (.inl (some 139)), .inl x4, y5, y6] [] (mI h2 I3) ∧ LI L X (n + 1) h2 I3 := by
  obtain ⟨a4, b4, c4⟩ := h4
  have i0 : I 0 = X := J.2.2.2.1
  have k0 := J.2.2.1
  obtain ⟨h2, I2, I3, c, w, eG, i2, k2, Y2, eR, c49, hv, J2⟩ := law_W J (s120 (s := (X (x4 + 1))) (x := (X (x4 + 2))) J.1 J.2.1) (w120 (s := (X (x4 + 1))) (x := (X (x4 + 2))) J.1)
  refine ⟨h2, I3, .inl c, .inl w, ?_, J2⟩
  rw [b315_860 (by omega) k0 (by omega) (by omega) (by omega), i0, eG, caln_r, b315_873 (by omega) k2 (by omega) (by omega) (by omega) (ly_94 Y2), i2, eR, caln_r, b315_886 (ly_94 Y2), r162 (ly_94 Y2), caln_r, b315_889, c49, if_pos rfl, b315_893]
  by_cases c0 : c = 0
  · rw [if_neg (fun q => q c0), b315_895 (ly_139 Y2)]
    have hw := hv c0
    unfold wv at hw
    rw [if_pos rfl] at hw
    by_cases w0 : w = 0
    · rw [if_pos w0] at hw
      rw [if_pos w0, b315_902, b315_903, if_pos (lcmp_0.mpr hw), b315_907]
    · rw [if_neg w0] at hw
      rw [if_neg w0, b315_900, b315_903, if_pos (lcmp_0.mpr hw), b315_907]
  · rw [if_pos c0, b315_907]
theorem l908 (J : LI L X n h I) (hn : n < 512) (h4 : 0 ≤ x4 ∧ x4 + 6 ≤ L ∧ L ≤ 3072) : ∃ h2 I3 y5 y6, Go 315 908 [.inr (.inl (some 0)), .inr (.inl (some 1)), .inr (.inl (some 94)), .inr (.inl (some 139)), .inl x4, v5, v6] [] (mI h I) = Go 315 1826 [.inr (.inl (some 0)), .inr (.inl (some 1)), .inr (.inl (some 94)), .inr (.inl (some 139)), .inl x4, y5, y6] [] (mI h2 I3) ∧ LI L X (n + 1) h2 I3 := by
  obtain ⟨a4, b4, c4⟩ := h4
  have i0 : I 0 = X := J.2.2.2.1
  have k0 := J.2.2.1
  obtain ⟨h2, I2, I3, c, w, eG, i2, k2, Y2, eR, c49, hv, J2⟩ := law_W J (s121 (s := (X (x4 + 1))) (x := (X (x4 + 2))) (y := (X (x4 + 3))) J.1 J.2.1) (w121 (s := (X (x4 + 1))) (x := (X (x4 + 2))) (y := (X (x4 + 3))) J.1)
  refine ⟨h2, I3, .inl c, .inl w, ?_, J2⟩
  rw [b315_908 (by omega) k0 (by omega) (by omega) (by omega) (by omega) (by omega), i0, eG, caln_r, b315_926 (by omega) k2 (by omega) (by omega) (by omega) (by omega) (by omega) (ly_94 Y2), i2, eR, caln_r, b315_944 (ly_94 Y2), r162 (ly_94 Y2), caln_r, b315_947, c49, if_pos rfl, b315_951]
  by_cases c0 : c = 0
  · rw [if_neg (fun q => q c0), b315_953 (ly_139 Y2), if_pos (lcmp_0.mpr (show I3 139 0 = w from hv c0)), b315_962]
  · rw [if_pos c0, b315_962]
theorem l963 (J : LI L X n h I) (hn : n < 512) (h4 : 0 ≤ x4 ∧ x4 + 6 ≤ L ∧ L ≤ 3072) : ∃ h2 I3 y5 y6, Go 315 963 [.inr (.inl (some 0)), .inr (.inl (some 1)), .inr (.inl (some 94)), .inr (.inl (some 139)), .inl x4, v5, v6] [] (mI h I) = Go 315 1826 [.inr (.inl (some 0)), .inr (.inl (some 1)), .inr (.inl (some 94)), .inr (.inl (some 139)), .inl x4, y5, y6] [] (mI h2 I3) ∧ LI L X (n + 1) h2 I3 := by
  obtain ⟨a4, b4, c4⟩ := h4
  have i0 : I 0 = X := J.2.2.2.1
  have k0 := J.2.2.1
  obtain ⟨h2, I2, I3, c, w, eG, i2, k2, Y2, eR, c49, hv, J2⟩ := law_W J (s122 (s := (X (x4 + 1))) (x := (X (x4 + 2))) (y := (X (x4 + 3))) J.1 J.2.1 (by omega)) (w122 (s := (X (x4 + 1))) (x := (X (x4 + 2))) (y := (X (x4 + 3))) J.1 (by omega))
  refine ⟨h2, I3, .inl c, .inl w, ?_, J2⟩
  rw [b315_963 (by omega) k0 (by omega) (by omega) (by omega) (by omega) (by omega), i0, eG, caln_r, b315_981 (by omega) k2 (by omega) (by omega) (by omega) (by omega) (by omega) (ly_94 Y2), i2, eR, caln_r, b315_999 (ly_94 Y2), r162 (ly_94 Y2), caln_r, b315_1002, c49, if_pos rfl, b315_1006]
  by_cases c0 : c = 0
  · rw [if_neg (fun q => q c0), b315_1008 (ly_139 Y2), if_pos (lcmp_0.mpr (show I3 139 0 = w from hv c0)), b315_1017]
  · rw [if_pos c0, b315_1017]
theorem l1018 (J : LI L X n h I) (hn : n < 512) (h4 : 0 ≤ x4 ∧ x4 + 6 ≤ L ∧ L ≤ 3072) : ∃ h2 I3 y5 y6, Go 315 1018 [.inr (.inl (some 0)), .inr (.inl (some 1)), .inr (.inl (some 94)), .inr (.inl (some 139)), .inl x4, v5, v6] [] (mI h I) = Go 315 1826 [.inr (.inl (some 0)), .inr (.inl (some 1)), .inr (.inl (some 94)), .inr (.inl (some 139)), .inl x4, y5, y6] [] (mI h2 I3) ∧ LI L X (n + 1) h2 I3 := by
  obtain ⟨a4, b4, c4⟩ := h4
  have i0 : I 0 = X := J.2.2.2.1
  have k0 := J.2.2.1
  obtain ⟨h2, I2, I3, c, w, eG, i2, k2, Y2, eR, c49, hv, J2⟩ := law_W J (s123 (x := (X (x4 + 1))) J.1 J.2.1) (w123 (x := (X (x4 + 1))) J.1)
  refine ⟨h2, I3, .inl c, .inl w, ?_, J2⟩
  rw [b315_1018 (by omega) k0 (by omega), i0, eG, caln_r, b315_1026 (by omega) k2 (by omega) (ly_94 Y2), i2, eR, caln_r, b315_1034 (ly_94 Y2), r162 (ly_94 Y2), caln_r, b315_1037, c49, if_pos rfl, b315_1041]
  by_cases c0 : c = 0
  · rw [if_neg (fun q => q c0), b315_1043 (ly_139 Y2), if_pos (lcmp_0.mpr (show I3 139 0 = w from hv c0)), b315_1052]
  · rw [if_pos c0, b315_1052]
theorem l1053 (J : LI L X n h I) (hn : n < 512) (h4 : 0 ≤ x4 ∧ x4 + 6 ≤ L ∧ L ≤ 3072) : ∃ h2 I3 y5 y6, Go 315 1053 [.inr (.inl (some 0)), .inr (.inl (some 1)), .inr (.inl (some 94)), .inr (.inl (some 139)), .inl x4, v5, v6] [] (mI h I) = Go 315 1826 [.inr (.inl (some 0)), .inr (.inl (some 1)), .inr (.inl (some 94)), .inr (.inl (some 139)), .inl x4, y5, y6] [] (mI h2 I3) ∧ LI L X (n + 1) h2 I3 := by
  obtain ⟨a4, b4, c4⟩ := h4
  have i0 : I 0 = X := J.2.2.2.1
  have k0 := J.2.2.1
  obtain ⟨h2, I2, I3, c, w, eG, i2, k2, Y2, eR, c49, hv, J2⟩ := law_W J (s124 (s := (X (x4 + 1))) (x := (X (x4 + 2))) J.1 J.2.1) (w124 (s := (X (x4 + 1))) (x := (X (x4 + 2))) J.1)
  refine ⟨h2, I3, .inl c, .inl w, ?_, J2⟩
  rw [b315_1053 (by omega) k0 (by omega) (by omega) (by omega), i0, eG, caln_r, b315_1066 (by omega) k2 (by omega) (by omega) (by omega) (ly_94 Y2), i2, eR, caln_r, b315_1079 (ly_94 Y2), r162 (ly_94 Y2), caln_r, b315_1082, c49, if_pos rfl, b315_1086]
  by_cases c0 : c = 0
  · rw [if_neg (fun q => q c0), b315_1088 (ly_139 Y2), if_pos (lcmp_0.mpr (show I3 139 0 = w from hv c0)), b315_1097]
  · rw [if_pos c0, b315_1097]
theorem l1098 (J : LI L X n h I) (hn : n < 512) (h4 : 0 ≤ x4 ∧ x4 + 6 ≤ L ∧ L ≤ 3072) : ∃ h2 I3 y5 y6, Go 315 1098 [.inr (.inl (some 0)), .inr (.inl (some 1)), .inr (.inl (some 94)), .inr (.inl (some 139)), .inl x4, v5, v6] [] (mI h I) = Go 315 1826 [.inr (.inl (some 0)), .inr (.inl (some 1)), .inr (.inl (some 94)), .inr (.inl (some 139)), .inl x4, y5, y6] [] (mI h2 I3) ∧ LI L X (n + 1) h2 I3 := by
  obtain ⟨a4, b4, c4⟩ := h4
  have i0 : I 0 = X := J.2.2.2.1
  have k0 := J.2.2.1
  obtain ⟨h2, I2, I3, c, w, eG, i2, k2, Y2, eR, c49, hv, J2⟩ := law_W J (s125 (s := (X (x4 + 1))) J.1 J.2.1) (w125 (s := (X (x4 + 1))) J.1)
  refine ⟨h2, I3, .inl c, .inl w, ?_, J2⟩
  rw [b315_1098 (by omega) k0 (by omega), i0, eG, caln_r, b315_1106 (by omega) k2 (by omega) (ly_94 Y2), i2, eR, caln_r, b315_1114 (ly_94 Y2), r162 (ly_94 Y2), caln_r, b315_1117, c49, if_pos rfl, b315_1121]
  by_cases c0 : c = 0
  · rw [if_neg (fun q => q c0), b315_1123 (ly_139 Y2), if_pos (lcmp_0.mpr (show I3 139 0 = w from hv c0)), b315_1132]
  · rw [if_pos c0, b315_1132]
theorem l1133 (J : LI L X n h I) (hn : n < 512) (h4 : 0 ≤ x4 ∧ x4 + 6 ≤ L ∧ L ≤ 3072) : ∃ h2 I3 y5 y6, Go 315 1133 [.inr (.inl (some 0)), .inr (.inl (some 1)), .inr (.inl (some 94)), .inr (.inl (some 139)), .inl x4, v5, v6] [] (mI h I) = Go 315 1826 [.inr (.inl (some 0)), .inr (.inl (some 1)), .inr (.inl (some 94)), .inr (.inl (some 139)), .inl x4, y5, y6] [] (mI h2 I3) ∧ LI L X (n + 1) h2 I3 := by
  obtain ⟨a4, b4, c4⟩ := h4
  have i0 : I 0 = X := J.2.2.2.1
  have k0 := J.2.2.1
  obtain ⟨h2, I2, I3, c, w, eG, i2, k2, Y2, eR, c49, hv, J2⟩ := law_W J (s126 (s := (X (x4 + 1))) (x := (X (x4 + 2))) J.1 J.2.1) (w126 (s := (X (x4 + 1))) (x := (X (x4 + 2))) J.1)
  refine ⟨h2, I3, .inl c, .inl w, ?_, J2⟩
  rw [b315_1133 (by omega) k0 (by omega) (by omega) (by omega), i0, eG, caln_r, b315_1146 (by omega) k2 (by omega) (by omega) (by omega) (ly_94 Y2), i2, eR, caln_r, b315_1159 (ly_94 Y2), r162 (ly_94 Y2), caln_r, b315_1162, c49, if_pos rfl, b315_1166]
  by_cases c0 : c = 0
  · rw [if_neg (fun q => q c0), b315_1168 (ly_139 Y2), if_pos (lcmp_0.mpr (show I3 139 0 = w from hv c0)), b315_1177]
  · rw [if_pos c0, b315_1177]
theorem l1178 (J : LI L X n h I) (hn : n < 512) (h4 : 0 ≤ x4 ∧ x4 + 6 ≤ L ∧ L ≤ 3072) : ∃ h2 I3 y5 y6, Go 315 1178 [.inr (.inl (some 0)), .inr (.inl (some 1)), .inr (.inl (some 94)), .inr (.inl (some 139)), .inl x4, v5, v6] [] (mI h I) = Go 315 1826 [.inr (.inl (some 0)), .inr (.inl (some 1)), .inr (.inl (some 94)), .inr (.inl (some 139)), .inl x4, y5, y6] [] (mI h2 I3) ∧ LI L X (n + 1) h2 I3 := by
  obtain ⟨a4, b4, c4⟩ := h4
  have i0 : I 0 = X := J.2.2.2.1
  have k0 := J.2.2.1
  obtain ⟨h2, I2, I3, c, w, eG, i2, k2, Y2, eR, c49, hv, J2⟩ := law_W J (s127 (s := (X (x4 + 1))) (x := (X (x4 + 2))) J.1 J.2.1) (w127 (s := (X (x4 + 1))) (x := (X (x4 + 2))) J.1)
  refine ⟨h2, I3, .inl c, .inl w, ?_, J2⟩
  rw [b315_1178 (by omega) k0 (by omega) (by omega) (by omega), i0, eG, caln_r, b315_1191 (by omega) k2 (by omega) (by omega) (by omega) (ly_94 Y2), i2, eR, caln_r, b315_1204 (ly_94 Y2), r162 (ly_94 Y2), caln_r, b315_1207, c49, if_pos rfl, b315_1211]
  by_cases c0 : c = 0
  · rw [if_neg (fun q => q c0), b315_1213 (ly_139 Y2), if_pos (lcmp_0.mpr (show I3 139 0 = w from hv c0)), b315_1222]
  · rw [if_pos c0, b315_1222]
theorem l1223 (J : LI L X n h I) (hn : n < 512) (h4 : 0 ≤ x4 ∧ x4 + 6 ≤ L ∧ L ≤ 3072) : ∃ h2 I3 y5 y6, Go 315 1223 [.inr (.inl (some 0)), .inr (.inl (some 1)), .inr (.inl (some 94)), .inr (.inl (some 139)), .inl x4, v5, v6] [] (mI h I) = Go 315 1826 [.inr (.inl (some 0)), .inr (.inl (some 1)), .inr (.inl (some 94)), .inr (.inl (some 139)), .inl x4, y5, y6] [] (mI h2 I3) ∧ LI L X (n + 1) h2 I3 := by
  obtain ⟨a4, b4, c4⟩ := h4
  have i0 : I 0 = X := J.2.2.2.1
  have k0 := J.2.2.1
  obtain ⟨h2, I2, I3, c, w, eG, i2, k2, Y2, eR, c49, hv, J2⟩ := law_W J (s128 (s := (X (x4 + 1))) (win := (X (x4 + 2))) (deep := (X (x4 + 3))) J.1 J.2.1) (w128 (s := (X (x4 + 1))) (win := (X (x4 + 2))) (deep := (X (x4 + 3))) J.1)
  refine ⟨h2, I3, .inl c, .inl w, ?_, J2⟩
  rw [b315_1223 (by omega) k0 (by omega) (by omega) (by omega) (by omega) (by omega), i0, eG, caln_r, b315_1241 (by omega) k2 (by omega) (by omega) (by omega) (by omega) (by omega) (ly_94 Y2), i2, eR, caln_r, b315_1259 (ly_94 Y2), r162 (ly_94 Y2), caln_r, b315_1262, c49, if_pos rfl, b315_1266]
  by_cases c0 : c = 0
  · rw [if_neg (fun q => q c0), b315_1268 (ly_139 Y2), if_pos (lcmp_0.mpr (show I3 139 0 = w from hv c0)), b315_1277]
  · rw [if_pos c0, b315_1277]
theorem l1278 (J : LI L X n h I) (hn : n < 512) (h4 : 0 ≤ x4 ∧ x4 + 6 ≤ L ∧ L ≤ 3072) : ∃ h2 I3 y5 y6, Go 315 1278 [.inr (.inl (some 0)), .inr (.inl (some 1)), .inr (.inl (some 94)), .inr (.inl (some 139)), .inl x4, v5, v6] [] (mI h I) = Go 315 1826 [.inr (.inl (some 0)), .inr (.inl (some 1)), .inr (.inl (some 94)), .inr (.inl (some 139)), .inl x4, y5, y6] [] (mI h2 I3) ∧ LI L X (n + 1) h2 I3 := by
  obtain ⟨a4, b4, c4⟩ := h4
  have i0 : I 0 = X := J.2.2.2.1
  have k0 := J.2.2.1
  obtain ⟨h2, I2, I3, c, w, eG, i2, k2, Y2, eR, c49, hv, J2⟩ := law_W J (s129 (s := (X (x4 + 1))) J.1 J.2.1) (w129 (s := (X (x4 + 1))) J.1)
  refine ⟨h2, I3, .inl c, .inl w, ?_, J2⟩
  rw [b315_1278 (by omega) k0 (by omega), i0, eG, caln_r, b315_1286 (by omega) k2 (by omega) (ly_94 Y2), i2, eR, caln_r, b315_1294 (ly_94 Y2), r162 (ly_94 Y2), caln_r, b315_1297, c49, if_pos rfl, b315_1301]
  by_cases c0 : c = 0
  · rw [if_neg (fun q => q c0), b315_1303 (ly_139 Y2), if_pos (lcmp_0.mpr (show I3 139 0 = w from hv c0)), b315_1312]
  · rw [if_pos c0, b315_1312]
theorem l1313 (J : LI L X n h I) (hn : n < 512) (h4 : 0 ≤ x4 ∧ x4 + 6 ≤ L ∧ L ≤ 3072) : ∃ h2 I3 y5 y6, Go 315 1313 [.inr (.inl (some 0)), .inr (.inl (some 1)), .inr (.inl (some 94)), .inr (.inl (some 139)), .inl x4, v5, v6] [] (mI h I) = Go 315 1826 [.inr (.inl (some 0)), .inr (.inl (some 1)), .inr (.inl (some 94)), .inr (.inl (some 139)), .inl x4, y5, y6] [] (mI h2 I3) ∧ LI L X (n + 1) h2 I3 := by
  obtain ⟨a4, b4, c4⟩ := h4
  have i0 : I 0 = X := J.2.2.2.1
  have k0 := J.2.2.1
  obtain ⟨h2, I2, I3, c, w, eG, i2, k2, Y2, eR, c49, hv, J2⟩ := law_W J (s130 (s := (X (x4 + 1))) (x := (X (x4 + 2))) J.1 J.2.1) (w130 (s := (X (x4 + 1))) (x := (X (x4 + 2))) J.1)
  refine ⟨h2, I3, .inl c, .inl w, ?_, J2⟩
  rw [b315_1313 (by omega) k0 (by omega) (by omega) (by omega), i0, eG, caln_r, b315_1326 (by omega) k2 (by omega) (by omega) (by omega) (ly_94 Y2), i2, eR, caln_r, b315_1339 (ly_94 Y2), r162 (ly_94 Y2), caln_r, b315_1342, c49, if_pos rfl, b315_1346]
  by_cases c0 : c = 0
  · rw [if_neg (fun q => q c0), b315_1348 (ly_139 Y2), if_pos (lcmp_0.mpr (show I3 139 0 = w from hv c0)), b315_1357]
  · rw [if_pos c0, b315_1357]
theorem l1358 (J : LI L X n h I) (hn : n < 512) (h4 : 0 ≤ x4 ∧ x4 + 6 ≤ L ∧ L ≤ 3072) : ∃ h2 I3 y5 y6, Go 315 1358 [.inr (.inl (some 0)), .inr (.inl (some 1)), .inr (.inl (some 94)), .inr (.inl (some 139)), .inl x4, v5, v6] [] (mI h I) = Go 315 1826 [.inr (.inl (some 0)), .inr (.inl (some 1)), .inr (.inl (some 94)), .inr (.inl (some 139)), .inl x4, y5, y6] [] (mI h2 I3) ∧ LI L X (n + 1) h2 I3 := by
  obtain ⟨a4, b4, c4⟩ := h4
  have i0 : I 0 = X := J.2.2.2.1
  have k0 := J.2.2.1
  obtain ⟨h2, I2, I3, c, w, eG, i2, k2, Y2, eR, c49, hv, J2⟩ := law_W J (s131 (s := (X (x4 + 1))) (x := (X (x4 + 2))) J.1 J.2.1) (w131 (s := (X (x4 + 1))) (x := (X (x4 + 2))) J.1)
  refine ⟨h2, I3, .inl c, .inl w, ?_, J2⟩
  rw [b315_1358 (by omega) k0 (by omega) (by omega) (by omega), i0, eG, caln_r, b315_1371 (by omega) k2 (by omega) (by omega) (by omega) (ly_94 Y2), i2, eR, caln_r, b315_1384 (ly_94 Y2), r162 (ly_94 Y2), caln_r, b315_1387, c49, if_pos rfl, b315_1391]
  by_cases c0 : c = 0
  · rw [if_neg (fun q => q c0), b315_1393 (ly_139 Y2), if_pos (lcmp_0.mpr (show I3 139 0 = w from hv c0)), b315_1402]
  · rw [if_pos c0, b315_1402]
theorem l1403 (J : LI L X n h I) (hn : n < 512) (h4 : 0 ≤ x4 ∧ x4 + 6 ≤ L ∧ L ≤ 3072) : ∃ h2 I3 y5 y6, Go 315 1403 [.inr (.inl (some 0)), .inr (.inl (some 1)), .inr (.inl (some 94)), .inr (.inl (some 139)), .inl x4, v5, v6] [] (mI h I) = Go 315 1826 [.inr (.inl (some 0)), .inr (.inl (some 1)), .inr (.inl (some 94)), .inr (.inl (some 139)), .inl x4, y5, y6] [] (mI h2 I3) ∧ LI L X (n + 1) h2 I3 := by
  obtain ⟨a4, b4, c4⟩ := h4
  have i0 : I 0 = X := J.2.2.2.1
  have k0 := J.2.2.1
  obtain ⟨h2, I2, I3, c, w, eG, i2, k2, Y2, eR, c49, hv, J2⟩ := law_W J (s132 (s := (X (x4 + 1))) (x := (X (x4 + 2))) (k := (X (x4 + 3))) J.1 J.2.1) (w132 (s := (X (x4 + 1))) (x := (X (x4 + 2))) (k := (X (x4 + 3))) J.1)
  refine ⟨h2, I3, .inl c, .inl w, ?_, J2⟩
  rw [b315_1403 (by omega) k0 (by omega) (by omega) (by omega) (by omega) (by omega), i0, eG, caln_r, b315_1421 (by omega) k2 (by omega) (by omega) (by omega) (by omega) (by omega) (ly_94 Y2), i2, eR, caln_r, b315_1439 (ly_94 Y2), r162 (ly_94 Y2), caln_r, b315_1442, c49, if_pos rfl, b315_1446]
  by_cases c0 : c = 0
  · rw [if_neg (fun q => q c0), b315_1448 (ly_139 Y2), if_pos (lcmp_0.mpr (show I3 139 0 = w from hv c0)), b315_1457]
  · rw [if_pos c0, b315_1457]
theorem l1458 (J : LI L X n h I) (hn : n < 512) (h4 : 0 ≤ x4 ∧ x4 + 6 ≤ L ∧ L ≤ 3072) : ∃ h2 I3 y5 y6, Go 315 1458 [.inr (.inl (some 0)), .inr (.inl (some 1)), .inr (.inl (some 94)), .inr (.inl (some 139)), .inl x4, v5, v6] [] (mI h I) = Go 315 1826 [.inr (.inl (some 0)), .inr (.inl (some 1)), .inr (.inl (some 94)), .inr (.inl (some 139)), .inl x4, y5, y6] [] (mI h2 I3) ∧ LI L X (n + 1) h2 I3 := by
  obtain ⟨a4, b4, c4⟩ := h4
  have i0 : I 0 = X := J.2.2.2.1
  have k0 := J.2.2.1
  obtain ⟨h2, I2, I3, c, w, eG, i2, k2, Y2, eR, c49, hv, J2⟩ := law_W J (s133 (s := (X (x4 + 1))) (x := (X (x4 + 2))) J.1 J.2.1) (w133 (s := (X (x4 + 1))) (x := (X (x4 + 2))) J.1)
  refine ⟨h2, I3, .inl c, .inl w, ?_, J2⟩
  rw [b315_1458 (by omega) k0 (by omega) (by omega) (by omega), i0, eG, caln_r, b315_1471 (by omega) k2 (by omega) (by omega) (by omega) (ly_94 Y2), i2, eR, caln_r, b315_1484 (ly_94 Y2), r162 (ly_94 Y2), caln_r, b315_1487, c49, if_pos rfl, b315_1491]
  by_cases c0 : c = 0
  · rw [if_neg (fun q => q c0), b315_1493 (ly_139 Y2)]
    have hw := hv c0
    unfold wv at hw
    rw [if_pos rfl] at hw
    by_cases w0 : w = 0
    · rw [if_pos w0] at hw
      rw [if_pos w0, b315_1500, b315_1501, if_pos (lcmp_0.mpr hw), b315_1505]
    · rw [if_neg w0] at hw
      rw [if_neg w0, b315_1498, b315_1501, if_pos (lcmp_0.mpr hw), b315_1505]
  · rw [if_pos c0, b315_1505]
theorem l1506 (J : LI L X n h I) (hn : n < 512) (h4 : 0 ≤ x4 ∧ x4 + 6 ≤ L ∧ L ≤ 3072) : ∃ h2 I3 y5 y6, Go 315 1506 [.inr (.inl (some 0)), .inr (.inl (some 1)), .inr (.inl (some 94)), .inr (.inl (some 139)), .inl x4, v5, v6] [] (mI h I) = Go 315 1826 [.inr (.inl (some 0)), .inr (.inl (some 1)), .inr (.inl (some 94)), .inr (.inl (some 139)), .inl x4, y5, y6] [] (mI h2 I3) ∧ LI L X (n + 1) h2 I3 := by
  obtain ⟨a4, b4, c4⟩ := h4
  have i0 : I 0 = X := J.2.2.2.1
  have k0 := J.2.2.1
  obtain ⟨h2, I2, I3, c, w, eG, i2, k2, Y2, eR, c49, hv, J2⟩ := law_W J (s134 (s := (X (x4 + 1))) J.1 J.2.1 (by omega)) (w134 (s := (X (x4 + 1))) J.1 (by omega))
  refine ⟨h2, I3, .inl c, .inl w, ?_, J2⟩
  rw [b315_1506 (by omega) k0 (by omega), i0, eG, caln_r, b315_1514 (by omega) k2 (by omega) (ly_94 Y2), i2, eR, caln_r, b315_1522 (ly_94 Y2), r162 (ly_94 Y2), caln_r, b315_1525, c49, if_pos rfl, b315_1529]
  by_cases c0 : c = 0
  · rw [if_neg (fun q => q c0), b315_1531 (ly_139 Y2), if_pos (lcmp_0.mpr (show I3 139 0 = w from hv c0)), b315_1540]
  · rw [if_pos c0, b315_1540]
theorem l1541 (J : LI L X n h I) (hn : n < 512) (h4 : 0 ≤ x4 ∧ x4 + 6 ≤ L ∧ L ≤ 3072) : ∃ h2 I3 y5 y6, Go 315 1541 [.inr (.inl (some 0)), .inr (.inl (some 1)), .inr (.inl (some 94)), .inr (.inl (some 139)), .inl x4, v5, v6] [] (mI h I) = Go 315 1826 [.inr (.inl (some 0)), .inr (.inl (some 1)), .inr (.inl (some 94)), .inr (.inl (some 139)), .inl x4, y5, y6] [] (mI h2 I3) ∧ LI L X (n + 1) h2 I3 := by
  obtain ⟨a4, b4, c4⟩ := h4
  have i0 : I 0 = X := J.2.2.2.1
  have k0 := J.2.2.1
  obtain ⟨h2, I2, I3, w, eG, i2, k2, Y2, eR, J2⟩ := law_D J (s135 J.1 J.2.1) (t135 J.1) eA_i
  refine ⟨h2, I3, v5, v6, ?_, J2⟩
  rw [b315_1541 (ly_10 J.1.1), eG, caln_r, b315_1543 (ly_94 Y2), eR, caln_r, b315_1545, if_pos rfl]
theorem l1548 (J : LI L X n h I) (hn : n < 512) (h4 : 0 ≤ x4 ∧ x4 + 6 ≤ L ∧ L ≤ 3072) : ∃ h2 I3 y5 y6, Go 315 1548 [.inr (.inl (some 0)), .inr (.inl (some 1)), .inr (.inl (some 94)), .inr (.inl (some 139)), .inl x4, v5, v6] [] (mI h I) = Go 315 1826 [.inr (.inl (some 0)), .inr (.inl (some 1)), .inr (.inl (some 94)), .inr (.inl (some 139)), .inl x4, y5, y6] [] (mI h2 I3) ∧ LI L X (n + 1) h2 I3 := by
  obtain ⟨a4, b4, c4⟩ := h4
  have i0 : I 0 = X := J.2.2.2.1
  have k0 := J.2.2.1
  by_cases f0 : X (x4 + 4) = 0
  · obtain ⟨h2, I2, I3, c, w, eG, i2, k2, Y2, eR, c49, hv, J2⟩ := law_W J (s136 (u := (X (x4 + 1))) (r := (X (x4 + 2))) (l := (X (x4 + 3))) (hf := 0) J.1 J.2.1 (by omega) (Or.inl rfl)) (w136 (u := (X (x4 + 1))) (r := (X (x4 + 2))) (l := (X (x4 + 3))) (hf := 0) J.1 (by omega) (Or.inl rfl))
    refine ⟨h2, I3, .inl c, .inl w, ?_, J2⟩
    rw [b315_1548 (by omega) k0 (by omega) (by omega) (by omega) (by omega) (by omega) (by omega) (by omega), i0, if_pos f0, b315_1572, b315_1573, eG, caln_r, b315_1575 (by omega) k2 (by omega) (by omega) (by omega) (by omega) (by omega) (by omega) (by omega), i2, if_pos f0, b315_1600, b315_1601 (ly_94 Y2), eR, caln_r, b315_1602 (ly_94 Y2), r162 (ly_94 Y2), caln_r, b315_1605, c49, if_pos rfl, b315_1609]
    by_cases c0 : c = 0
    · rw [if_neg (fun q => q c0), b315_1611 (ly_139 Y2), if_pos (lcmp_0.mpr (show I3 139 0 = w from hv c0)), b315_1620]
    · rw [if_pos c0, b315_1620]
  · obtain ⟨h2, I2, I3, c, w, eG, i2, k2, Y2, eR, c49, hv, J2⟩ := law_W J (s136 (u := (X (x4 + 1))) (r := (X (x4 + 2))) (l := (X (x4 + 3))) (hf := 1) J.1 J.2.1 (by omega) (Or.inr rfl)) (w136 (u := (X (x4 + 1))) (r := (X (x4 + 2))) (l := (X (x4 + 3))) (hf := 1) J.1 (by omega) (Or.inr rfl))
    refine ⟨h2, I3, .inl c, .inl w, ?_, J2⟩
    rw [b315_1548 (by omega) k0 (by omega) (by omega) (by omega) (by omega) (by omega) (by omega) (by omega), i0, if_neg f0, b315_1570, b315_1573, eG, caln_r, b315_1575 (by omega) k2 (by omega) (by omega) (by omega) (by omega) (by omega) (by omega) (by omega), i2, if_neg f0, b315_1598, b315_1601 (ly_94 Y2), eR, caln_r, b315_1602 (ly_94 Y2), r162 (ly_94 Y2), caln_r, b315_1605, c49, if_pos rfl, b315_1609]
    by_cases c0 : c = 0
    · rw [if_neg (fun q => q c0), b315_1611 (ly_139 Y2), if_pos (lcmp_0.mpr (show I3 139 0 = w from hv c0)), b315_1620]
    · rw [if_pos c0, b315_1620]
theorem l1621 (J : LI L X n h I) (hn : n < 512) (h4 : 0 ≤ x4 ∧ x4 + 6 ≤ L ∧ L ≤ 3072) : ∃ h2 I3 y5 y6, Go 315 1621 [.inr (.inl (some 0)), .inr (.inl (some 1)), .inr (.inl (some 94)), .inr (.inl (some 139)), .inl x4, v5, v6] [] (mI h I) = Go 315 1826 [.inr (.inl (some 0)), .inr (.inl (some 1)), .inr (.inl (some 94)), .inr (.inl (some 139)), .inl x4, y5, y6] [] (mI h2 I3) ∧ LI L X (n + 1) h2 I3 := by
  obtain ⟨a4, b4, c4⟩ := h4
  have i0 : I 0 = X := J.2.2.2.1
  have k0 := J.2.2.1
  obtain ⟨h2, I2, I3, c, w, eG, i2, k2, Y2, eR, c49, hv, J2⟩ := law_W J (s137 (u := (X (x4 + 1))) (r := (X (x4 + 2))) J.1 J.2.1 (by omega)) (w137 (u := (X (x4 + 1))) (r := (X (x4 + 2))) J.1 (by omega))
  refine ⟨h2, I3, .inl c, .inl w, ?_, J2⟩
  rw [b315_1621 (by omega) k0 (by omega) (by omega) (by omega), i0, eG, caln_r, b315_1634 (by omega) k2 (by omega) (by omega) (by omega) (ly_94 Y2), i2, eR, caln_r, b315_1647 (ly_94 Y2), r162 (ly_94 Y2), caln_r, b315_1650, c49, if_pos rfl, b315_1654]
  by_cases c0 : c = 0
  · rw [if_neg (fun q => q c0), b315_1656 (ly_139 Y2), if_pos (lcmp_0.mpr (show I3 139 0 = w from hv c0)), b315_1665]
  · rw [if_pos c0, b315_1665]
theorem l1666 (J : LI L X n h I) (hn : n < 512) (h4 : 0 ≤ x4 ∧ x4 + 6 ≤ L ∧ L ≤ 3072) : ∃ h2 I3 y5 y6, Go 315 1666 [.inr (.inl (some 0)), .inr (.inl (some 1)), .inr (.inl (some 94)), .inr (.inl (some 139)), .inl x4, v5, v6] [] (mI h I) = Go 315 1826 [.inr (.inl (some 0)), .inr (.inl (some 1)), .inr (.inl (some 94)), .inr (.inl (some 139)), .inl x4, y5, y6] [] (mI h2 I3) ∧ LI L X (n + 1) h2 I3 := by
  obtain ⟨a4, b4, c4⟩ := h4
  have i0 : I 0 = X := J.2.2.2.1
  have k0 := J.2.2.1
  obtain ⟨h2, I2, I3, c, w, eG, i2, k2, Y2, eR, c49, hv, J2⟩ := law_W J (s138 (s := (X (x4 + 1))) (x := (X (x4 + 2))) J.1 J.2.1) (w138 (s := (X (x4 + 1))) (x := (X (x4 + 2))) J.1)
  refine ⟨h2, I3, .inl c, .inl w, ?_, J2⟩
  rw [b315_1666 (by omega) k0 (by omega) (by omega) (by omega), i0, eG, caln_r, b315_1679 (by omega) k2 (by omega) (by omega) (by omega) (ly_94 Y2), i2, eR, caln_r, b315_1692 (ly_94 Y2), r162 (ly_94 Y2), caln_r, b315_1695, c49, if_pos rfl, b315_1699]
  by_cases c0 : c = 0
  · rw [if_neg (fun q => q c0), b315_1701 (ly_139 Y2), if_pos (lcmp_0.mpr (show I3 139 0 = w from hv c0)), b315_1710]
  · rw [if_pos c0, b315_1710]
theorem l1711 (J : LI L X n h I) (hn : n < 512) (h4 : 0 ≤ x4 ∧ x4 + 6 ≤ L ∧ L ≤ 3072) : ∃ h2 I3 y5 y6, Go 315 1711 [.inr (.inl (some 0)), .inr (.inl (some 1)), .inr (.inl (some 94)), .inr (.inl (some 139)), .inl x4, v5, v6] [] (mI h I) = Go 315 1826 [.inr (.inl (some 0)), .inr (.inl (some 1)), .inr (.inl (some 94)), .inr (.inl (some 139)), .inl x4, y5, y6] [] (mI h2 I3) ∧ LI L X (n + 1) h2 I3 := by
  obtain ⟨a4, b4, c4⟩ := h4
  have i0 : I 0 = X := J.2.2.2.1
  have k0 := J.2.2.1
  obtain ⟨h2, I2, I3, c, w, eG, i2, k2, Y2, eR, c49, hv, J2⟩ := law_W J (s139 (s := (X (x4 + 1))) J.1 J.2.1) (w139 (s := (X (x4 + 1))) J.1)
  refine ⟨h2, I3, .inl c, .inl w, ?_, J2⟩
  rw [b315_1711 (by omega) k0 (by omega), i0, eG, caln_r, b315_1719 (by omega) k2 (by omega) (ly_94 Y2), i2, eR, caln_r, b315_1727 (ly_94 Y2), r162 (ly_94 Y2), caln_r, b315_1730, c49, if_pos rfl, b315_1734]
  by_cases c0 : c = 0
  · rw [if_neg (fun q => q c0), b315_1736 (ly_139 Y2), if_pos (lcmp_0.mpr (show I3 139 0 = w from hv c0)), b315_1745]
  · rw [if_pos c0, b315_1745]
theorem l1746 (J : LI L X n h I) (hn : n < 512) (h4 : 0 ≤ x4 ∧ x4 + 6 ≤ L ∧ L ≤ 3072) : ∃ h2 I3 y5 y6, Go 315 1746 [.inr (.inl (some 0)), .inr (.inl (some 1)), .inr (.inl (some 94)), .inr (.inl (some 139)), .inl x4, v5, v6] [] (mI h I) = Go 315 1826 [.inr (.inl (some 0)), .inr (.inl (some 1)), .inr (.inl (some 94)), .inr (.inl (some 139)), .inl x4, y5, y6] [] (mI h2 I3) ∧ LI L X (n + 1) h2 I3 := by
  obtain ⟨a4, b4, c4⟩ := h4
  have i0 : I 0 = X := J.2.2.2.1
  have k0 := J.2.2.1
  obtain ⟨h2, I2, I3, c, w, eG, i2, k2, Y2, eR, c49, hv, J2⟩ := law_W J (s140 (s := (X (x4 + 1))) (p := (X (x4 + 2))) J.1 J.2.1) (w140 (s := (X (x4 + 1))) (p := (X (x4 + 2))) J.1)
  refine ⟨h2, I3, .inl c, .inl w, ?_, J2⟩
  rw [b315_1746 (by omega) k0 (by omega) (by omega) (by omega), i0, eG, caln_r, b315_1759 (by omega) k2 (by omega) (by omega) (by omega) (ly_94 Y2), i2, eR, caln_r, b315_1772 (ly_94 Y2), r162 (ly_94 Y2), caln_r, b315_1775, c49, if_pos rfl, b315_1779]
  by_cases c0 : c = 0
  · rw [if_neg (fun q => q c0), b315_1781 (ly_139 Y2), if_pos (lcmp_0.mpr (show I3 139 0 = w from hv c0)), b315_1790]
  · rw [if_pos c0, b315_1790]
theorem l1791 (J : LI L X n h I) (hn : n < 512) (h4 : 0 ≤ x4 ∧ x4 + 6 ≤ L ∧ L ≤ 3072) : ∃ h2 I3 y5 y6, Go 315 1791 [.inr (.inl (some 0)), .inr (.inl (some 1)), .inr (.inl (some 94)), .inr (.inl (some 139)), .inl x4, v5, v6] [] (mI h I) = Go 315 1826 [.inr (.inl (some 0)), .inr (.inl (some 1)), .inr (.inl (some 94)), .inr (.inl (some 139)), .inl x4, y5, y6] [] (mI h2 I3) ∧ LI L X (n + 1) h2 I3 := by
  obtain ⟨a4, b4, c4⟩ := h4
  have i0 : I 0 = X := J.2.2.2.1
  have k0 := J.2.2.1
  obtain ⟨h2, I2, I3, c, w, eG, i2, k2, Y2, eR, c49, hv, J2⟩ := law_W J (s141 (s := (X (x4 + 1))) J.1 J.2.1) (w141 (s := (X (x4 + 1))) J.1)
  refine ⟨h2, I3, .inl c, .inl w, ?_, J2⟩
  rw [b315_1791 (by omega) k0 (by omega), i0, eG, caln_r, b315_1799 (by omega) k2 (by omega) (ly_94 Y2), i2, eR, caln_r, b315_1807 (ly_94 Y2), r162 (ly_94 Y2), caln_r, b315_1810, c49, if_pos rfl, b315_1814]
  by_cases c0 : c = 0
  · rw [if_neg (fun q => q c0), b315_1816 (ly_139 Y2), if_pos (lcmp_0.mpr (show I3 139 0 = w from hv c0)), b315_1825]
  · rw [if_pos c0, b315_1825]
end LAW
