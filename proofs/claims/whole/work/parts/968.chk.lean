/-! ===== the checks together ===== -/
theorem zka_get {a n : Nat} (h : ((List.range' a n).all fun y => (List.range (zK y).length).all (zokI y) && zokM y) = true) (y : Nat) (h1 : a ≤ y) (h2 : y < a + n) : (∀ ip, zokI y ip = true) ∧ zokM y = true := by
  have h3 := List.all_eq_true.mp h y (List.mem_range'_1.mpr ⟨h1, h2⟩)
  simp only [Bool.and_eq_true] at h3
  refine ⟨fun ip => ?_, h3.2⟩
  by_cases hi : ip < (zK y).length
  · exact List.all_eq_true.mp h3.1 ip (List.mem_range.mpr hi)
  · unfold zokI
    rw [List.getElem?_eq_none (by omega)]
theorem zkl_get {a n : Nat} (h : ((List.range' a n).all (zokI 315)) = true) (ip : Nat) (h1 : a ≤ ip) (h2 : ip < a + n) : zokI 315 ip = true := List.all_eq_true.mp h ip (List.mem_range'_1.mpr ⟨h1, h2⟩)
theorem zk_m (y : Nat) (hy : y < 315) : (∀ ip, zokI y ip = true) ∧ zokM y = true := by
  by_cases h0 : y < 15
  · exact zka_get zka_0 y (by omega) (by omega)
  by_cases h1 : y < 25
  · exact zka_get zka_15 y (by omega) (by omega)
  by_cases h2 : y < 33
  · exact zka_get zka_25 y (by omega) (by omega)
  by_cases h3 : y < 51
  · exact zka_get zka_33 y (by omega) (by omega)
  by_cases h4 : y < 62
  · exact zka_get zka_51 y (by omega) (by omega)
  by_cases h5 : y < 71
  · exact zka_get zka_62 y (by omega) (by omega)
  by_cases h6 : y < 85
  · exact zka_get zka_71 y (by omega) (by omega)
  by_cases h7 : y < 95
  · exact zka_get zka_85 y (by omega) (by omega)
  by_cases h8 : y < 104
  · exact zka_get zka_95 y (by omega) (by omega)
  by_cases h9 : y < 122
  · exact zka_get zka_104 y (by omega) (by omega)
  by_cases h10 : y < 135
  · exact zka_get zka_122 y (by omega) (by omega)
  by_cases h11 : y < 152
  · exact zka_get zka_135 y (by omega) (by omega)
  by_cases h12 : y < 161
  · exact zka_get zka_152 y (by omega) (by omega)
  by_cases h13 : y < 172
  · exact zka_get zka_161 y (by omega) (by omega)
  by_cases h14 : y < 184
  · exact zka_get zka_172 y (by omega) (by omega)
  by_cases h15 : y < 192
  · exact zka_get zka_184 y (by omega) (by omega)
  by_cases h16 : y < 198
  · exact zka_get zka_192 y (by omega) (by omega)
  by_cases h17 : y < 208
  · exact zka_get zka_198 y (by omega) (by omega)
  by_cases h18 : y < 216
  · exact zka_get zka_208 y (by omega) (by omega)
  by_cases h19 : y < 222
  · exact zka_get zka_216 y (by omega) (by omega)
  by_cases h20 : y < 230
  · exact zka_get zka_222 y (by omega) (by omega)
  by_cases h21 : y < 238
  · exact zka_get zka_230 y (by omega) (by omega)
  by_cases h22 : y < 246
  · exact zka_get zka_238 y (by omega) (by omega)
  by_cases h23 : y < 254
  · exact zka_get zka_246 y (by omega) (by omega)
  by_cases h24 : y < 260
  · exact zka_get zka_254 y (by omega) (by omega)
  by_cases h25 : y < 265
  · exact zka_get zka_260 y (by omega) (by omega)
  by_cases h26 : y < 269
  · exact zka_get zka_265 y (by omega) (by omega)
  by_cases h27 : y < 284
  · exact zka_get zka_269 y (by omega) (by omega)
  by_cases h28 : y < 307
  · exact zka_get zka_284 y (by omega) (by omega)
  exact zka_get zka_307 y (by omega) (by omega)
theorem zk_l (ip : Nat) : zokI 315 ip = true := by
  by_cases h0 : ip < 120
  · exact zkl_get zkl_0 ip (by omega) (by omega)
  by_cases h1 : ip < 240
  · exact zkl_get zkl_120 ip (by omega) (by omega)
  by_cases h2 : ip < 360
  · exact zkl_get zkl_240 ip (by omega) (by omega)
  by_cases h3 : ip < 480
  · exact zkl_get zkl_360 ip (by omega) (by omega)
  by_cases h4 : ip < 600
  · exact zkl_get zkl_480 ip (by omega) (by omega)
  by_cases h5 : ip < 720
  · exact zkl_get zkl_600 ip (by omega) (by omega)
  by_cases h6 : ip < 840
  · exact zkl_get zkl_720 ip (by omega) (by omega)
  by_cases h7 : ip < 960
  · exact zkl_get zkl_840 ip (by omega) (by omega)
  by_cases g0 : ip < 1000
  · exact zkl_get zkl_960 ip (by omega) (by omega)
  by_cases g1 : ip < 1040
  · exact zkl_get zkl_1000 ip (by omega) (by omega)
  by_cases g2 : ip < 1080
  · exact zkl_get zkl_1040 ip (by omega) (by omega)
  by_cases g3 : ip < 1120
  · exact zkl_get zkl_1080 ip (by omega) (by omega)
  by_cases g4 : ip < 1160
  · exact zkl_get zkl_1120 ip (by omega) (by omega)
  by_cases g5 : ip < 1200
  · exact zkl_get zkl_1160 ip (by omega) (by omega)
  by_cases g6 : ip < 1240
  · exact zkl_get zkl_1200 ip (by omega) (by omega)
  by_cases g7 : ip < 1280
  · exact zkl_get zkl_1240 ip (by omega) (by omega)
  by_cases g8 : ip < 1320
  · exact zkl_get zkl_1280 ip (by omega) (by omega)
  by_cases g9 : ip < 1360
  · exact zkl_get zkl_1320 ip (by omega) (by omega)
  by_cases g10 : ip < 1400
  · exact zkl_get zkl_1360 ip (by omega) (by omega)
  by_cases g11 : ip < 1440
  · exact zkl_get zkl_1400 ip (by omega) (by omega)
  by_cases g12 : ip < 1480
  · exact zkl_get zkl_1440 ip (by omega) (by omega)
  by_cases g13 : ip < 1520
  · exact zkl_get zkl_1480 ip (by omega) (by omega)
  by_cases g14 : ip < 1560
  · exact zkl_get zkl_1520 ip (by omega) (by omega)
  by_cases g15 : ip < 1600
  · exact zkl_get zkl_1560 ip (by omega) (by omega)
  by_cases g16 : ip < 1640
  · exact zkl_get zkl_1600 ip (by omega) (by omega)
  by_cases g17 : ip < 1680
  · exact zkl_get zkl_1640 ip (by omega) (by omega)
  by_cases g18 : ip < 1720
  · exact zkl_get zkl_1680 ip (by omega) (by omega)
  by_cases g19 : ip < 1760
  · exact zkl_get zkl_1720 ip (by omega) (by omega)
  by_cases g20 : ip < 1800
  · exact zkl_get zkl_1760 ip (by omega) (by omega)
  by_cases g21 : ip < 1840
  · exact zkl_get zkl_1800 ip (by omega) (by omega)
  unfold zokI
  have e : (zK 315).length = 1830 := by decide +kernel
  rw [List.getElem?_eq_none (by omega)]
theorem zOK_ok : zOK := by
  refine ⟨fun y hy ip => ?_, fun y hy => (zk_m y hy).2⟩
  by_cases h : y < 315
  · exact (zk_m y h).1 ip
  · have : y = 315 := by omega
    subst this
    exact zk_l ip
