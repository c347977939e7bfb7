theorem tb_1 {w : Cond} (h : w ∈ tables_1_1) (hg : goodWord w = true) : w ∈ lw_T := List.mem_filter.mpr ⟨List.mem_append_right _ (show w ∈ tables_1 from List.mem_append_left _ h), hg⟩
theorem tb_2 {w : Cond} (h : w ∈ tables_1_2) (hg : goodWord w = true) : w ∈ lw_T := List.mem_filter.mpr ⟨List.mem_append_right _ (show w ∈ tables_1 from List.mem_append_right _ (List.mem_append_left _ h)), hg⟩
theorem tb_3 {w : Cond} (h : w ∈ tables_1_3) (hg : goodWord w = true) : w ∈ lw_T := List.mem_filter.mpr ⟨List.mem_append_right _ (show w ∈ tables_1 from List.mem_append_right _ (List.mem_append_right _ (List.mem_append_left _ h))), hg⟩
theorem tb_4 {w : Cond} (h : w ∈ tables_1_4) (hg : goodWord w = true) : w ∈ lw_T := List.mem_filter.mpr ⟨List.mem_append_right _ (show w ∈ tables_1 from List.mem_append_right _ (List.mem_append_right _ (List.mem_append_right _ (List.mem_append_left _ h)))), hg⟩
theorem tb_5 {w : Cond} (h : w ∈ tables_1_5) (hg : goodWord w = true) : w ∈ lw_T := List.mem_filter.mpr ⟨List.mem_append_right _ (show w ∈ tables_1 from List.mem_append_right _ (List.mem_append_right _ (List.mem_append_right _ (List.mem_append_right _ (List.mem_append_left _ h))))), hg⟩
theorem tb_6 {w : Cond} (h : w ∈ tables_1_6) (hg : goodWord w = true) : w ∈ lw_T := List.mem_filter.mpr ⟨List.mem_append_right _ (show w ∈ tables_1 from List.mem_append_right _ (List.mem_append_right _ (List.mem_append_right _ (List.mem_append_right _ (List.mem_append_right _ (List.mem_append_left _ h)))))), hg⟩
theorem tb_7 {w : Cond} (h : w ∈ tables_1_7) (hg : goodWord w = true) : w ∈ lw_T := List.mem_filter.mpr ⟨List.mem_append_right _ (show w ∈ tables_1 from List.mem_append_right _ (List.mem_append_right _ (List.mem_append_right _ (List.mem_append_right _ (List.mem_append_right _ (List.mem_append_right _ (List.mem_append_left _ h))))))), hg⟩
theorem tb_8 {w : Cond} (h : w ∈ tables_1_8) (hg : goodWord w = true) : w ∈ lw_T := List.mem_filter.mpr ⟨List.mem_append_right _ (show w ∈ tables_1 from List.mem_append_right _ (List.mem_append_right _ (List.mem_append_right _ (List.mem_append_right _ (List.mem_append_right _ (List.mem_append_right _ (List.mem_append_right _ (List.mem_append_left _ h)))))))), hg⟩
theorem tb_9 {w : Cond} (h : w ∈ tables_1_9) (hg : goodWord w = true) : w ∈ lw_T := List.mem_filter.mpr ⟨List.mem_append_right _ (show w ∈ tables_1 from List.mem_append_right _ (List.mem_append_right _ (List.mem_append_right _ (List.mem_append_right _ (List.mem_append_right _ (List.mem_append_right _ (List.mem_append_right _ (List.mem_append_right _ (List.mem_append_left _ h))))))))), hg⟩
theorem tb_10 {w : Cond} (h : w ∈ tables_1_10) (hg : goodWord w = true) : w ∈ lw_T := List.mem_filter.mpr ⟨List.mem_append_right _ (show w ∈ tables_1 from List.mem_append_right _ (List.mem_append_right _ (List.mem_append_right _ (List.mem_append_right _ (List.mem_append_right _ (List.mem_append_right _ (List.mem_append_right _ (List.mem_append_right _ (List.mem_append_right _ (h)))))))))), hg⟩
/-! ===== the shape of the heap behind both constructors: LampTempers is cell 0, LampTempersModel cell 82 ===== -/
def sh_K : Nat → Nat := fun a => ([11, 10, 7, 14, 7, 14, 7, 14, 7, 14, 7, 14, 7, 14, 14, 17, 18, 14, 14, 14, 5, 14, 14, 14, 14, 14, 2, 14, 14, 6, 14, 14, 14, 14, 14, 14, 14, 14, 8, 15, 14, 14, 14, 3, 14, 14, 14, 14, 14, 14, 14, 14, 14, 14, 0, 14, 14, 14, 14, 14, 14, 14, 1, 7, 14, 7, 14, 14, 14, 14, 14, 14, 14, 14, 4, 14, 14, 14, 14, 14, 14, 14, 12, 14, 14, 14, 16, 13, 13, 14, 14, 14, 14, 14, 14, 13, 13, 13, 14, 14, 14, 14, 14, 14, 14, 16, 16, 14, 14, 16, 14, 16, 14, 14, 14, 14, 14, 14, 14, 14, 14, 15, 14] : List Nat).getD a 99
def sh_N : Nat → Nat := fun a => ([0, 0, 0, 60, 0, 30, 0, 72, 0, 38, 0, 18, 0, 24, 3, 6, 2, 400, 5, 120, 0, 401, 401, 500, 72, 5, 0, 13, 120, 0, 12, 12, 10, 144, 144, 120, 10, 10, 0, 4096, 2400, 8640, 1200, 0, 10, 10, 10, 10, 3, 360, 120, 24, 10, 22, 0, 120, 120, 1200, 120, 120, 4, 120, 0, 0, 72, 0, 60, 10, 10, 3, 4, 120, 120, 120, 0, 6, 4, 18, 18, 144, 12, 12, 0, 7, 5860, 11720, 2, 134, 400, 5, 401, 401, 401, 8, 5, 1123200, 7920, 7200, 144, 144, 10, 10, 10, 10, 10, 10, 10, 360, 3, 1200, 1200, 1200, 10240, 120, 120, 3, 3, 6, 6, 6, 3, 3, 120] : List Nat).getD a 0
def sh_R : List (Nat × Nat × Nat) := [(0, 0, 1), (0, 1, 16), (0, 2, 17), (0, 3, 18), (0, 4, 19), (0, 5, 20), (0, 6, 26), (0, 7, 29), (0, 8, 38), (0, 9, 43), (0, 10, 54), (0, 11, 62), (0, 12, 74), (1, 0, 2), (1, 1, 4), (1, 2, 6), (1, 3, 8), (1, 4, 10), (1, 5, 12), (1, 6, 14), (1, 7, 15), (2, 2, 3), (4, 2, 5), (6, 2, 7), (8, 2, 9), (10, 2, 11), (12, 2, 13), (20, 1, 21), (20, 2, 22), (20, 3, 23), (20, 4, 24), (20, 5, 25), (26, 0, 27), (26, 2, 28), (29, 0, 30), (29, 1, 31), (29, 3, 32), (29, 4, 1), (29, 5, 33), (29, 6, 34), (29, 7, 35), (29, 8, 36), (29, 9, 37), (38, 0, 1), (38, 1, 26), (38, 2, 29), (38, 6, 39), (38, 8, 40), (38, 9, 41), (38, 10, 42), (43, 1, 44), (43, 2, 45), (43, 3, 46), (43, 4, 47), (43, 9, 48), (43, 10, 49), (43, 11, 1), (43, 12, 29), (43, 13, 38), (43, 16, 50), (43, 17, 51), (43, 18, 52), (43, 19, 53), (54, 0, 55), (54, 1, 56), (54, 2, 57), (54, 4, 58), (54, 5, 1), (54, 6, 29), (54, 7, 38), (54, 8, 43), (54, 10, 59), (54, 11, 60), (54, 12, 61), (62, 0, 63), (62, 1, 65), (62, 2, 67), (62, 3, 68), (62, 5, 69), (62, 6, 1), (62, 7, 29), (62, 8, 43), (62, 13, 70), (62, 14, 71), (62, 15, 72), (62, 16, 73), (63, 2, 64), (65, 2, 66), (74, 2, 75), (74, 5, 1), (74, 6, 29), (74, 7, 38), (74, 8, 43), (74, 9, 76), (74, 10, 77), (74, 11, 78), (74, 13, 79), (74, 14, 80), (74, 15, 81), (82, 2, 83), (82, 3, 84), (82, 4, 85), (82, 5, 86), (82, 7, 87), (82, 9, 88), (82, 10, 89), (82, 13, 90), (82, 14, 91), (82, 15, 92), (82, 24, 93), (82, 25, 94), (82, 26, 95), (82, 27, 96), (82, 28, 97), (82, 30, 98), (82, 31, 99), (82, 32, 100), (82, 33, 101), (82, 34, 102), (82, 35, 103), (82, 36, 104), (82, 37, 105), (82, 38, 106), (82, 39, 107), (82, 40, 108), (82, 44, 109), (82, 45, 110), (82, 46, 111), (82, 50, 112), (82, 51, 113), (82, 52, 114), (82, 53, 115), (82, 54, 116), (82, 56, 117), (82, 57, 118), (82, 58, 119), (82, 59, 120), (82, 75, 121), (82, 76, 122)]
def Sh (h : ah_T) : Prop := (∀ a, a < 123 → ah_k h a = sh_K a ∧ (12 < sh_K a → ah_n h a = sh_N a)) ∧ (∀ q ∈ sh_R, ah_r h q.1 q.2.1 = some q.2.2) ∧ 123 ≤ ah_x h
theorem sh_k {h : ah_T} (hs : Sh h) (a c : Nat) (ha : a < 123) (hc : sh_K a = c) : ah_k h a = c := (hs.1 a ha).1.trans hc
theorem sh_n {h : ah_T} (hs : Sh h) (a n : Nat) (ha : a < 123) (hc : 12 < sh_K a) (hn : sh_N a = n) : ah_n h a = n := ((hs.1 a ha).2 hc).trans hn
theorem sh_r {h : ah_T} (hs : Sh h) (i : Nat) {a j b : Nat} (hi : sh_R[i]? = some (a, j, b)) : ah_r h a j = some b := hs.2.1 (a, j, b) (List.mem_of_getElem? hi)
theorem sh_in {h : ah_T} (hs : Sh h) (a n : Nat) {i : Int32} (ha : a < 123) (hc : 12 < sh_K a) (hn : sh_N a = n) (hi : vp_in i n) : vp_in i (ah_n h a) := by rw [sh_n hs a n ha hc hn]; exact hi
theorem sh_si {h : ah_T} {a j : Nat} {x : Int32} (hs : Sh h) : Sh (ah_si h a j x) := hs
theorem sh_sl {h : ah_T} {a j : Nat} {x : Int64} (hs : Sh h) : Sh (ah_sl h a j x) := hs
theorem sh_sa {h : ah_T} {a : Nat} {f : Nat → Int32} (hs : Sh h) : Sh (ah_sa h a f) := hs
theorem sh_sr {h : ah_T} {a j : Nat} {x : Option Nat} (hs : Sh h) (hn : sh_R.all (fun q => !(q.1 == a && q.2.1 == j)) = true) : Sh (ah_sr h a j x) := by
  refine ⟨hs.1, fun q hq => ?_, hs.2.2⟩
  have h1 := List.all_eq_true.mp hn q hq
  rw [ah_r_sr, if_neg, hs.2.1 q hq]
  rintro ⟨e1, e2⟩
  simp [e1, e2] at h1
theorem sh_nw {h : ah_T} {c n : Nat} (hs : Sh h) : Sh (ah_nw h c n) := by
  refine ⟨fun a ha => ?_, fun q hq => ?_, ?_⟩
  · have : a ≠ ah_x h := by have := hs.2.2; omega
    rw [ah_k_nw, ah_n_nw, if_neg this, if_neg this]
    exact hs.1 a ha
  · have h2 : q.1 < 123 := by
      have : sh_R.all (fun q => q.1 < 123) = true := by decide +kernel
      simpa using List.all_eq_true.mp this q hq
    rw [ah_r_nw, if_neg (by have := hs.2.2; omega)]
    exact hs.2.1 q hq
  · rw [ah_x_nw]; have := hs.2.2; omega
def ab_qi (P : Int32 → ah_T → Prop) : Option Value → ah_T → Prop := fun r h => ∃ v : Int32, r = some (.int v) ∧ P v h
def ab_ql (P : Int64 → ah_T → Prop) : Option Value → ah_T → Prop := fun r h => ∃ v : Int64, r = some (.long v) ∧ P v h
def ab_qv (P : ah_T → Prop) : Option Value → ah_T → Prop := fun r h => r = none ∧ P h
def ab_qr (P : Option Nat → ah_T → Prop) : Option Value → ah_T → Prop := fun r h => ∃ x : Option Nat, r = some (va_rf x) ∧ P x h
def ab_b (v : Int32) : Prop := v = 0 ∨ v = 1
theorem ab_b_nar {v : Int32} (h : ab_b v) : narrow .boolean (.int v) = .int v := by rcases h with rfl | rfl <;> rfl
theorem ab_b_fit {v : Int32} (h : ab_b v) : fits .boolean (.int v) = true := by rcases h with rfl | rfl <;> rfl
theorem ab_b0 : ab_b 0 := Or.inl rfl
theorem ab_b1 : ab_b 1 := Or.inr rfl
/-! fields as the constant pools name them -/
theorem f_X11_10 : ab_F RX11 10 11 0 true := ⟨RX11, TX11, 20, rfl, by decide, rfl, by decide, inT11, tyX11_ok, nmX11, tb_3 (List.mem_of_getElem? (i := 57) (by decide +kernel)) rfl, rfl, rfl⟩
theorem f_X11_16 : ab_F RX11 16 11 1 true := ⟨RX11, TX11, 20, rfl, by decide, rfl, by decide, inT11, tyX11_ok, nmX11, tb_3 (List.mem_of_getElem? (i := 58) (by decide +kernel)) rfl, rfl, rfl⟩
theorem f_X11_20 : ab_F RX11 20 11 2 true := ⟨RX11, TX11, 20, rfl, by decide, rfl, by decide, inT11, tyX11_ok, nmX11, tb_3 (List.mem_of_getElem? (i := 59) (by decide +kernel)) rfl, rfl, rfl⟩
theorem f_X11_24 : ab_F RX11 24 11 3 true := ⟨RX11, TX11, 20, rfl, by decide, rfl, by decide, inT11, tyX11_ok, nmX11, tb_3 (List.mem_of_getElem? (i := 60) (by decide +kernel)) rfl, rfl, rfl⟩
theorem f_X11_27 : ab_F RX11 27 11 4 true := ⟨RX11, TX11, 20, rfl, by decide, rfl, by decide, inT11, tyX11_ok, nmX11, tb_3 (List.mem_of_getElem? (i := 61) (by decide +kernel)) rfl, rfl, rfl⟩
theorem f_X11_33 : ab_F RX11 33 11 5 true := ⟨RX11, TX11, 20, rfl, by decide, rfl, by decide, inT11, tyX11_ok, nmX11, tb_3 (List.mem_of_getElem? (i := 62) (by decide +kernel)) rfl, rfl, rfl⟩
theorem f_X11_40 : ab_F RX11 40 11 6 true := ⟨RX11, TX11, 20, rfl, by decide, rfl, by decide, inT11, tyX11_ok, nmX11, tb_3 (List.mem_of_getElem? (i := 63) (by decide +kernel)) rfl, rfl, rfl⟩
theorem f_X11_49 : ab_F RX11 49 11 7 true := ⟨RX11, TX11, 20, rfl, by decide, rfl, by decide, inT11, tyX11_ok, nmX11, tb_3 (List.mem_of_getElem? (i := 64) (by decide +kernel)) rfl, rfl, rfl⟩
theorem f_X11_58 : ab_F RX11 58 11 8 true := ⟨RX11, TX11, 20, rfl, by decide, rfl, by decide, inT11, tyX11_ok, nmX11, tb_3 (List.mem_of_getElem? (i := 65) (by decide +kernel)) rfl, rfl, rfl⟩
theorem f_X11_67 : ab_F RX11 67 11 9 true := ⟨RX11, TX11, 20, rfl, by decide, rfl, by decide, inT11, tyX11_ok, nmX11, tb_3 (List.mem_of_getElem? (i := 66) (by decide +kernel)) rfl, rfl, rfl⟩
theorem f_X11_76 : ab_F RX11 76 11 10 true := ⟨RX11, TX11, 20, rfl, by decide, rfl, by decide, inT11, tyX11_ok, nmX11, tb_3 (List.mem_of_getElem? (i := 67) (by decide +kernel)) rfl, rfl, rfl⟩
theorem f_X11_85 : ab_F RX11 85 11 11 true := ⟨RX11, TX11, 20, rfl, by decide, rfl, by decide, inT11, tyX11_ok, nmX11, tb_3 (List.mem_of_getElem? (i := 68) (by decide +kernel)) rfl, rfl, rfl⟩
theorem f_X11_92 : ab_F RX11 92 11 12 true := ⟨RX11, TX11, 20, rfl, by decide, rfl, by decide, inT11, tyX11_ok, nmX11, tb_3 (List.mem_of_getElem? (i := 69) (by decide +kernel)) rfl, rfl, rfl⟩
theorem f_X11_96 : ab_F RX11 96 11 13 false := ⟨RX11, TX11, 20, rfl, by decide, rfl, by decide, inT11, tyX11_ok, nmX11, tb_3 (List.mem_of_getElem? (i := 70) (by decide +kernel)) rfl, rfl, rfl⟩
theorem f_X11_100 : ab_F RX11 100 11 14 false := ⟨RX11, TX11, 20, rfl, by decide, rfl, by decide, inT11, tyX11_ok, nmX11, tb_3 (List.mem_of_getElem? (i := 71) (by decide +kernel)) rfl, rfl, rfl⟩
theorem f_X11_103 : ab_F RX11 103 11 15 false := ⟨RX11, TX11, 20, rfl, by decide, rfl, by decide, inT11, tyX11_ok, nmX11, tb_3 (List.mem_of_getElem? (i := 72) (by decide +kernel)) rfl, rfl, rfl⟩
theorem f_X11_106 : ab_F RX11 106 11 16 false := ⟨RX11, TX11, 20, rfl, by decide, rfl, by decide, inT11, tyX11_ok, nmX11, tb_3 (List.mem_of_getElem? (i := 73) (by decide +kernel)) rfl, rfl, rfl⟩
theorem f_X11_109 : ab_F RX11 109 11 17 false := ⟨RX11, TX11, 20, rfl, by decide, rfl, by decide, inT11, tyX11_ok, nmX11, tb_3 (List.mem_of_getElem? (i := 74) (by decide +kernel)) rfl, rfl, rfl⟩
theorem f_X11_112 : ab_F RX11 112 11 18 false := ⟨RX11, TX11, 20, rfl, by decide, rfl, by decide, inT11, tyX11_ok, nmX11, tb_3 (List.mem_of_getElem? (i := 75) (by decide +kernel)) rfl, rfl, rfl⟩
theorem f_X11_116 : ab_F RX11 116 11 19 false := ⟨RX11, TX11, 20, rfl, by decide, rfl, by decide, inT11, tyX11_ok, nmX11, tb_3 (List.mem_of_getElem? (i := 76) (by decide +kernel)) rfl, rfl, rfl⟩
theorem f_X11_130 : ab_F RX11 130 10 0 true := ⟨RX10, TX10, 10, rfl, by decide, rfl, by decide, inT10, tyX10_ok, nmX10, tb_1 (List.mem_of_getElem? (i := 68) (by decide +kernel)) rfl, rfl, rfl⟩
theorem f_X11_175 : ab_F RX11 175 10 1 true := ⟨RX10, TX10, 10, rfl, by decide, rfl, by decide, inT10, tyX10_ok, nmX10, tb_1 (List.mem_of_getElem? (i := 74) (by decide +kernel)) rfl, rfl, rfl⟩
theorem f_X11_184 : ab_F RX11 184 10 2 true := ⟨RX10, TX10, 10, rfl, by decide, rfl, by decide, inT10, tyX10_ok, nmX10, tb_1 (List.mem_of_getElem? (i := 79) (by decide +kernel)) rfl, rfl, rfl⟩
theorem f_X11_187 : ab_F RX11 187 7 3 false := ⟨RX7, TX7, 4, rfl, by decide, rfl, by decide, inT7, tyX7_ok, nmX7, tb_1 (List.mem_of_getElem? (i := 53) (by decide +kernel)) rfl, rfl, rfl⟩
theorem f_X11_190 : ab_F RX11 190 10 3 true := ⟨RX10, TX10, 10, rfl, by decide, rfl, by decide, inT10, tyX10_ok, nmX10, tb_1 (List.mem_of_getElem? (i := 82) (by decide +kernel)) rfl, rfl, rfl⟩
theorem f_X11_193 : ab_F RX11 193 10 4 true := ⟨RX10, TX10, 10, rfl, by decide, rfl, by decide, inT10, tyX10_ok, nmX10, tb_1 (List.mem_of_getElem? (i := 85) (by decide +kernel)) rfl, rfl, rfl⟩
theorem f_X11_196 : ab_F RX11 196 10 6 true := ⟨RX10, TX10, 10, rfl, by decide, rfl, by decide, inT10, tyX10_ok, nmX10, tb_1 (List.mem_of_getElem? (i := 92) (by decide +kernel)) rfl, rfl, rfl⟩
theorem f_X11_207 : ab_F RX11 207 10 8 false := ⟨RX10, TX10, 10, rfl, by decide, rfl, by decide, inT10, tyX10_ok, nmX10, tb_1 (List.mem_of_getElem? (i := 95) (by decide +kernel)) rfl, rfl, rfl⟩
theorem f_X11_214 : ab_F RX11 214 5 0 false := ⟨RX5, TX5, 11, rfl, by decide, rfl, by decide, inT5, tyX5_ok, nmX5, tb_1 (List.mem_of_getElem? (i := 127) (by decide +kernel)) rfl, rfl, rfl⟩
theorem f_X11_221 : ab_F RX11 221 9 2 true := ⟨RX9, TX9, 4, rfl, by decide, rfl, by decide, inT9, tyX9_ok, nmX9, tb_4 (List.mem_of_getElem? (i := 223) (by decide +kernel)) rfl, rfl, rfl⟩
theorem f_X11_228 : ab_F RX11 228 10 9 false := ⟨RX10, TX10, 10, rfl, by decide, rfl, by decide, inT10, tyX10_ok, nmX10, tb_1 (List.mem_of_getElem? (i := 97) (by decide +kernel)) rfl, rfl, rfl⟩
theorem f_X11_238 : ab_F RX11 238 0 0 true := ⟨RX0, TX0, 13, rfl, by decide, rfl, by decide, inT0, tyX0_ok, nmX0, tb_2 (List.mem_of_getElem? (i := 124) (by decide +kernel)) rfl, rfl, rfl⟩
theorem f_X11_241 : ab_F RX11 241 0 2 true := ⟨RX0, TX0, 13, rfl, by decide, rfl, by decide, inT0, tyX0_ok, nmX0, tb_2 (List.mem_of_getElem? (i := 128) (by decide +kernel)) rfl, rfl, rfl⟩
theorem f_X11_244 : ab_F RX11 244 0 1 true := ⟨RX0, TX0, 13, rfl, by decide, rfl, by decide, inT0, tyX0_ok, nmX0, tb_2 (List.mem_of_getElem? (i := 126) (by decide +kernel)) rfl, rfl, rfl⟩
theorem f_X11_263 : ab_F RX11 263 6 2 false := ⟨RX6, TX6, 14, rfl, by decide, rfl, by decide, inT6, tyX6_ok, nmX6, tb_1 (List.mem_of_getElem? (i := 192) (by decide +kernel)) rfl, rfl, rfl⟩
theorem f_X11_266 : ab_F RX11 266 6 3 true := ⟨RX6, TX6, 14, rfl, by decide, rfl, by decide, inT6, tyX6_ok, nmX6, tb_1 (List.mem_of_getElem? (i := 194) (by decide +kernel)) rfl, rfl, rfl⟩
theorem f_X11_273 : ab_F RX11 273 0 3 false := ⟨RX0, TX0, 13, rfl, by decide, rfl, by decide, inT0, tyX0_ok, nmX0, tb_2 (List.mem_of_getElem? (i := 130) (by decide +kernel)) rfl, rfl, rfl⟩
theorem f_X11_276 : ab_F RX11 276 0 4 true := ⟨RX0, TX0, 13, rfl, by decide, rfl, by decide, inT0, tyX0_ok, nmX0, tb_2 (List.mem_of_getElem? (i := 132) (by decide +kernel)) rfl, rfl, rfl⟩
theorem f_X11_282 : ab_F RX11 282 1 4 false := ⟨RX1, TX1, 18, rfl, by decide, rfl, by decide, inT1, tyX1_ok, nmX1, tb_2 (List.mem_of_getElem? (i := 185) (by decide +kernel)) rfl, rfl, rfl⟩
theorem f_X11_285 : ab_F RX11 285 1 5 true := ⟨RX1, TX1, 18, rfl, by decide, rfl, by decide, inT1, tyX1_ok, nmX1, tb_2 (List.mem_of_getElem? (i := 187) (by decide +kernel)) rfl, rfl, rfl⟩
theorem f_X11_300 : ab_F RX11 300 4 1 false := ⟨RX4, TX4, 16, rfl, by decide, rfl, by decide, inT4, tyX4_ok, nmX4, tb_3 (List.mem_of_getElem? (i := 6) (by decide +kernel)) rfl, rfl, rfl⟩
theorem f_X11_303 : ab_F RX11 303 4 0 false := ⟨RX4, TX4, 16, rfl, by decide, rfl, by decide, inT4, tyX4_ok, nmX4, tb_3 (List.mem_of_getElem? (i := 4) (by decide +kernel)) rfl, rfl, rfl⟩
theorem f_X11_306 : ab_F RX11 306 4 2 true := ⟨RX4, TX4, 16, rfl, by decide, rfl, by decide, inT4, tyX4_ok, nmX4, tb_3 (List.mem_of_getElem? (i := 8) (by decide +kernel)) rfl, rfl, rfl⟩
theorem f_X11_312 : ab_F RX11 312 4 4 false := ⟨RX4, TX4, 16, rfl, by decide, rfl, by decide, inT4, tyX4_ok, nmX4, tb_3 (List.mem_of_getElem? (i := 12) (by decide +kernel)) rfl, rfl, rfl⟩
theorem f_X11_315 : ab_F RX11 315 4 3 false := ⟨RX4, TX4, 16, rfl, by decide, rfl, by decide, inT4, tyX4_ok, nmX4, tb_3 (List.mem_of_getElem? (i := 10) (by decide +kernel)) rfl, rfl, rfl⟩
theorem f_X11_324 : ab_F RX11 324 1 2 true := ⟨RX1, TX1, 18, rfl, by decide, rfl, by decide, inT1, tyX1_ok, nmX1, tb_2 (List.mem_of_getElem? (i := 181) (by decide +kernel)) rfl, rfl, rfl⟩
theorem f_X11_327 : ab_F RX11 327 1 3 true := ⟨RX1, TX1, 18, rfl, by decide, rfl, by decide, inT1, tyX1_ok, nmX1, tb_2 (List.mem_of_getElem? (i := 183) (by decide +kernel)) rfl, rfl, rfl⟩
theorem f_X11_330 : ab_F RX11 330 10 5 true := ⟨RX10, TX10, 10, rfl, by decide, rfl, by decide, inT10, tyX10_ok, nmX10, tb_1 (List.mem_of_getElem? (i := 88) (by decide +kernel)) rfl, rfl, rfl⟩
theorem f_X11_336 : ab_F RX11 336 1 0 true := ⟨RX1, TX1, 18, rfl, by decide, rfl, by decide, inT1, tyX1_ok, nmX1, tb_2 (List.mem_of_getElem? (i := 177) (by decide +kernel)) rfl, rfl, rfl⟩
theorem f_X11_345 : ab_F RX11 345 1 1 true := ⟨RX1, TX1, 18, rfl, by decide, rfl, by decide, inT1, tyX1_ok, nmX1, tb_2 (List.mem_of_getElem? (i := 179) (by decide +kernel)) rfl, rfl, rfl⟩
theorem f_X11_381 : ab_F RX11 381 2 0 true := ⟨RX2, TX2, 3, rfl, by decide, rfl, by decide, inT2, tyX2_ok, nmX2, tb_1 (List.mem_of_getElem? (i := 169) (by decide +kernel)) rfl, rfl, rfl⟩
theorem f_X11_384 : ab_F RX11 384 9 0 true := ⟨RX9, TX9, 4, rfl, by decide, rfl, by decide, inT9, tyX9_ok, nmX9, tb_4 (List.mem_of_getElem? (i := 219) (by decide +kernel)) rfl, rfl, rfl⟩
theorem f_X11_394 : ab_F RX11 394 2 1 false := ⟨RX2, TX2, 3, rfl, by decide, rfl, by decide, inT2, tyX2_ok, nmX2, tb_1 (List.mem_of_getElem? (i := 172) (by decide +kernel)) rfl, rfl, rfl⟩
theorem f_X0_9 : ab_F RX0 9 0 0 true := ⟨RX0, TX0, 13, rfl, by decide, rfl, by decide, inT0, tyX0_ok, nmX0, tb_2 (List.mem_of_getElem? (i := 123) (by decide +kernel)) rfl, rfl, rfl⟩
theorem f_X0_15 : ab_F RX0 15 0 1 true := ⟨RX0, TX0, 13, rfl, by decide, rfl, by decide, inT0, tyX0_ok, nmX0, tb_2 (List.mem_of_getElem? (i := 125) (by decide +kernel)) rfl, rfl, rfl⟩
theorem f_X0_18 : ab_F RX0 18 0 2 true := ⟨RX0, TX0, 13, rfl, by decide, rfl, by decide, inT0, tyX0_ok, nmX0, tb_2 (List.mem_of_getElem? (i := 127) (by decide +kernel)) rfl, rfl, rfl⟩
theorem f_X0_21 : ab_F RX0 21 0 3 false := ⟨RX0, TX0, 13, rfl, by decide, rfl, by decide, inT0, tyX0_ok, nmX0, tb_2 (List.mem_of_getElem? (i := 129) (by decide +kernel)) rfl, rfl, rfl⟩
theorem f_X0_25 : ab_F RX0 25 0 4 true := ⟨RX0, TX0, 13, rfl, by decide, rfl, by decide, inT0, tyX0_ok, nmX0, tb_2 (List.mem_of_getElem? (i := 131) (by decide +kernel)) rfl, rfl, rfl⟩
theorem f_X0_28 : ab_F RX0 28 0 9 false := ⟨RX0, TX0, 13, rfl, by decide, rfl, by decide, inT0, tyX0_ok, nmX0, tb_2 (List.mem_of_getElem? (i := 137) (by decide +kernel)) rfl, rfl, rfl⟩
theorem f_X0_32 : ab_F RX0 32 0 10 true := ⟨RX0, TX0, 13, rfl, by decide, rfl, by decide, inT0, tyX0_ok, nmX0, tb_2 (List.mem_of_getElem? (i := 138) (by decide +kernel)) rfl, rfl, rfl⟩
theorem f_X0_35 : ab_F RX0 35 0 11 true := ⟨RX0, TX0, 13, rfl, by decide, rfl, by decide, inT0, tyX0_ok, nmX0, tb_2 (List.mem_of_getElem? (i := 139) (by decide +kernel)) rfl, rfl, rfl⟩
theorem f_X0_38 : ab_F RX0 38 0 12 true := ⟨RX0, TX0, 13, rfl, by decide, rfl, by decide, inT0, tyX0_ok, nmX0, tb_2 (List.mem_of_getElem? (i := 140) (by decide +kernel)) rfl, rfl, rfl⟩
theorem f_X0_41 : ab_F RX0 41 0 5 true := ⟨RX0, TX0, 13, rfl, by decide, rfl, by decide, inT0, tyX0_ok, nmX0, tb_2 (List.mem_of_getElem? (i := 133) (by decide +kernel)) rfl, rfl, rfl⟩
theorem f_X0_45 : ab_F RX0 45 0 6 true := ⟨RX0, TX0, 13, rfl, by decide, rfl, by decide, inT0, tyX0_ok, nmX0, tb_2 (List.mem_of_getElem? (i := 134) (by decide +kernel)) rfl, rfl, rfl⟩
theorem f_X0_49 : ab_F RX0 49 0 7 true := ⟨RX0, TX0, 13, rfl, by decide, rfl, by decide, inT0, tyX0_ok, nmX0, tb_2 (List.mem_of_getElem? (i := 135) (by decide +kernel)) rfl, rfl, rfl⟩
theorem f_X0_53 : ab_F RX0 53 0 8 true := ⟨RX0, TX0, 13, rfl, by decide, rfl, by decide, inT0, tyX0_ok, nmX0, tb_2 (List.mem_of_getElem? (i := 136) (by decide +kernel)) rfl, rfl, rfl⟩
theorem f_X0_72 : ab_F RX0 72 3 7 false := ⟨RX3, TX3, 20, rfl, by decide, rfl, by decide, inT3, tyX3_ok, nmX3, tb_2 (List.mem_of_getElem? (i := 57) (by decide +kernel)) rfl, rfl, rfl⟩
theorem f_X0_75 : ab_F RX0 75 3 3 true := ⟨RX3, TX3, 20, rfl, by decide, rfl, by decide, inT3, tyX3_ok, nmX3, tb_2 (List.mem_of_getElem? (i := 50) (by decide +kernel)) rfl, rfl, rfl⟩
theorem f_X0_82 : ab_F RX0 82 10 1 true := ⟨RX10, TX10, 10, rfl, by decide, rfl, by decide, inT10, tyX10_ok, nmX10, tb_1 (List.mem_of_getElem? (i := 72) (by decide +kernel)) rfl, rfl, rfl⟩
theorem f_X0_88 : ab_F RX0 88 7 3 false := ⟨RX7, TX7, 4, rfl, by decide, rfl, by decide, inT7, tyX7_ok, nmX7, tb_1 (List.mem_of_getElem? (i := 49) (by decide +kernel)) rfl, rfl, rfl⟩
theorem f_X0_93 : ab_F RX0 93 3 2 true := ⟨RX3, TX3, 20, rfl, by decide, rfl, by decide, inT3, tyX3_ok, nmX3, tb_2 (List.mem_of_getElem? (i := 47) (by decide +kernel)) rfl, rfl, rfl⟩
theorem f_X0_96 : ab_F RX0 96 3 1 true := ⟨RX3, TX3, 20, rfl, by decide, rfl, by decide, inT3, tyX3_ok, nmX3, tb_2 (List.mem_of_getElem? (i := 44) (by decide +kernel)) rfl, rfl, rfl⟩
theorem f_X0_103 : ab_F RX0 103 3 8 false := ⟨RX3, TX3, 20, rfl, by decide, rfl, by decide, inT3, tyX3_ok, nmX3, tb_2 (List.mem_of_getElem? (i := 59) (by decide +kernel)) rfl, rfl, rfl⟩
theorem f_X0_106 : ab_F RX0 106 3 10 true := ⟨RX3, TX3, 20, rfl, by decide, rfl, by decide, inT3, tyX3_ok, nmX3, tb_2 (List.mem_of_getElem? (i := 65) (by decide +kernel)) rfl, rfl, rfl⟩
theorem f_X0_109 : ab_F RX0 109 3 9 true := ⟨RX3, TX3, 20, rfl, by decide, rfl, by decide, inT3, tyX3_ok, nmX3, tb_2 (List.mem_of_getElem? (i := 62) (by decide +kernel)) rfl, rfl, rfl⟩
theorem f_X0_124 : ab_F RX0 124 10 4 true := ⟨RX10, TX10, 10, rfl, by decide, rfl, by decide, inT10, tyX10_ok, nmX10, tb_1 (List.mem_of_getElem? (i := 84) (by decide +kernel)) rfl, rfl, rfl⟩
theorem f_X1_14 : ab_F RX1 14 1 0 true := ⟨RX1, TX1, 18, rfl, by decide, rfl, by decide, inT1, tyX1_ok, nmX1, tb_2 (List.mem_of_getElem? (i := 176) (by decide +kernel)) rfl, rfl, rfl⟩
theorem f_X1_20 : ab_F RX1 20 1 1 true := ⟨RX1, TX1, 18, rfl, by decide, rfl, by decide, inT1, tyX1_ok, nmX1, tb_2 (List.mem_of_getElem? (i := 178) (by decide +kernel)) rfl, rfl, rfl⟩
theorem f_X1_23 : ab_F RX1 23 1 2 true := ⟨RX1, TX1, 18, rfl, by decide, rfl, by decide, inT1, tyX1_ok, nmX1, tb_2 (List.mem_of_getElem? (i := 180) (by decide +kernel)) rfl, rfl, rfl⟩
theorem f_X1_27 : ab_F RX1 27 1 3 true := ⟨RX1, TX1, 18, rfl, by decide, rfl, by decide, inT1, tyX1_ok, nmX1, tb_2 (List.mem_of_getElem? (i := 182) (by decide +kernel)) rfl, rfl, rfl⟩
theorem f_X1_30 : ab_F RX1 30 1 4 false := ⟨RX1, TX1, 18, rfl, by decide, rfl, by decide, inT1, tyX1_ok, nmX1, tb_2 (List.mem_of_getElem? (i := 184) (by decide +kernel)) rfl, rfl, rfl⟩
theorem f_X1_34 : ab_F RX1 34 1 5 true := ⟨RX1, TX1, 18, rfl, by decide, rfl, by decide, inT1, tyX1_ok, nmX1, tb_2 (List.mem_of_getElem? (i := 186) (by decide +kernel)) rfl, rfl, rfl⟩
theorem f_X1_37 : ab_F RX1 37 1 9 false := ⟨RX1, TX1, 18, rfl, by decide, rfl, by decide, inT1, tyX1_ok, nmX1, tb_2 (List.mem_of_getElem? (i := 191) (by decide +kernel)) rfl, rfl, rfl⟩
theorem f_X1_41 : ab_F RX1 41 1 10 false := ⟨RX1, TX1, 18, rfl, by decide, rfl, by decide, inT1, tyX1_ok, nmX1, tb_2 (List.mem_of_getElem? (i := 192) (by decide +kernel)) rfl, rfl, rfl⟩
theorem f_X1_44 : ab_F RX1 44 1 11 false := ⟨RX1, TX1, 18, rfl, by decide, rfl, by decide, inT1, tyX1_ok, nmX1, tb_2 (List.mem_of_getElem? (i := 193) (by decide +kernel)) rfl, rfl, rfl⟩
theorem f_X1_47 : ab_F RX1 47 1 12 false := ⟨RX1, TX1, 18, rfl, by decide, rfl, by decide, inT1, tyX1_ok, nmX1, tb_2 (List.mem_of_getElem? (i := 194) (by decide +kernel)) rfl, rfl, rfl⟩
theorem f_X1_50 : ab_F RX1 50 1 13 true := ⟨RX1, TX1, 18, rfl, by decide, rfl, by decide, inT1, tyX1_ok, nmX1, tb_2 (List.mem_of_getElem? (i := 195) (by decide +kernel)) rfl, rfl, rfl⟩
theorem f_X1_53 : ab_F RX1 53 1 14 true := ⟨RX1, TX1, 18, rfl, by decide, rfl, by decide, inT1, tyX1_ok, nmX1, tb_2 (List.mem_of_getElem? (i := 196) (by decide +kernel)) rfl, rfl, rfl⟩
theorem f_X1_56 : ab_F RX1 56 1 15 true := ⟨RX1, TX1, 18, rfl, by decide, rfl, by decide, inT1, tyX1_ok, nmX1, tb_2 (List.mem_of_getElem? (i := 197) (by decide +kernel)) rfl, rfl, rfl⟩
theorem f_X1_59 : ab_F RX1 59 1 16 true := ⟨RX1, TX1, 18, rfl, by decide, rfl, by decide, inT1, tyX1_ok, nmX1, tb_2 (List.mem_of_getElem? (i := 198) (by decide +kernel)) rfl, rfl, rfl⟩
theorem f_X1_62 : ab_F RX1 62 1 17 false := ⟨RX1, TX1, 18, rfl, by decide, rfl, by decide, inT1, tyX1_ok, nmX1, tb_2 (List.mem_of_getElem? (i := 199) (by decide +kernel)) rfl, rfl, rfl⟩
theorem f_X1_65 : ab_F RX1 65 1 6 true := ⟨RX1, TX1, 18, rfl, by decide, rfl, by decide, inT1, tyX1_ok, nmX1, tb_2 (List.mem_of_getElem? (i := 188) (by decide +kernel)) rfl, rfl, rfl⟩
theorem f_X1_69 : ab_F RX1 69 1 7 true := ⟨RX1, TX1, 18, rfl, by decide, rfl, by decide, inT1, tyX1_ok, nmX1, tb_2 (List.mem_of_getElem? (i := 189) (by decide +kernel)) rfl, rfl, rfl⟩
theorem f_X1_73 : ab_F RX1 73 1 8 true := ⟨RX1, TX1, 18, rfl, by decide, rfl, by decide, inT1, tyX1_ok, nmX1, tb_2 (List.mem_of_getElem? (i := 190) (by decide +kernel)) rfl, rfl, rfl⟩
theorem f_X1_118 : ab_F RX1 118 6 0 true := ⟨RX6, TX6, 14, rfl, by decide, rfl, by decide, inT6, tyX6_ok, nmX6, tb_1 (List.mem_of_getElem? (i := 188) (by decide +kernel)) rfl, rfl, rfl⟩
theorem f_X1_126 : ab_F RX1 126 10 1 true := ⟨RX10, TX10, 10, rfl, by decide, rfl, by decide, inT10, tyX10_ok, nmX10, tb_1 (List.mem_of_getElem? (i := 75) (by decide +kernel)) rfl, rfl, rfl⟩
theorem f_X1_135 : ab_F RX1 135 7 3 false := ⟨RX7, TX7, 4, rfl, by decide, rfl, by decide, inT7, tyX7_ok, nmX7, tb_1 (List.mem_of_getElem? (i := 52) (by decide +kernel)) rfl, rfl, rfl⟩
theorem f_X1_158 : ab_F RX1 158 10 5 true := ⟨RX10, TX10, 10, rfl, by decide, rfl, by decide, inT10, tyX10_ok, nmX10, tb_1 (List.mem_of_getElem? (i := 87) (by decide +kernel)) rfl, rfl, rfl⟩
theorem f_X2_9 : ab_F RX2 9 2 0 true := ⟨RX2, TX2, 3, rfl, by decide, rfl, by decide, inT2, tyX2_ok, nmX2, tb_1 (List.mem_of_getElem? (i := 167) (by decide +kernel)) rfl, rfl, rfl⟩
theorem f_X2_15 : ab_F RX2 15 2 1 false := ⟨RX2, TX2, 3, rfl, by decide, rfl, by decide, inT2, tyX2_ok, nmX2, tb_1 (List.mem_of_getElem? (i := 170) (by decide +kernel)) rfl, rfl, rfl⟩
theorem f_X2_19 : ab_F RX2 19 2 2 true := ⟨RX2, TX2, 3, rfl, by decide, rfl, by decide, inT2, tyX2_ok, nmX2, tb_1 (List.mem_of_getElem? (i := 173) (by decide +kernel)) rfl, rfl, rfl⟩
theorem f_X3_9 : ab_F RX3 9 3 0 false := ⟨RX3, TX3, 20, rfl, by decide, rfl, by decide, inT3, tyX3_ok, nmX3, tb_2 (List.mem_of_getElem? (i := 41) (by decide +kernel)) rfl, rfl, rfl⟩
theorem f_X3_15 : ab_F RX3 15 3 1 true := ⟨RX3, TX3, 20, rfl, by decide, rfl, by decide, inT3, tyX3_ok, nmX3, tb_2 (List.mem_of_getElem? (i := 43) (by decide +kernel)) rfl, rfl, rfl⟩
theorem f_X3_19 : ab_F RX3 19 3 2 true := ⟨RX3, TX3, 20, rfl, by decide, rfl, by decide, inT3, tyX3_ok, nmX3, tb_2 (List.mem_of_getElem? (i := 46) (by decide +kernel)) rfl, rfl, rfl⟩
theorem f_X3_22 : ab_F RX3 22 3 3 true := ⟨RX3, TX3, 20, rfl, by decide, rfl, by decide, inT3, tyX3_ok, nmX3, tb_2 (List.mem_of_getElem? (i := 49) (by decide +kernel)) rfl, rfl, rfl⟩
theorem f_X3_25 : ab_F RX3 25 3 4 true := ⟨RX3, TX3, 20, rfl, by decide, rfl, by decide, inT3, tyX3_ok, nmX3, tb_2 (List.mem_of_getElem? (i := 51) (by decide +kernel)) rfl, rfl, rfl⟩
theorem f_X3_28 : ab_F RX3 28 3 5 false := ⟨RX3, TX3, 20, rfl, by decide, rfl, by decide, inT3, tyX3_ok, nmX3, tb_2 (List.mem_of_getElem? (i := 53) (by decide +kernel)) rfl, rfl, rfl⟩
theorem f_X3_31 : ab_F RX3 31 3 6 false := ⟨RX3, TX3, 20, rfl, by decide, rfl, by decide, inT3, tyX3_ok, nmX3, tb_2 (List.mem_of_getElem? (i := 55) (by decide +kernel)) rfl, rfl, rfl⟩
theorem f_X3_34 : ab_F RX3 34 3 7 false := ⟨RX3, TX3, 20, rfl, by decide, rfl, by decide, inT3, tyX3_ok, nmX3, tb_2 (List.mem_of_getElem? (i := 56) (by decide +kernel)) rfl, rfl, rfl⟩
theorem f_X3_37 : ab_F RX3 37 3 8 false := ⟨RX3, TX3, 20, rfl, by decide, rfl, by decide, inT3, tyX3_ok, nmX3, tb_2 (List.mem_of_getElem? (i := 58) (by decide +kernel)) rfl, rfl, rfl⟩
theorem f_X3_40 : ab_F RX3 40 3 9 true := ⟨RX3, TX3, 20, rfl, by decide, rfl, by decide, inT3, tyX3_ok, nmX3, tb_2 (List.mem_of_getElem? (i := 61) (by decide +kernel)) rfl, rfl, rfl⟩
theorem f_X3_43 : ab_F RX3 43 3 10 true := ⟨RX3, TX3, 20, rfl, by decide, rfl, by decide, inT3, tyX3_ok, nmX3, tb_2 (List.mem_of_getElem? (i := 64) (by decide +kernel)) rfl, rfl, rfl⟩
theorem f_X3_46 : ab_F RX3 46 3 14 false := ⟨RX3, TX3, 20, rfl, by decide, rfl, by decide, inT3, tyX3_ok, nmX3, tb_2 (List.mem_of_getElem? (i := 70) (by decide +kernel)) rfl, rfl, rfl⟩
theorem f_X3_49 : ab_F RX3 49 3 15 false := ⟨RX3, TX3, 20, rfl, by decide, rfl, by decide, inT3, tyX3_ok, nmX3, tb_2 (List.mem_of_getElem? (i := 71) (by decide +kernel)) rfl, rfl, rfl⟩
theorem f_X3_52 : ab_F RX3 52 3 16 true := ⟨RX3, TX3, 20, rfl, by decide, rfl, by decide, inT3, tyX3_ok, nmX3, tb_2 (List.mem_of_getElem? (i := 72) (by decide +kernel)) rfl, rfl, rfl⟩
theorem f_X3_55 : ab_F RX3 55 3 17 true := ⟨RX3, TX3, 20, rfl, by decide, rfl, by decide, inT3, tyX3_ok, nmX3, tb_2 (List.mem_of_getElem? (i := 73) (by decide +kernel)) rfl, rfl, rfl⟩
theorem f_X3_58 : ab_F RX3 58 3 18 true := ⟨RX3, TX3, 20, rfl, by decide, rfl, by decide, inT3, tyX3_ok, nmX3, tb_2 (List.mem_of_getElem? (i := 74) (by decide +kernel)) rfl, rfl, rfl⟩
theorem f_X3_61 : ab_F RX3 61 3 19 true := ⟨RX3, TX3, 20, rfl, by decide, rfl, by decide, inT3, tyX3_ok, nmX3, tb_2 (List.mem_of_getElem? (i := 75) (by decide +kernel)) rfl, rfl, rfl⟩
theorem f_X3_64 : ab_F RX3 64 3 11 true := ⟨RX3, TX3, 20, rfl, by decide, rfl, by decide, inT3, tyX3_ok, nmX3, tb_2 (List.mem_of_getElem? (i := 67) (by decide +kernel)) rfl, rfl, rfl⟩
theorem f_X3_68 : ab_F RX3 68 3 12 true := ⟨RX3, TX3, 20, rfl, by decide, rfl, by decide, inT3, tyX3_ok, nmX3, tb_2 (List.mem_of_getElem? (i := 68) (by decide +kernel)) rfl, rfl, rfl⟩
theorem f_X3_72 : ab_F RX3 72 3 13 true := ⟨RX3, TX3, 20, rfl, by decide, rfl, by decide, inT3, tyX3_ok, nmX3, tb_2 (List.mem_of_getElem? (i := 69) (by decide +kernel)) rfl, rfl, rfl⟩
theorem f_X3_76 : ab_F RX3 76 10 1 true := ⟨RX10, TX10, 10, rfl, by decide, rfl, by decide, inT10, tyX10_ok, nmX10, tb_1 (List.mem_of_getElem? (i := 71) (by decide +kernel)) rfl, rfl, rfl⟩
theorem f_X3_81 : ab_F RX3 81 7 3 false := ⟨RX7, TX7, 4, rfl, by decide, rfl, by decide, inT7, tyX7_ok, nmX7, tb_1 (List.mem_of_getElem? (i := 46) (by decide +kernel)) rfl, rfl, rfl⟩
theorem f_X3_96 : ab_F RX3 96 10 2 true := ⟨RX10, TX10, 10, rfl, by decide, rfl, by decide, inT10, tyX10_ok, nmX10, tb_1 (List.mem_of_getElem? (i := 78) (by decide +kernel)) rfl, rfl, rfl⟩
theorem f_X3_99 : ab_F RX3 99 10 3 true := ⟨RX10, TX10, 10, rfl, by decide, rfl, by decide, inT10, tyX10_ok, nmX10, tb_1 (List.mem_of_getElem? (i := 81) (by decide +kernel)) rfl, rfl, rfl⟩
theorem f_X3_147 : ab_F RX3 147 10 6 true := ⟨RX10, TX10, 10, rfl, by decide, rfl, by decide, inT10, tyX10_ok, nmX10, tb_1 (List.mem_of_getElem? (i := 91) (by decide +kernel)) rfl, rfl, rfl⟩
theorem f_X4_9 : ab_F RX4 9 4 0 false := ⟨RX4, TX4, 16, rfl, by decide, rfl, by decide, inT4, tyX4_ok, nmX4, tb_3 (List.mem_of_getElem? (i := 3) (by decide +kernel)) rfl, rfl, rfl⟩
theorem f_X4_15 : ab_F RX4 15 4 1 false := ⟨RX4, TX4, 16, rfl, by decide, rfl, by decide, inT4, tyX4_ok, nmX4, tb_3 (List.mem_of_getElem? (i := 5) (by decide +kernel)) rfl, rfl, rfl⟩
theorem f_X4_18 : ab_F RX4 18 4 2 true := ⟨RX4, TX4, 16, rfl, by decide, rfl, by decide, inT4, tyX4_ok, nmX4, tb_3 (List.mem_of_getElem? (i := 7) (by decide +kernel)) rfl, rfl, rfl⟩
theorem f_X4_22 : ab_F RX4 22 4 3 false := ⟨RX4, TX4, 16, rfl, by decide, rfl, by decide, inT4, tyX4_ok, nmX4, tb_3 (List.mem_of_getElem? (i := 9) (by decide +kernel)) rfl, rfl, rfl⟩
theorem f_X4_25 : ab_F RX4 25 4 4 false := ⟨RX4, TX4, 16, rfl, by decide, rfl, by decide, inT4, tyX4_ok, nmX4, tb_3 (List.mem_of_getElem? (i := 11) (by decide +kernel)) rfl, rfl, rfl⟩
theorem f_X4_28 : ab_F RX4 28 4 9 true := ⟨RX4, TX4, 16, rfl, by decide, rfl, by decide, inT4, tyX4_ok, nmX4, tb_3 (List.mem_of_getElem? (i := 17) (by decide +kernel)) rfl, rfl, rfl⟩
theorem f_X4_31 : ab_F RX4 31 4 10 true := ⟨RX4, TX4, 16, rfl, by decide, rfl, by decide, inT4, tyX4_ok, nmX4, tb_3 (List.mem_of_getElem? (i := 18) (by decide +kernel)) rfl, rfl, rfl⟩
theorem f_X4_34 : ab_F RX4 34 4 11 true := ⟨RX4, TX4, 16, rfl, by decide, rfl, by decide, inT4, tyX4_ok, nmX4, tb_3 (List.mem_of_getElem? (i := 19) (by decide +kernel)) rfl, rfl, rfl⟩
theorem f_X4_37 : ab_F RX4 37 4 12 false := ⟨RX4, TX4, 16, rfl, by decide, rfl, by decide, inT4, tyX4_ok, nmX4, tb_3 (List.mem_of_getElem? (i := 20) (by decide +kernel)) rfl, rfl, rfl⟩
theorem f_X4_41 : ab_F RX4 41 4 13 true := ⟨RX4, TX4, 16, rfl, by decide, rfl, by decide, inT4, tyX4_ok, nmX4, tb_3 (List.mem_of_getElem? (i := 21) (by decide +kernel)) rfl, rfl, rfl⟩
theorem f_X4_44 : ab_F RX4 44 4 14 true := ⟨RX4, TX4, 16, rfl, by decide, rfl, by decide, inT4, tyX4_ok, nmX4, tb_3 (List.mem_of_getElem? (i := 22) (by decide +kernel)) rfl, rfl, rfl⟩
theorem f_X4_47 : ab_F RX4 47 4 15 true := ⟨RX4, TX4, 16, rfl, by decide, rfl, by decide, inT4, tyX4_ok, nmX4, tb_3 (List.mem_of_getElem? (i := 23) (by decide +kernel)) rfl, rfl, rfl⟩
theorem f_X4_50 : ab_F RX4 50 4 5 true := ⟨RX4, TX4, 16, rfl, by decide, rfl, by decide, inT4, tyX4_ok, nmX4, tb_3 (List.mem_of_getElem? (i := 13) (by decide +kernel)) rfl, rfl, rfl⟩
theorem f_X4_54 : ab_F RX4 54 4 6 true := ⟨RX4, TX4, 16, rfl, by decide, rfl, by decide, inT4, tyX4_ok, nmX4, tb_3 (List.mem_of_getElem? (i := 14) (by decide +kernel)) rfl, rfl, rfl⟩
theorem f_X4_58 : ab_F RX4 58 4 7 true := ⟨RX4, TX4, 16, rfl, by decide, rfl, by decide, inT4, tyX4_ok, nmX4, tb_3 (List.mem_of_getElem? (i := 15) (by decide +kernel)) rfl, rfl, rfl⟩
theorem f_X4_62 : ab_F RX4 62 4 8 true := ⟨RX4, TX4, 16, rfl, by decide, rfl, by decide, inT4, tyX4_ok, nmX4, tb_3 (List.mem_of_getElem? (i := 16) (by decide +kernel)) rfl, rfl, rfl⟩
theorem f_X4_112 : ab_F RX4 112 10 0 true := ⟨RX10, TX10, 10, rfl, by decide, rfl, by decide, inT10, tyX10_ok, nmX10, tb_1 (List.mem_of_getElem? (i := 69) (by decide +kernel)) rfl, rfl, rfl⟩
theorem f_X4_118 : ab_F RX4 118 7 3 false := ⟨RX7, TX7, 4, rfl, by decide, rfl, by decide, inT7, tyX7_ok, nmX7, tb_1 (List.mem_of_getElem? (i := 51) (by decide +kernel)) rfl, rfl, rfl⟩
theorem f_X4_150 : ab_F RX4 150 3 0 false := ⟨RX3, TX3, 20, rfl, by decide, rfl, by decide, inT3, tyX3_ok, nmX3, tb_2 (List.mem_of_getElem? (i := 42) (by decide +kernel)) rfl, rfl, rfl⟩
theorem f_X4_153 : ab_F RX4 153 3 5 false := ⟨RX3, TX3, 20, rfl, by decide, rfl, by decide, inT3, tyX3_ok, nmX3, tb_2 (List.mem_of_getElem? (i := 54) (by decide +kernel)) rfl, rfl, rfl⟩
theorem f_X4_165 : ab_F RX4 165 3 2 true := ⟨RX3, TX3, 20, rfl, by decide, rfl, by decide, inT3, tyX3_ok, nmX3, tb_2 (List.mem_of_getElem? (i := 48) (by decide +kernel)) rfl, rfl, rfl⟩
theorem f_X4_168 : ab_F RX4 168 3 1 true := ⟨RX3, TX3, 20, rfl, by decide, rfl, by decide, inT3, tyX3_ok, nmX3, tb_2 (List.mem_of_getElem? (i := 45) (by decide +kernel)) rfl, rfl, rfl⟩
theorem f_X4_175 : ab_F RX4 175 3 8 false := ⟨RX3, TX3, 20, rfl, by decide, rfl, by decide, inT3, tyX3_ok, nmX3, tb_2 (List.mem_of_getElem? (i := 60) (by decide +kernel)) rfl, rfl, rfl⟩
theorem f_X4_178 : ab_F RX4 178 3 10 true := ⟨RX3, TX3, 20, rfl, by decide, rfl, by decide, inT3, tyX3_ok, nmX3, tb_2 (List.mem_of_getElem? (i := 66) (by decide +kernel)) rfl, rfl, rfl⟩
theorem f_X4_181 : ab_F RX4 181 3 9 true := ⟨RX3, TX3, 20, rfl, by decide, rfl, by decide, inT3, tyX3_ok, nmX3, tb_2 (List.mem_of_getElem? (i := 63) (by decide +kernel)) rfl, rfl, rfl⟩
theorem f_X4_184 : ab_F RX4 184 3 4 true := ⟨RX3, TX3, 20, rfl, by decide, rfl, by decide, inT3, tyX3_ok, nmX3, tb_2 (List.mem_of_getElem? (i := 52) (by decide +kernel)) rfl, rfl, rfl⟩
theorem f_X4_198 : ab_F RX4 198 6 1 true := ⟨RX6, TX6, 14, rfl, by decide, rfl, by decide, inT6, tyX6_ok, nmX6, tb_1 (List.mem_of_getElem? (i := 190) (by decide +kernel)) rfl, rfl, rfl⟩
theorem f_X5_9 : ab_F RX5 9 5 0 false := ⟨RX5, TX5, 11, rfl, by decide, rfl, by decide, inT5, tyX5_ok, nmX5, tb_1 (List.mem_of_getElem? (i := 126) (by decide +kernel)) rfl, rfl, rfl⟩
theorem f_X5_15 : ab_F RX5 15 5 1 true := ⟨RX5, TX5, 11, rfl, by decide, rfl, by decide, inT5, tyX5_ok, nmX5, tb_1 (List.mem_of_getElem? (i := 128) (by decide +kernel)) rfl, rfl, rfl⟩
theorem f_X5_19 : ab_F RX5 19 5 2 true := ⟨RX5, TX5, 11, rfl, by decide, rfl, by decide, inT5, tyX5_ok, nmX5, tb_1 (List.mem_of_getElem? (i := 129) (by decide +kernel)) rfl, rfl, rfl⟩
theorem f_X5_22 : ab_F RX5 22 5 3 true := ⟨RX5, TX5, 11, rfl, by decide, rfl, by decide, inT5, tyX5_ok, nmX5, tb_1 (List.mem_of_getElem? (i := 130) (by decide +kernel)) rfl, rfl, rfl⟩
theorem f_X5_25 : ab_F RX5 25 5 4 true := ⟨RX5, TX5, 11, rfl, by decide, rfl, by decide, inT5, tyX5_ok, nmX5, tb_1 (List.mem_of_getElem? (i := 131) (by decide +kernel)) rfl, rfl, rfl⟩
theorem f_X5_28 : ab_F RX5 28 5 5 true := ⟨RX5, TX5, 11, rfl, by decide, rfl, by decide, inT5, tyX5_ok, nmX5, tb_1 (List.mem_of_getElem? (i := 132) (by decide +kernel)) rfl, rfl, rfl⟩
theorem f_X5_31 : ab_F RX5 31 5 6 false := ⟨RX5, TX5, 11, rfl, by decide, rfl, by decide, inT5, tyX5_ok, nmX5, tb_1 (List.mem_of_getElem? (i := 133) (by decide +kernel)) rfl, rfl, rfl⟩
theorem f_X5_34 : ab_F RX5 34 5 7 false := ⟨RX5, TX5, 11, rfl, by decide, rfl, by decide, inT5, tyX5_ok, nmX5, tb_1 (List.mem_of_getElem? (i := 134) (by decide +kernel)) rfl, rfl, rfl⟩
theorem f_X5_37 : ab_F RX5 37 5 8 false := ⟨RX5, TX5, 11, rfl, by decide, rfl, by decide, inT5, tyX5_ok, nmX5, tb_1 (List.mem_of_getElem? (i := 135) (by decide +kernel)) rfl, rfl, rfl⟩
theorem f_X5_40 : ab_F RX5 40 5 9 false := ⟨RX5, TX5, 11, rfl, by decide, rfl, by decide, inT5, tyX5_ok, nmX5, tb_1 (List.mem_of_getElem? (i := 136) (by decide +kernel)) rfl, rfl, rfl⟩
theorem f_X5_43 : ab_F RX5 43 5 10 false := ⟨RX5, TX5, 11, rfl, by decide, rfl, by decide, inT5, tyX5_ok, nmX5, tb_1 (List.mem_of_getElem? (i := 137) (by decide +kernel)) rfl, rfl, rfl⟩
theorem f_X6_9 : ab_F RX6 9 6 0 true := ⟨RX6, TX6, 14, rfl, by decide, rfl, by decide, inT6, tyX6_ok, nmX6, tb_1 (List.mem_of_getElem? (i := 187) (by decide +kernel)) rfl, rfl, rfl⟩
theorem f_X6_15 : ab_F RX6 15 6 1 true := ⟨RX6, TX6, 14, rfl, by decide, rfl, by decide, inT6, tyX6_ok, nmX6, tb_1 (List.mem_of_getElem? (i := 189) (by decide +kernel)) rfl, rfl, rfl⟩
theorem f_X6_18 : ab_F RX6 18 6 2 false := ⟨RX6, TX6, 14, rfl, by decide, rfl, by decide, inT6, tyX6_ok, nmX6, tb_1 (List.mem_of_getElem? (i := 191) (by decide +kernel)) rfl, rfl, rfl⟩
theorem f_X6_22 : ab_F RX6 22 6 3 true := ⟨RX6, TX6, 14, rfl, by decide, rfl, by decide, inT6, tyX6_ok, nmX6, tb_1 (List.mem_of_getElem? (i := 193) (by decide +kernel)) rfl, rfl, rfl⟩
theorem f_X6_25 : ab_F RX6 25 6 5 true := ⟨RX6, TX6, 14, rfl, by decide, rfl, by decide, inT6, tyX6_ok, nmX6, tb_1 (List.mem_of_getElem? (i := 196) (by decide +kernel)) rfl, rfl, rfl⟩
theorem f_X6_28 : ab_F RX6 28 6 6 true := ⟨RX6, TX6, 14, rfl, by decide, rfl, by decide, inT6, tyX6_ok, nmX6, tb_1 (List.mem_of_getElem? (i := 197) (by decide +kernel)) rfl, rfl, rfl⟩
theorem f_X6_31 : ab_F RX6 31 6 7 true := ⟨RX6, TX6, 14, rfl, by decide, rfl, by decide, inT6, tyX6_ok, nmX6, tb_1 (List.mem_of_getElem? (i := 198) (by decide +kernel)) rfl, rfl, rfl⟩
theorem f_X6_34 : ab_F RX6 34 6 8 true := ⟨RX6, TX6, 14, rfl, by decide, rfl, by decide, inT6, tyX6_ok, nmX6, tb_1 (List.mem_of_getElem? (i := 199) (by decide +kernel)) rfl, rfl, rfl⟩
theorem f_X6_37 : ab_F RX6 37 6 9 true := ⟨RX6, TX6, 14, rfl, by decide, rfl, by decide, inT6, tyX6_ok, nmX6, tb_1 (List.mem_of_getElem? (i := 200) (by decide +kernel)) rfl, rfl, rfl⟩
theorem f_X6_40 : ab_F RX6 40 6 10 false := ⟨RX6, TX6, 14, rfl, by decide, rfl, by decide, inT6, tyX6_ok, nmX6, tb_1 (List.mem_of_getElem? (i := 201) (by decide +kernel)) rfl, rfl, rfl⟩
theorem f_X6_43 : ab_F RX6 43 6 11 false := ⟨RX6, TX6, 14, rfl, by decide, rfl, by decide, inT6, tyX6_ok, nmX6, tb_1 (List.mem_of_getElem? (i := 202) (by decide +kernel)) rfl, rfl, rfl⟩
theorem f_X6_46 : ab_F RX6 46 6 12 false := ⟨RX6, TX6, 14, rfl, by decide, rfl, by decide, inT6, tyX6_ok, nmX6, tb_1 (List.mem_of_getElem? (i := 203) (by decide +kernel)) rfl, rfl, rfl⟩
theorem f_X6_50 : ab_F RX6 50 6 13 false := ⟨RX6, TX6, 14, rfl, by decide, rfl, by decide, inT6, tyX6_ok, nmX6, tb_1 (List.mem_of_getElem? (i := 204) (by decide +kernel)) rfl, rfl, rfl⟩
theorem f_X6_53 : ab_F RX6 53 6 4 true := ⟨RX6, TX6, 14, rfl, by decide, rfl, by decide, inT6, tyX6_ok, nmX6, tb_1 (List.mem_of_getElem? (i := 195) (by decide +kernel)) rfl, rfl, rfl⟩
theorem f_X6_63 : ab_F RX6 63 10 0 true := ⟨RX10, TX10, 10, rfl, by decide, rfl, by decide, inT10, tyX10_ok, nmX10, tb_1 (List.mem_of_getElem? (i := 67) (by decide +kernel)) rfl, rfl, rfl⟩
theorem f_X6_69 : ab_F RX6 69 7 3 false := ⟨RX7, TX7, 4, rfl, by decide, rfl, by decide, inT7, tyX7_ok, nmX7, tb_1 (List.mem_of_getElem? (i := 48) (by decide +kernel)) rfl, rfl, rfl⟩
theorem f_X6_107 : ab_F RX6 107 10 1 true := ⟨RX10, TX10, 10, rfl, by decide, rfl, by decide, inT10, tyX10_ok, nmX10, tb_1 (List.mem_of_getElem? (i := 76) (by decide +kernel)) rfl, rfl, rfl⟩
theorem f_X7_9 : ab_F RX7 9 7 3 false := ⟨RX7, TX7, 4, rfl, by decide, rfl, by decide, inT7, tyX7_ok, nmX7, tb_1 (List.mem_of_getElem? (i := 45) (by decide +kernel)) rfl, rfl, rfl⟩
theorem f_X7_15 : ab_F RX7 15 7 0 true := ⟨RX7, TX7, 4, rfl, by decide, rfl, by decide, inT7, tyX7_ok, nmX7, tb_1 (List.mem_of_getElem? (i := 42) (by decide +kernel)) rfl, rfl, rfl⟩
theorem f_X7_18 : ab_F RX7 18 7 1 true := ⟨RX7, TX7, 4, rfl, by decide, rfl, by decide, inT7, tyX7_ok, nmX7, tb_1 (List.mem_of_getElem? (i := 43) (by decide +kernel)) rfl, rfl, rfl⟩
theorem f_X7_21 : ab_F RX7 21 7 2 true := ⟨RX7, TX7, 4, rfl, by decide, rfl, by decide, inT7, tyX7_ok, nmX7, tb_1 (List.mem_of_getElem? (i := 44) (by decide +kernel)) rfl, rfl, rfl⟩
theorem f_X8_9 : ab_F RX8 9 8 3 false := ⟨RX8, TX8, 11, rfl, by decide, rfl, by decide, inT8, tyX8_ok, nmX8, tb_2 (List.mem_of_getElem? (i := 3) (by decide +kernel)) rfl, rfl, rfl⟩
theorem f_X8_15 : ab_F RX8 15 8 4 false := ⟨RX8, TX8, 11, rfl, by decide, rfl, by decide, inT8, tyX8_ok, nmX8, tb_2 (List.mem_of_getElem? (i := 4) (by decide +kernel)) rfl, rfl, rfl⟩
theorem f_X8_19 : ab_F RX8 19 8 5 false := ⟨RX8, TX8, 11, rfl, by decide, rfl, by decide, inT8, tyX8_ok, nmX8, tb_2 (List.mem_of_getElem? (i := 5) (by decide +kernel)) rfl, rfl, rfl⟩
theorem f_X8_22 : ab_F RX8 22 8 6 true := ⟨RX8, TX8, 11, rfl, by decide, rfl, by decide, inT8, tyX8_ok, nmX8, tb_2 (List.mem_of_getElem? (i := 6) (by decide +kernel)) rfl, rfl, rfl⟩
theorem f_X8_26 : ab_F RX8 26 8 7 false := ⟨RX8, TX8, 11, rfl, by decide, rfl, by decide, inT8, tyX8_ok, nmX8, tb_2 (List.mem_of_getElem? (i := 7) (by decide +kernel)) rfl, rfl, rfl⟩
theorem f_X8_30 : ab_F RX8 30 8 8 true := ⟨RX8, TX8, 11, rfl, by decide, rfl, by decide, inT8, tyX8_ok, nmX8, tb_2 (List.mem_of_getElem? (i := 8) (by decide +kernel)) rfl, rfl, rfl⟩
theorem f_X8_34 : ab_F RX8 34 8 9 true := ⟨RX8, TX8, 11, rfl, by decide, rfl, by decide, inT8, tyX8_ok, nmX8, tb_2 (List.mem_of_getElem? (i := 9) (by decide +kernel)) rfl, rfl, rfl⟩
theorem f_X8_37 : ab_F RX8 37 8 10 true := ⟨RX8, TX8, 11, rfl, by decide, rfl, by decide, inT8, tyX8_ok, nmX8, tb_2 (List.mem_of_getElem? (i := 10) (by decide +kernel)) rfl, rfl, rfl⟩
theorem f_X8_40 : ab_F RX8 40 8 0 true := ⟨RX8, TX8, 11, rfl, by decide, rfl, by decide, inT8, tyX8_ok, nmX8, tb_2 (List.mem_of_getElem? (i := 0) (by decide +kernel)) rfl, rfl, rfl⟩
theorem f_X8_44 : ab_F RX8 44 8 1 true := ⟨RX8, TX8, 11, rfl, by decide, rfl, by decide, inT8, tyX8_ok, nmX8, tb_2 (List.mem_of_getElem? (i := 1) (by decide +kernel)) rfl, rfl, rfl⟩
theorem f_X8_48 : ab_F RX8 48 8 2 true := ⟨RX8, TX8, 11, rfl, by decide, rfl, by decide, inT8, tyX8_ok, nmX8, tb_2 (List.mem_of_getElem? (i := 2) (by decide +kernel)) rfl, rfl, rfl⟩
theorem f_X8_58 : ab_F RX8 58 10 6 true := ⟨RX10, TX10, 10, rfl, by decide, rfl, by decide, inT10, tyX10_ok, nmX10, tb_1 (List.mem_of_getElem? (i := 90) (by decide +kernel)) rfl, rfl, rfl⟩
theorem f_X8_71 : ab_F RX8 71 9 3 true := ⟨RX9, TX9, 4, rfl, by decide, rfl, by decide, inT9, tyX9_ok, nmX9, tb_4 (List.mem_of_getElem? (i := 225) (by decide +kernel)) rfl, rfl, rfl⟩
theorem f_X8_76 : ab_F RX8 76 10 1 true := ⟨RX10, TX10, 10, rfl, by decide, rfl, by decide, inT10, tyX10_ok, nmX10, tb_1 (List.mem_of_getElem? (i := 73) (by decide +kernel)) rfl, rfl, rfl⟩
theorem f_X8_80 : ab_F RX8 80 7 3 false := ⟨RX7, TX7, 4, rfl, by decide, rfl, by decide, inT7, tyX7_ok, nmX7, tb_1 (List.mem_of_getElem? (i := 50) (by decide +kernel)) rfl, rfl, rfl⟩
theorem f_X8_98 : ab_F RX8 98 2 0 true := ⟨RX2, TX2, 3, rfl, by decide, rfl, by decide, inT2, tyX2_ok, nmX2, tb_1 (List.mem_of_getElem? (i := 168) (by decide +kernel)) rfl, rfl, rfl⟩
theorem f_X8_108 : ab_F RX8 108 9 2 true := ⟨RX9, TX9, 4, rfl, by decide, rfl, by decide, inT9, tyX9_ok, nmX9, tb_4 (List.mem_of_getElem? (i := 222) (by decide +kernel)) rfl, rfl, rfl⟩
theorem f_X8_112 : ab_F RX8 112 9 0 true := ⟨RX9, TX9, 4, rfl, by decide, rfl, by decide, inT9, tyX9_ok, nmX9, tb_4 (List.mem_of_getElem? (i := 218) (by decide +kernel)) rfl, rfl, rfl⟩
theorem f_X8_119 : ab_F RX8 119 2 1 false := ⟨RX2, TX2, 3, rfl, by decide, rfl, by decide, inT2, tyX2_ok, nmX2, tb_1 (List.mem_of_getElem? (i := 171) (by decide +kernel)) rfl, rfl, rfl⟩
theorem f_X9_9 : ab_F RX9 9 9 0 true := ⟨RX9, TX9, 4, rfl, by decide, rfl, by decide, inT9, tyX9_ok, nmX9, tb_4 (List.mem_of_getElem? (i := 217) (by decide +kernel)) rfl, rfl, rfl⟩
theorem f_X9_15 : ab_F RX9 15 9 1 true := ⟨RX9, TX9, 4, rfl, by decide, rfl, by decide, inT9, tyX9_ok, nmX9, tb_4 (List.mem_of_getElem? (i := 220) (by decide +kernel)) rfl, rfl, rfl⟩
theorem f_X9_18 : ab_F RX9 18 9 2 true := ⟨RX9, TX9, 4, rfl, by decide, rfl, by decide, inT9, tyX9_ok, nmX9, tb_4 (List.mem_of_getElem? (i := 221) (by decide +kernel)) rfl, rfl, rfl⟩
theorem f_X9_22 : ab_F RX9 22 9 3 true := ⟨RX9, TX9, 4, rfl, by decide, rfl, by decide, inT9, tyX9_ok, nmX9, tb_4 (List.mem_of_getElem? (i := 224) (by decide +kernel)) rfl, rfl, rfl⟩
theorem f_X10_14 : ab_F RX10 14 10 0 true := ⟨RX10, TX10, 10, rfl, by decide, rfl, by decide, inT10, tyX10_ok, nmX10, tb_1 (List.mem_of_getElem? (i := 66) (by decide +kernel)) rfl, rfl, rfl⟩
theorem f_X10_20 : ab_F RX10 20 10 1 true := ⟨RX10, TX10, 10, rfl, by decide, rfl, by decide, inT10, tyX10_ok, nmX10, tb_1 (List.mem_of_getElem? (i := 70) (by decide +kernel)) rfl, rfl, rfl⟩
theorem f_X10_23 : ab_F RX10 23 10 2 true := ⟨RX10, TX10, 10, rfl, by decide, rfl, by decide, inT10, tyX10_ok, nmX10, tb_1 (List.mem_of_getElem? (i := 77) (by decide +kernel)) rfl, rfl, rfl⟩
theorem f_X10_26 : ab_F RX10 26 10 3 true := ⟨RX10, TX10, 10, rfl, by decide, rfl, by decide, inT10, tyX10_ok, nmX10, tb_1 (List.mem_of_getElem? (i := 80) (by decide +kernel)) rfl, rfl, rfl⟩
theorem f_X10_29 : ab_F RX10 29 10 4 true := ⟨RX10, TX10, 10, rfl, by decide, rfl, by decide, inT10, tyX10_ok, nmX10, tb_1 (List.mem_of_getElem? (i := 83) (by decide +kernel)) rfl, rfl, rfl⟩
theorem f_X10_32 : ab_F RX10 32 10 5 true := ⟨RX10, TX10, 10, rfl, by decide, rfl, by decide, inT10, tyX10_ok, nmX10, tb_1 (List.mem_of_getElem? (i := 86) (by decide +kernel)) rfl, rfl, rfl⟩
theorem f_X10_35 : ab_F RX10 35 10 6 true := ⟨RX10, TX10, 10, rfl, by decide, rfl, by decide, inT10, tyX10_ok, nmX10, tb_1 (List.mem_of_getElem? (i := 89) (by decide +kernel)) rfl, rfl, rfl⟩
theorem f_X10_41 : ab_F RX10 41 10 7 true := ⟨RX10, TX10, 10, rfl, by decide, rfl, by decide, inT10, tyX10_ok, nmX10, tb_1 (List.mem_of_getElem? (i := 93) (by decide +kernel)) rfl, rfl, rfl⟩
theorem f_X10_45 : ab_F RX10 45 10 8 false := ⟨RX10, TX10, 10, rfl, by decide, rfl, by decide, inT10, tyX10_ok, nmX10, tb_1 (List.mem_of_getElem? (i := 94) (by decide +kernel)) rfl, rfl, rfl⟩
theorem f_X10_49 : ab_F RX10 49 10 9 false := ⟨RX10, TX10, 10, rfl, by decide, rfl, by decide, inT10, tyX10_ok, nmX10, tb_1 (List.mem_of_getElem? (i := 96) (by decide +kernel)) rfl, rfl, rfl⟩
theorem f_X10_61 : ab_F RX10 61 7 3 false := ⟨RX7, TX7, 4, rfl, by decide, rfl, by decide, inT7, tyX7_ok, nmX7, tb_1 (List.mem_of_getElem? (i := 47) (by decide +kernel)) rfl, rfl, rfl⟩
theorem f_X12_3 : ab_F RX12 3 12 0 false := ⟨RX12, TX12, 79, rfl, by decide, rfl, by decide, inT12, tyX12_ok, nmX12, tb_6 (List.mem_of_getElem? (i := 219) (by decide +kernel)) rfl, rfl, rfl⟩
theorem f_X12_7 : ab_F RX12 7 12 2 true := ⟨RX12, TX12, 79, rfl, by decide, rfl, by decide, inT12, tyX12_ok, nmX12, tb_6 (List.mem_of_getElem? (i := 221) (by decide +kernel)) rfl, rfl, rfl⟩
theorem f_X12_11 : ab_F RX12 11 12 1 false := ⟨RX12, TX12, 79, rfl, by decide, rfl, by decide, inT12, tyX12_ok, nmX12, tb_6 (List.mem_of_getElem? (i := 220) (by decide +kernel)) rfl, rfl, rfl⟩
theorem f_X12_20 : ab_F RX12 20 12 3 true := ⟨RX12, TX12, 79, rfl, by decide, rfl, by decide, inT12, tyX12_ok, nmX12, tb_6 (List.mem_of_getElem? (i := 222) (by decide +kernel)) rfl, rfl, rfl⟩
theorem f_X12_23 : ab_F RX12 23 12 4 true := ⟨RX12, TX12, 79, rfl, by decide, rfl, by decide, inT12, tyX12_ok, nmX12, tb_6 (List.mem_of_getElem? (i := 223) (by decide +kernel)) rfl, rfl, rfl⟩
theorem f_X12_26 : ab_F RX12 26 12 5 true := ⟨RX12, TX12, 79, rfl, by decide, rfl, by decide, inT12, tyX12_ok, nmX12, tb_6 (List.mem_of_getElem? (i := 224) (by decide +kernel)) rfl, rfl, rfl⟩
theorem f_X12_30 : ab_F RX12 30 12 7 true := ⟨RX12, TX12, 79, rfl, by decide, rfl, by decide, inT12, tyX12_ok, nmX12, tb_6 (List.mem_of_getElem? (i := 226) (by decide +kernel)) rfl, rfl, rfl⟩
theorem f_X12_34 : ab_F RX12 34 12 9 true := ⟨RX12, TX12, 79, rfl, by decide, rfl, by decide, inT12, tyX12_ok, nmX12, tb_6 (List.mem_of_getElem? (i := 228) (by decide +kernel)) rfl, rfl, rfl⟩
theorem f_X12_37 : ab_F RX12 37 12 10 true := ⟨RX12, TX12, 79, rfl, by decide, rfl, by decide, inT12, tyX12_ok, nmX12, tb_6 (List.mem_of_getElem? (i := 229) (by decide +kernel)) rfl, rfl, rfl⟩
theorem f_X12_40 : ab_F RX12 40 12 12 false := ⟨RX12, TX12, 79, rfl, by decide, rfl, by decide, inT12, tyX12_ok, nmX12, tb_6 (List.mem_of_getElem? (i := 231) (by decide +kernel)) rfl, rfl, rfl⟩
theorem f_X12_43 : ab_F RX12 43 12 13 true := ⟨RX12, TX12, 79, rfl, by decide, rfl, by decide, inT12, tyX12_ok, nmX12, tb_6 (List.mem_of_getElem? (i := 232) (by decide +kernel)) rfl, rfl, rfl⟩
theorem f_X12_46 : ab_F RX12 46 12 14 true := ⟨RX12, TX12, 79, rfl, by decide, rfl, by decide, inT12, tyX12_ok, nmX12, tb_6 (List.mem_of_getElem? (i := 233) (by decide +kernel)) rfl, rfl, rfl⟩
theorem f_X12_49 : ab_F RX12 49 12 15 true := ⟨RX12, TX12, 79, rfl, by decide, rfl, by decide, inT12, tyX12_ok, nmX12, tb_6 (List.mem_of_getElem? (i := 234) (by decide +kernel)) rfl, rfl, rfl⟩
theorem f_X12_52 : ab_F RX12 52 12 24 true := ⟨RX12, TX12, 79, rfl, by decide, rfl, by decide, inT12, tyX12_ok, nmX12, tb_7 (List.mem_of_getElem? (i := 3) (by decide +kernel)) rfl, rfl, rfl⟩
theorem f_X12_55 : ab_F RX12 55 12 25 true := ⟨RX12, TX12, 79, rfl, by decide, rfl, by decide, inT12, tyX12_ok, nmX12, tb_7 (List.mem_of_getElem? (i := 4) (by decide +kernel)) rfl, rfl, rfl⟩
theorem f_X12_59 : ab_F RX12 59 12 26 true := ⟨RX12, TX12, 79, rfl, by decide, rfl, by decide, inT12, tyX12_ok, nmX12, tb_7 (List.mem_of_getElem? (i := 5) (by decide +kernel)) rfl, rfl, rfl⟩
theorem f_X12_62 : ab_F RX12 62 12 27 true := ⟨RX12, TX12, 79, rfl, by decide, rfl, by decide, inT12, tyX12_ok, nmX12, tb_7 (List.mem_of_getElem? (i := 6) (by decide +kernel)) rfl, rfl, rfl⟩
theorem f_X12_65 : ab_F RX12 65 12 28 true := ⟨RX12, TX12, 79, rfl, by decide, rfl, by decide, inT12, tyX12_ok, nmX12, tb_7 (List.mem_of_getElem? (i := 7) (by decide +kernel)) rfl, rfl, rfl⟩
theorem f_X12_68 : ab_F RX12 68 12 29 false := ⟨RX12, TX12, 79, rfl, by decide, rfl, by decide, inT12, tyX12_ok, nmX12, tb_7 (List.mem_of_getElem? (i := 8) (by decide +kernel)) rfl, rfl, rfl⟩
theorem f_X12_71 : ab_F RX12 71 12 30 true := ⟨RX12, TX12, 79, rfl, by decide, rfl, by decide, inT12, tyX12_ok, nmX12, tb_7 (List.mem_of_getElem? (i := 9) (by decide +kernel)) rfl, rfl, rfl⟩
theorem f_X12_74 : ab_F RX12 74 12 31 true := ⟨RX12, TX12, 79, rfl, by decide, rfl, by decide, inT12, tyX12_ok, nmX12, tb_7 (List.mem_of_getElem? (i := 10) (by decide +kernel)) rfl, rfl, rfl⟩
theorem f_X12_77 : ab_F RX12 77 12 32 true := ⟨RX12, TX12, 79, rfl, by decide, rfl, by decide, inT12, tyX12_ok, nmX12, tb_7 (List.mem_of_getElem? (i := 11) (by decide +kernel)) rfl, rfl, rfl⟩
theorem f_X12_80 : ab_F RX12 80 12 33 true := ⟨RX12, TX12, 79, rfl, by decide, rfl, by decide, inT12, tyX12_ok, nmX12, tb_7 (List.mem_of_getElem? (i := 12) (by decide +kernel)) rfl, rfl, rfl⟩
theorem f_X12_83 : ab_F RX12 83 12 34 true := ⟨RX12, TX12, 79, rfl, by decide, rfl, by decide, inT12, tyX12_ok, nmX12, tb_7 (List.mem_of_getElem? (i := 13) (by decide +kernel)) rfl, rfl, rfl⟩
theorem f_X12_86 : ab_F RX12 86 12 35 true := ⟨RX12, TX12, 79, rfl, by decide, rfl, by decide, inT12, tyX12_ok, nmX12, tb_7 (List.mem_of_getElem? (i := 14) (by decide +kernel)) rfl, rfl, rfl⟩
theorem f_X12_89 : ab_F RX12 89 12 36 true := ⟨RX12, TX12, 79, rfl, by decide, rfl, by decide, inT12, tyX12_ok, nmX12, tb_7 (List.mem_of_getElem? (i := 15) (by decide +kernel)) rfl, rfl, rfl⟩
theorem f_X12_92 : ab_F RX12 92 12 37 true := ⟨RX12, TX12, 79, rfl, by decide, rfl, by decide, inT12, tyX12_ok, nmX12, tb_7 (List.mem_of_getElem? (i := 16) (by decide +kernel)) rfl, rfl, rfl⟩
theorem f_X12_95 : ab_F RX12 95 12 38 true := ⟨RX12, TX12, 79, rfl, by decide, rfl, by decide, inT12, tyX12_ok, nmX12, tb_7 (List.mem_of_getElem? (i := 17) (by decide +kernel)) rfl, rfl, rfl⟩
theorem f_X12_98 : ab_F RX12 98 12 39 true := ⟨RX12, TX12, 79, rfl, by decide, rfl, by decide, inT12, tyX12_ok, nmX12, tb_7 (List.mem_of_getElem? (i := 18) (by decide +kernel)) rfl, rfl, rfl⟩
theorem f_X12_101 : ab_F RX12 101 12 40 true := ⟨RX12, TX12, 79, rfl, by decide, rfl, by decide, inT12, tyX12_ok, nmX12, tb_7 (List.mem_of_getElem? (i := 19) (by decide +kernel)) rfl, rfl, rfl⟩
theorem f_X12_104 : ab_F RX12 104 12 44 true := ⟨RX12, TX12, 79, rfl, by decide, rfl, by decide, inT12, tyX12_ok, nmX12, tb_7 (List.mem_of_getElem? (i := 23) (by decide +kernel)) rfl, rfl, rfl⟩
theorem f_X12_107 : ab_F RX12 107 12 45 true := ⟨RX12, TX12, 79, rfl, by decide, rfl, by decide, inT12, tyX12_ok, nmX12, tb_7 (List.mem_of_getElem? (i := 24) (by decide +kernel)) rfl, rfl, rfl⟩
theorem f_X12_110 : ab_F RX12 110 12 46 true := ⟨RX12, TX12, 79, rfl, by decide, rfl, by decide, inT12, tyX12_ok, nmX12, tb_7 (List.mem_of_getElem? (i := 25) (by decide +kernel)) rfl, rfl, rfl⟩
theorem f_X12_113 : ab_F RX12 113 12 49 false := ⟨RX12, TX12, 79, rfl, by decide, rfl, by decide, inT12, tyX12_ok, nmX12, tb_7 (List.mem_of_getElem? (i := 28) (by decide +kernel)) rfl, rfl, rfl⟩
theorem f_X12_116 : ab_F RX12 116 12 50 true := ⟨RX12, TX12, 79, rfl, by decide, rfl, by decide, inT12, tyX12_ok, nmX12, tb_7 (List.mem_of_getElem? (i := 29) (by decide +kernel)) rfl, rfl, rfl⟩
theorem f_X12_119 : ab_F RX12 119 12 51 true := ⟨RX12, TX12, 79, rfl, by decide, rfl, by decide, inT12, tyX12_ok, nmX12, tb_7 (List.mem_of_getElem? (i := 30) (by decide +kernel)) rfl, rfl, rfl⟩
theorem f_X12_122 : ab_F RX12 122 12 52 true := ⟨RX12, TX12, 79, rfl, by decide, rfl, by decide, inT12, tyX12_ok, nmX12, tb_7 (List.mem_of_getElem? (i := 31) (by decide +kernel)) rfl, rfl, rfl⟩
theorem f_X12_125 : ab_F RX12 125 12 53 true := ⟨RX12, TX12, 79, rfl, by decide, rfl, by decide, inT12, tyX12_ok, nmX12, tb_7 (List.mem_of_getElem? (i := 32) (by decide +kernel)) rfl, rfl, rfl⟩
theorem f_X12_128 : ab_F RX12 128 12 54 true := ⟨RX12, TX12, 79, rfl, by decide, rfl, by decide, inT12, tyX12_ok, nmX12, tb_7 (List.mem_of_getElem? (i := 33) (by decide +kernel)) rfl, rfl, rfl⟩
theorem f_X12_131 : ab_F RX12 131 12 56 true := ⟨RX12, TX12, 79, rfl, by decide, rfl, by decide, inT12, tyX12_ok, nmX12, tb_7 (List.mem_of_getElem? (i := 35) (by decide +kernel)) rfl, rfl, rfl⟩
theorem f_X12_134 : ab_F RX12 134 12 57 true := ⟨RX12, TX12, 79, rfl, by decide, rfl, by decide, inT12, tyX12_ok, nmX12, tb_7 (List.mem_of_getElem? (i := 36) (by decide +kernel)) rfl, rfl, rfl⟩
theorem f_X12_137 : ab_F RX12 137 12 58 true := ⟨RX12, TX12, 79, rfl, by decide, rfl, by decide, inT12, tyX12_ok, nmX12, tb_7 (List.mem_of_getElem? (i := 37) (by decide +kernel)) rfl, rfl, rfl⟩
theorem f_X12_140 : ab_F RX12 140 12 59 true := ⟨RX12, TX12, 79, rfl, by decide, rfl, by decide, inT12, tyX12_ok, nmX12, tb_7 (List.mem_of_getElem? (i := 38) (by decide +kernel)) rfl, rfl, rfl⟩
theorem f_X12_143 : ab_F RX12 143 12 62 false := ⟨RX12, TX12, 79, rfl, by decide, rfl, by decide, inT12, tyX12_ok, nmX12, tb_7 (List.mem_of_getElem? (i := 41) (by decide +kernel)) rfl, rfl, rfl⟩
theorem f_X12_146 : ab_F RX12 146 12 66 false := ⟨RX12, TX12, 79, rfl, by decide, rfl, by decide, inT12, tyX12_ok, nmX12, tb_7 (List.mem_of_getElem? (i := 45) (by decide +kernel)) rfl, rfl, rfl⟩
theorem f_X12_149 : ab_F RX12 149 12 75 true := ⟨RX12, TX12, 79, rfl, by decide, rfl, by decide, inT12, tyX12_ok, nmX12, tb_7 (List.mem_of_getElem? (i := 54) (by decide +kernel)) rfl, rfl, rfl⟩
theorem f_X12_153 : ab_F RX12 153 12 76 true := ⟨RX12, TX12, 79, rfl, by decide, rfl, by decide, inT12, tyX12_ok, nmX12, tb_7 (List.mem_of_getElem? (i := 55) (by decide +kernel)) rfl, rfl, rfl⟩
theorem f_X12_214 : ab_F RX12 214 12 11 false := ⟨RX12, TX12, 79, rfl, by decide, rfl, by decide, inT12, tyX12_ok, nmX12, tb_6 (List.mem_of_getElem? (i := 230) (by decide +kernel)) rfl, rfl, rfl⟩
theorem f_X12_217 : ab_F RX12 217 12 6 false := ⟨RX12, TX12, 79, rfl, by decide, rfl, by decide, inT12, tyX12_ok, nmX12, tb_6 (List.mem_of_getElem? (i := 225) (by decide +kernel)) rfl, rfl, rfl⟩
theorem f_X12_220 : ab_F RX12 220 12 16 false := ⟨RX12, TX12, 79, rfl, by decide, rfl, by decide, inT12, tyX12_ok, nmX12, tb_6 (List.mem_of_getElem? (i := 235) (by decide +kernel)) rfl, rfl, rfl⟩
theorem f_X12_233 : ab_F RX12 233 12 19 false := ⟨RX12, TX12, 79, rfl, by decide, rfl, by decide, inT12, tyX12_ok, nmX12, tb_6 (List.mem_of_getElem? (i := 238) (by decide +kernel)) rfl, rfl, rfl⟩
theorem f_X12_240 : ab_F RX12 240 12 17 false := ⟨RX12, TX12, 79, rfl, by decide, rfl, by decide, inT12, tyX12_ok, nmX12, tb_6 (List.mem_of_getElem? (i := 236) (by decide +kernel)) rfl, rfl, rfl⟩
theorem f_X12_249 : ab_F RX12 249 12 18 false := ⟨RX12, TX12, 79, rfl, by decide, rfl, by decide, inT12, tyX12_ok, nmX12, tb_6 (List.mem_of_getElem? (i := 237) (by decide +kernel)) rfl, rfl, rfl⟩
theorem f_X12_252 : ab_F RX12 252 12 8 false := ⟨RX12, TX12, 79, rfl, by decide, rfl, by decide, inT12, tyX12_ok, nmX12, tb_6 (List.mem_of_getElem? (i := 227) (by decide +kernel)) rfl, rfl, rfl⟩
theorem f_X12_306 : ab_F RX12 306 12 21 false := ⟨RX12, TX12, 79, rfl, by decide, rfl, by decide, inT12, tyX12_ok, nmX12, tb_7 (List.mem_of_getElem? (i := 0) (by decide +kernel)) rfl, rfl, rfl⟩
theorem f_X12_309 : ab_F RX12 309 12 20 false := ⟨RX12, TX12, 79, rfl, by decide, rfl, by decide, inT12, tyX12_ok, nmX12, tb_6 (List.mem_of_getElem? (i := 239) (by decide +kernel)) rfl, rfl, rfl⟩
theorem f_X12_319 : ab_F RX12 319 12 22 false := ⟨RX12, TX12, 79, rfl, by decide, rfl, by decide, inT12, tyX12_ok, nmX12, tb_7 (List.mem_of_getElem? (i := 1) (by decide +kernel)) rfl, rfl, rfl⟩
theorem f_X12_339 : ab_F RX12 339 12 23 false := ⟨RX12, TX12, 79, rfl, by decide, rfl, by decide, inT12, tyX12_ok, nmX12, tb_7 (List.mem_of_getElem? (i := 2) (by decide +kernel)) rfl, rfl, rfl⟩
theorem f_X12_378 : ab_F RX12 378 12 41 false := ⟨RX12, TX12, 79, rfl, by decide, rfl, by decide, inT12, tyX12_ok, nmX12, tb_7 (List.mem_of_getElem? (i := 20) (by decide +kernel)) rfl, rfl, rfl⟩
theorem f_X12_381 : ab_F RX12 381 12 42 false := ⟨RX12, TX12, 79, rfl, by decide, rfl, by decide, inT12, tyX12_ok, nmX12, tb_7 (List.mem_of_getElem? (i := 21) (by decide +kernel)) rfl, rfl, rfl⟩
theorem f_X12_384 : ab_F RX12 384 12 43 false := ⟨RX12, TX12, 79, rfl, by decide, rfl, by decide, inT12, tyX12_ok, nmX12, tb_7 (List.mem_of_getElem? (i := 22) (by decide +kernel)) rfl, rfl, rfl⟩
theorem f_X12_387 : ab_F RX12 387 12 47 false := ⟨RX12, TX12, 79, rfl, by decide, rfl, by decide, inT12, tyX12_ok, nmX12, tb_7 (List.mem_of_getElem? (i := 26) (by decide +kernel)) rfl, rfl, rfl⟩
theorem f_X12_390 : ab_F RX12 390 12 48 false := ⟨RX12, TX12, 79, rfl, by decide, rfl, by decide, inT12, tyX12_ok, nmX12, tb_7 (List.mem_of_getElem? (i := 27) (by decide +kernel)) rfl, rfl, rfl⟩
theorem f_X12_458 : ab_F RX12 458 12 55 false := ⟨RX12, TX12, 79, rfl, by decide, rfl, by decide, inT12, tyX12_ok, nmX12, tb_7 (List.mem_of_getElem? (i := 34) (by decide +kernel)) rfl, rfl, rfl⟩
theorem f_X12_471 : ab_F RX12 471 12 60 false := ⟨RX12, TX12, 79, rfl, by decide, rfl, by decide, inT12, tyX12_ok, nmX12, tb_7 (List.mem_of_getElem? (i := 39) (by decide +kernel)) rfl, rfl, rfl⟩
theorem f_X12_474 : ab_F RX12 474 12 61 false := ⟨RX12, TX12, 79, rfl, by decide, rfl, by decide, inT12, tyX12_ok, nmX12, tb_7 (List.mem_of_getElem? (i := 40) (by decide +kernel)) rfl, rfl, rfl⟩
theorem f_X12_483 : ab_F RX12 483 12 64 false := ⟨RX12, TX12, 79, rfl, by decide, rfl, by decide, inT12, tyX12_ok, nmX12, tb_7 (List.mem_of_getElem? (i := 43) (by decide +kernel)) rfl, rfl, rfl⟩
theorem f_X12_489 : ab_F RX12 489 12 65 false := ⟨RX12, TX12, 79, rfl, by decide, rfl, by decide, inT12, tyX12_ok, nmX12, tb_7 (List.mem_of_getElem? (i := 44) (by decide +kernel)) rfl, rfl, rfl⟩
theorem f_X12_492 : ab_F RX12 492 12 63 false := ⟨RX12, TX12, 79, rfl, by decide, rfl, by decide, inT12, tyX12_ok, nmX12, tb_7 (List.mem_of_getElem? (i := 42) (by decide +kernel)) rfl, rfl, rfl⟩
theorem f_X12_501 : ab_F RX12 501 12 70 false := ⟨RX12, TX12, 79, rfl, by decide, rfl, by decide, inT12, tyX12_ok, nmX12, tb_7 (List.mem_of_getElem? (i := 49) (by decide +kernel)) rfl, rfl, rfl⟩
theorem f_X12_504 : ab_F RX12 504 12 71 false := ⟨RX12, TX12, 79, rfl, by decide, rfl, by decide, inT12, tyX12_ok, nmX12, tb_7 (List.mem_of_getElem? (i := 50) (by decide +kernel)) rfl, rfl, rfl⟩
theorem f_X12_507 : ab_F RX12 507 12 67 false := ⟨RX12, TX12, 79, rfl, by decide, rfl, by decide, inT12, tyX12_ok, nmX12, tb_7 (List.mem_of_getElem? (i := 46) (by decide +kernel)) rfl, rfl, rfl⟩
theorem f_X12_513 : ab_F RX12 513 12 69 false := ⟨RX12, TX12, 79, rfl, by decide, rfl, by decide, inT12, tyX12_ok, nmX12, tb_7 (List.mem_of_getElem? (i := 48) (by decide +kernel)) rfl, rfl, rfl⟩
theorem f_X12_516 : ab_F RX12 516 12 72 false := ⟨RX12, TX12, 79, rfl, by decide, rfl, by decide, inT12, tyX12_ok, nmX12, tb_7 (List.mem_of_getElem? (i := 51) (by decide +kernel)) rfl, rfl, rfl⟩
theorem f_X12_523 : ab_F RX12 523 12 74 false := ⟨RX12, TX12, 79, rfl, by decide, rfl, by decide, inT12, tyX12_ok, nmX12, tb_7 (List.mem_of_getElem? (i := 53) (by decide +kernel)) rfl, rfl, rfl⟩
theorem f_X12_526 : ab_F RX12 526 12 68 false := ⟨RX12, TX12, 79, rfl, by decide, rfl, by decide, inT12, tyX12_ok, nmX12, tb_7 (List.mem_of_getElem? (i := 47) (by decide +kernel)) rfl, rfl, rfl⟩
theorem f_X12_529 : ab_F RX12 529 12 73 false := ⟨RX12, TX12, 79, rfl, by decide, rfl, by decide, inT12, tyX12_ok, nmX12, tb_7 (List.mem_of_getElem? (i := 52) (by decide +kernel)) rfl, rfl, rfl⟩
theorem f_X12_544 : ab_F RX12 544 12 78 false := ⟨RX12, TX12, 79, rfl, by decide, rfl, by decide, inT12, tyX12_ok, nmX12, tb_7 (List.mem_of_getElem? (i := 57) (by decide +kernel)) rfl, rfl, rfl⟩
theorem f_X12_554 : ab_F RX12 554 12 77 false := ⟨RX12, TX12, 79, rfl, by decide, rfl, by decide, inT12, tyX12_ok, nmX12, tb_7 (List.mem_of_getElem? (i := 56) (by decide +kernel)) rfl, rfl, rfl⟩
/-! classes of which objects are made -/
theorem k_X11_7 : ab_CL RX11 7 10 := ⟨RX10, TX10, 10, rfl, by decide, rfl, inT10, tyX10_ok, tb_1 (List.mem_of_getElem? (i := 30) (by decide +kernel)) rfl, tb_1 (List.mem_of_getElem? (i := 31) (by decide +kernel)) rfl, tb_1 (List.mem_of_getElem? (i := 2) (by decide +kernel)) rfl, by decide +kernel⟩
theorem k_X11_30 : ab_CL RX11 30 5 := ⟨RX5, TX5, 11, rfl, by decide, rfl, inT5, tyX5_ok, tb_1 (List.mem_of_getElem? (i := 120) (by decide +kernel)) rfl, tb_1 (List.mem_of_getElem? (i := 121) (by decide +kernel)) rfl, tb_1 (List.mem_of_getElem? (i := 4) (by decide +kernel)) rfl, by decide +kernel⟩
theorem k_X11_37 : ab_CL RX11 37 2 := ⟨RX2, TX2, 3, rfl, by decide, rfl, inT2, tyX2_ok, tb_1 (List.mem_of_getElem? (i := 161) (by decide +kernel)) rfl, tb_1 (List.mem_of_getElem? (i := 162) (by decide +kernel)) rfl, tb_1 (List.mem_of_getElem? (i := 5) (by decide +kernel)) rfl, by decide +kernel⟩
theorem k_X11_44 : ab_CL RX11 44 6 := ⟨RX6, TX6, 14, rfl, by decide, rfl, inT6, tyX6_ok, tb_1 (List.mem_of_getElem? (i := 181) (by decide +kernel)) rfl, tb_1 (List.mem_of_getElem? (i := 182) (by decide +kernel)) rfl, tb_1 (List.mem_of_getElem? (i := 6) (by decide +kernel)) rfl, by decide +kernel⟩
theorem k_X11_53 : ab_CL RX11 53 8 := ⟨RX8, TX8, 11, rfl, by decide, rfl, inT8, tyX8_ok, tb_1 (List.mem_of_getElem? (i := 234) (by decide +kernel)) rfl, tb_1 (List.mem_of_getElem? (i := 235) (by decide +kernel)) rfl, tb_1 (List.mem_of_getElem? (i := 7) (by decide +kernel)) rfl, by decide +kernel⟩
theorem k_X11_62 : ab_CL RX11 62 3 := ⟨RX3, TX3, 20, rfl, by decide, rfl, inT3, tyX3_ok, tb_2 (List.mem_of_getElem? (i := 35) (by decide +kernel)) rfl, tb_2 (List.mem_of_getElem? (i := 36) (by decide +kernel)) rfl, tb_1 (List.mem_of_getElem? (i := 8) (by decide +kernel)) rfl, by decide +kernel⟩
theorem k_X11_71 : ab_CL RX11 71 0 := ⟨RX0, TX0, 13, rfl, by decide, rfl, inT0, tyX0_ok, tb_2 (List.mem_of_getElem? (i := 117) (by decide +kernel)) rfl, tb_2 (List.mem_of_getElem? (i := 118) (by decide +kernel)) rfl, tb_1 (List.mem_of_getElem? (i := 9) (by decide +kernel)) rfl, by decide +kernel⟩
theorem k_X11_80 : ab_CL RX11 80 1 := ⟨RX1, TX1, 18, rfl, by decide, rfl, inT1, tyX1_ok, tb_2 (List.mem_of_getElem? (i := 168) (by decide +kernel)) rfl, tb_2 (List.mem_of_getElem? (i := 169) (by decide +kernel)) rfl, tb_1 (List.mem_of_getElem? (i := 10) (by decide +kernel)) rfl, by decide +kernel⟩
theorem k_X11_89 : ab_CL RX11 89 4 := ⟨RX4, TX4, 16, rfl, by decide, rfl, inT4, tyX4_ok, tb_2 (List.mem_of_getElem? (i := 237) (by decide +kernel)) rfl, tb_2 (List.mem_of_getElem? (i := 238) (by decide +kernel)) rfl, tb_1 (List.mem_of_getElem? (i := 11) (by decide +kernel)) rfl, by decide +kernel⟩
theorem k_X1_9 : ab_CL RX1 9 7 := ⟨RX7, TX7, 4, rfl, by decide, rfl, inT7, tyX7_ok, tb_2 (List.mem_of_getElem? (i := 174) (by decide +kernel)) rfl, tb_1 (List.mem_of_getElem? (i := 37) (by decide +kernel)) rfl, tb_1 (List.mem_of_getElem? (i := 3) (by decide +kernel)) rfl, by decide +kernel⟩
theorem k_X5_65 : ab_CL RX5 65 9 := ⟨RX9, TX9, 4, rfl, by decide, rfl, inT9, tyX9_ok, tb_4 (List.mem_of_getElem? (i := 195) (by decide +kernel)) rfl, tb_4 (List.mem_of_getElem? (i := 196) (by decide +kernel)) rfl, tb_1 (List.mem_of_getElem? (i := 19) (by decide +kernel)) rfl, by decide +kernel⟩
theorem k_X10_9 : ab_CL RX10 9 7 := ⟨RX7, TX7, 4, rfl, by decide, rfl, inT7, tyX7_ok, tb_1 (List.mem_of_getElem? (i := 36) (by decide +kernel)) rfl, tb_1 (List.mem_of_getElem? (i := 37) (by decide +kernel)) rfl, tb_1 (List.mem_of_getElem? (i := 3) (by decide +kernel)) rfl, by decide +kernel⟩
theorem k_L_7 : ab_CL RL 7 11 := ⟨RX11, TX11, 20, rfl, by decide, rfl, inT11, tyX11_ok, tb_1 (List.mem_of_getElem? (i := 22) (by decide +kernel)) rfl, tb_1 (List.mem_of_getElem? (i := 23) (by decide +kernel)) rfl, tb_1 (List.mem_of_getElem? (i := 1) (by decide +kernel)) rfl, by decide +kernel⟩
theorem k_L_10 : ab_CL RL 10 12 := ⟨RX12, TX12, 79, rfl, by decide, rfl, inT12, tyX12_ok, tb_6 (List.mem_of_getElem? (i := 212) (by decide +kernel)) rfl, tb_6 (List.mem_of_getElem? (i := 213) (by decide +kernel)) rfl, tb_1 (List.mem_of_getElem? (i := 12) (by decide +kernel)) rfl, by decide +kernel⟩
