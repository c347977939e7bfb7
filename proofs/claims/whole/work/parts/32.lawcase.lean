/-! ===== the cases of the law ===== -/
theorem lw_ix {j L k : Nat} (h : j + k < L) (hL : L ≤ 3072) : vp_in (nI j + nI k) L := by rw [nI_add]; exact vp_in_nI h (by omega)
section LAWC
variable {p : Program} {l : Launch} {e : Env} {s : State} {m : MethodId} {below : List Frame} {meth : Method} {c : Code} {g : ab_G} {b L : Nat} {xs : Nat → Int32} {σ : Nat → Nat} {H : Heap} {locs : List Loc} {h : ah_T} {cells slots j : Nat} {ls : Array Slot} {Qz : State → Prop} {Inv J : ah_T → Prop}
set_option maxRecDepth 20000 in
theorem lw_case_0 (C : lw_C p s m meth c g b L xs) (hSh : ∀ h, Inv h → Sh h) (rc : ∀ a0 a1 : Int32, lw_RC Inv J mX11_way mX12_way [.int a0, .int a1]) (S : lw_S g s σ H locs h) (hI : Inv h) (hl : lv_has ls 4 [(0, .ref b), (1, .ref (σ 0)), (2, .ref (σ 82)), (3, .int (nI j))]) (hj : j + 6 ≤ L) (hL : L ≤ 3072) (hc : cells + 40 ≤ 600000) (hs : slots + 11900 ≤ 7302250)
    (kk : ∀ (h' : ah_T) (σ' : Nat → Nat) (H' : Heap) (locs' : List Loc), J h' → lw_S g s σ' H' locs' h' → σ' 0 = σ 0 → σ' 82 = σ 82 → W p l e room_1 s m #[Value.ref b] below meth c H' locs' (cells + 40) (slots + 11900) Qz (F0 m 1606 ls [])) : W p l e room_1 s m #[Value.ref b] below meth c H locs cells slots Qz (F0 m 224 ls []) := by
  refine lv_aload_n C.1 C.2.1 dL_law_224 rfl (lv_at hl 1 rfl) ?_
  refine lv_aload_n C.1 C.2.1 dL_law_225 rfl (lv_at hl 0 rfl) ?_
  refine lv_iload_n C.1 C.2.1 dL_law_226 rfl (lv_at hl 3 rfl) ?_
  refine lv_iconst (v := 1) C.1 C.2.1 dL_law_227 (by decide) ?_
  refine lv_iadd C.1 C.2.1 dL_law_228 ?_
  refine lw_sld C S (show vp_in (nI j + 1) L from lw_ix (k := 1) (by omega) hL) dL_law_229 ?_
  refine lv_aload_n C.1 C.2.1 dL_law_230 rfl (lv_at hl 0 rfl) ?_
  refine lv_iload_n C.1 C.2.1 dL_law_231 rfl (lv_at hl 3 rfl) ?_
  refine lv_iconst (v := 2) C.1 C.2.1 dL_law_232 (by decide) ?_
  refine lv_iadd C.1 C.2.1 dL_law_233 ?_
  refine lw_sld C S (show vp_in (nI j + 2) L from lw_ix (k := 2) (by omega) hL) dL_law_234 ?_
  refine lw_callV C S (As := [.int (xs (nI j + 1).toNatClampNeg), .int (xs (nI j + 2).toNatClampNeg)]) (b0 := 0) (rest := []) (rc (xs (nI j + 1).toNatClampNeg) (xs (nI j + 2).toNatClampNeg) h hI) ⟨trivial, ⟨trivial, trivial⟩⟩ rfl Y_X11_way (lw_inT l_L_13) in_X11_way se_X11_way (sh_k (hSh h hI) 0 11 (by decide) rfl) (by decide) rfl rfl (by decide) hl.1 (show cells + 0 ≤ 600000 by omega) (show slots + 0 ≤ 7302250 by omega) (by decide) dL_law_235 ?_
  rintro _ h1 σ1 H1 locs1 ⟨v, rfl, hs1, hM⟩ S1 e1 x1
  have hx0 := (hSh h hI).2.2
  have hl1 : lv_has ls 4 [(0, .ref b), (1, .ref (σ1 0)), (2, .ref (σ1 82)), (3, .int (nI j))] := by rw [e1 0 (by omega), e1 82 (by omega)]; exact hl
  refine lv_aload_n C.1 C.2.1 dL_law_238 rfl (lv_at hl1 2 rfl) ?_
  refine lv_aload_n C.1 C.2.1 dL_law_239 rfl (lv_at hl1 0 rfl) ?_
  refine lv_iload_n C.1 C.2.1 dL_law_240 rfl (lv_at hl1 3 rfl) ?_
  refine lv_iconst (v := 1) C.1 C.2.1 dL_law_241 (by decide) ?_
  refine lv_iadd C.1 C.2.1 dL_law_242 ?_
  refine lw_sld C S1 (show vp_in (nI j + 1) L from lw_ix (k := 1) (by omega) hL) dL_law_243 ?_
  refine lv_aload_n C.1 C.2.1 dL_law_244 rfl (lv_at hl1 0 rfl) ?_
  refine lv_iload_n C.1 C.2.1 dL_law_245 rfl (lv_at hl1 3 rfl) ?_
  refine lv_iconst (v := 2) C.1 C.2.1 dL_law_246 (by decide) ?_
  refine lv_iadd C.1 C.2.1 dL_law_247 ?_
  refine lw_sld C S1 (show vp_in (nI j + 2) L from lw_ix (k := 2) (by omega) hL) dL_law_248 ?_
  refine lw_callV C S1 (As := [.int (xs (nI j + 1).toNatClampNeg), .int (xs (nI j + 2).toNatClampNeg)]) (b0 := 82) (rest := [.int v]) hM ⟨trivial, ⟨trivial, trivial⟩⟩ rfl Y_X12_way (lw_inT l_L_17) in_X12_way se_X12_way (sh_k hs1 82 12 (by decide) rfl) (by decide) rfl rfl (by decide) hl.1 (show cells + 0 + 0 ≤ 600000 by omega) (show slots + 0 + 0 ≤ 7302250 by omega) (Nat.le_of_ble_eq_true rfl) dL_law_249 ?_
  rintro _ h2 σ2 H2 locs2 ⟨w, rfl, hvw, hI2⟩ S2 e2 x2
  refine lv_icmp_eq (x := v) (y := w) (tgt := 1606) C.1 C.2.1 dL_law_252 (by decide) (fun _ => ?_) (fun q => absurd hvw q)
  exact W.widen (k := cells + 40) (n := slots + 11900) (show cells + 0 + 0 ≤ cells + 40 by omega) (show slots + 0 + 0 ≤ slots + 11900 by omega) (kk h2 σ2 H2 locs2 hI2 S2 ((e2 0 (by omega)).trans (e1 0 (by omega))) ((e2 82 (by omega)).trans (e1 82 (by omega))))
set_option maxRecDepth 20000 in
theorem lw_case_1 (C : lw_C p s m meth c g b L xs) (hSh : ∀ h, Inv h → Sh h) (rc : ∀ a0 a1 : Int32, lw_RC Inv J mX11_shutter mX12_shutter [.int a0, .int a1]) (S : lw_S g s σ H locs h) (hI : Inv h) (hl : lv_has ls 4 [(0, .ref b), (1, .ref (σ 0)), (2, .ref (σ 82)), (3, .int (nI j))]) (hj : j + 6 ≤ L) (hL : L ≤ 3072) (hc : cells + 40 ≤ 600000) (hs : slots + 11900 ≤ 7302250)
    (kk : ∀ (h' : ah_T) (σ' : Nat → Nat) (H' : Heap) (locs' : List Loc), J h' → lw_S g s σ' H' locs' h' → σ' 0 = σ 0 → σ' 82 = σ 82 → W p l e room_1 s m #[Value.ref b] below meth c H' locs' (cells + 40) (slots + 11900) Qz (F0 m 1606 ls [])) : W p l e room_1 s m #[Value.ref b] below meth c H locs cells slots Qz (F0 m 257 ls []) := by
  refine lv_aload_n C.1 C.2.1 dL_law_257 rfl (lv_at hl 1 rfl) ?_
  refine lv_aload_n C.1 C.2.1 dL_law_258 rfl (lv_at hl 0 rfl) ?_
  refine lv_iload_n C.1 C.2.1 dL_law_259 rfl (lv_at hl 3 rfl) ?_
  refine lv_iconst (v := 1) C.1 C.2.1 dL_law_260 (by decide) ?_
  refine lv_iadd C.1 C.2.1 dL_law_261 ?_
  refine lw_sld C S (show vp_in (nI j + 1) L from lw_ix (k := 1) (by omega) hL) dL_law_262 ?_
  refine lv_aload_n C.1 C.2.1 dL_law_263 rfl (lv_at hl 0 rfl) ?_
  refine lv_iload_n C.1 C.2.1 dL_law_264 rfl (lv_at hl 3 rfl) ?_
  refine lv_iconst (v := 2) C.1 C.2.1 dL_law_265 (by decide) ?_
  refine lv_iadd C.1 C.2.1 dL_law_266 ?_
  refine lw_sld C S (show vp_in (nI j + 2) L from lw_ix (k := 2) (by omega) hL) dL_law_267 ?_
  refine lw_callV C S (As := [.int (xs (nI j + 1).toNatClampNeg), .int (xs (nI j + 2).toNatClampNeg)]) (b0 := 0) (rest := []) (rc (xs (nI j + 1).toNatClampNeg) (xs (nI j + 2).toNatClampNeg) h hI) ⟨trivial, ⟨trivial, trivial⟩⟩ rfl Y_X11_shutter (lw_inT l_L_18) in_X11_shutter se_X11_shutter (sh_k (hSh h hI) 0 11 (by decide) rfl) (by decide) rfl rfl (by decide) hl.1 (show cells + 0 ≤ 600000 by omega) (show slots + 0 ≤ 7302250 by omega) (by decide) dL_law_268 ?_
  rintro _ h1 σ1 H1 locs1 ⟨v, rfl, hs1, hM⟩ S1 e1 x1
  have hx0 := (hSh h hI).2.2
  have hl1 : lv_has ls 4 [(0, .ref b), (1, .ref (σ1 0)), (2, .ref (σ1 82)), (3, .int (nI j))] := by rw [e1 0 (by omega), e1 82 (by omega)]; exact hl
  refine lv_aload_n C.1 C.2.1 dL_law_271 rfl (lv_at hl1 2 rfl) ?_
  refine lv_aload_n C.1 C.2.1 dL_law_272 rfl (lv_at hl1 0 rfl) ?_
  refine lv_iload_n C.1 C.2.1 dL_law_273 rfl (lv_at hl1 3 rfl) ?_
  refine lv_iconst (v := 1) C.1 C.2.1 dL_law_274 (by decide) ?_
  refine lv_iadd C.1 C.2.1 dL_law_275 ?_
  refine lw_sld C S1 (show vp_in (nI j + 1) L from lw_ix (k := 1) (by omega) hL) dL_law_276 ?_
  refine lv_aload_n C.1 C.2.1 dL_law_277 rfl (lv_at hl1 0 rfl) ?_
  refine lv_iload_n C.1 C.2.1 dL_law_278 rfl (lv_at hl1 3 rfl) ?_
  refine lv_iconst (v := 2) C.1 C.2.1 dL_law_279 (by decide) ?_
  refine lv_iadd C.1 C.2.1 dL_law_280 ?_
  refine lw_sld C S1 (show vp_in (nI j + 2) L from lw_ix (k := 2) (by omega) hL) dL_law_281 ?_
  refine lw_callV C S1 (As := [.int (xs (nI j + 1).toNatClampNeg), .int (xs (nI j + 2).toNatClampNeg)]) (b0 := 82) (rest := [.int v]) hM ⟨trivial, ⟨trivial, trivial⟩⟩ rfl Y_X12_shutter (lw_inT l_L_21) in_X12_shutter se_X12_shutter (sh_k hs1 82 12 (by decide) rfl) (by decide) rfl rfl (by decide) hl.1 (show cells + 0 + 0 ≤ 600000 by omega) (show slots + 0 + 0 ≤ 7302250 by omega) (Nat.le_of_ble_eq_true rfl) dL_law_282 ?_
  rintro _ h2 σ2 H2 locs2 ⟨w, rfl, hvw, hI2⟩ S2 e2 x2
  refine lv_icmp_eq (x := v) (y := w) (tgt := 1606) C.1 C.2.1 dL_law_285 (by decide) (fun _ => ?_) (fun q => absurd hvw q)
  exact W.widen (k := cells + 40) (n := slots + 11900) (show cells + 0 + 0 ≤ cells + 40 by omega) (show slots + 0 + 0 ≤ slots + 11900 by omega) (kk h2 σ2 H2 locs2 hI2 S2 ((e2 0 (by omega)).trans (e1 0 (by omega))) ((e2 82 (by omega)).trans (e1 82 (by omega))))
set_option maxRecDepth 20000 in
theorem lw_case_2 (C : lw_C p s m meth c g b L xs) (hSh : ∀ h, Inv h → Sh h) (rc : ∀ a0 a1 : Int32, lw_RC Inv J mX11_of mX12_of [.int a0, .int a1]) (S : lw_S g s σ H locs h) (hI : Inv h) (hl : lv_has ls 4 [(0, .ref b), (1, .ref (σ 0)), (2, .ref (σ 82)), (3, .int (nI j))]) (hj : j + 6 ≤ L) (hL : L ≤ 3072) (hc : cells + 40 ≤ 600000) (hs : slots + 11900 ≤ 7302250)
    (kk : ∀ (h' : ah_T) (σ' : Nat → Nat) (H' : Heap) (locs' : List Loc), J h' → lw_S g s σ' H' locs' h' → σ' 0 = σ 0 → σ' 82 = σ 82 → W p l e room_1 s m #[Value.ref b] below meth c H' locs' (cells + 40) (slots + 11900) Qz (F0 m 1606 ls [])) : W p l e room_1 s m #[Value.ref b] below meth c H locs cells slots Qz (F0 m 290 ls []) := by
  refine lv_aload_n C.1 C.2.1 dL_law_290 rfl (lv_at hl 1 rfl) ?_
  refine lv_aload_n C.1 C.2.1 dL_law_291 rfl (lv_at hl 0 rfl) ?_
  refine lv_iload_n C.1 C.2.1 dL_law_292 rfl (lv_at hl 3 rfl) ?_
  refine lv_iconst (v := 1) C.1 C.2.1 dL_law_293 (by decide) ?_
  refine lv_iadd C.1 C.2.1 dL_law_294 ?_
  refine lw_sld C S (show vp_in (nI j + 1) L from lw_ix (k := 1) (by omega) hL) dL_law_295 ?_
  refine lv_aload_n C.1 C.2.1 dL_law_296 rfl (lv_at hl 0 rfl) ?_
  refine lv_iload_n C.1 C.2.1 dL_law_297 rfl (lv_at hl 3 rfl) ?_
  refine lv_iconst (v := 2) C.1 C.2.1 dL_law_298 (by decide) ?_
  refine lv_iadd C.1 C.2.1 dL_law_299 ?_
  refine lw_sld C S (show vp_in (nI j + 2) L from lw_ix (k := 2) (by omega) hL) dL_law_300 ?_
  refine lw_callV C S (As := [.int (xs (nI j + 1).toNatClampNeg), .int (xs (nI j + 2).toNatClampNeg)]) (b0 := 0) (rest := []) (rc (xs (nI j + 1).toNatClampNeg) (xs (nI j + 2).toNatClampNeg) h hI) ⟨trivial, ⟨trivial, trivial⟩⟩ rfl Y_X11_of (lw_inT l_L_22) in_X11_of se_X11_of (sh_k (hSh h hI) 0 11 (by decide) rfl) (by decide) rfl rfl (by decide) hl.1 (show cells + 0 ≤ 600000 by omega) (show slots + 0 ≤ 7302250 by omega) (by decide) dL_law_301 ?_
  rintro _ h1 σ1 H1 locs1 ⟨v, rfl, hs1, hM⟩ S1 e1 x1
  have hx0 := (hSh h hI).2.2
  have hl1 : lv_has ls 4 [(0, .ref b), (1, .ref (σ1 0)), (2, .ref (σ1 82)), (3, .int (nI j))] := by rw [e1 0 (by omega), e1 82 (by omega)]; exact hl
  refine lv_aload_n C.1 C.2.1 dL_law_304 rfl (lv_at hl1 2 rfl) ?_
  refine lv_aload_n C.1 C.2.1 dL_law_305 rfl (lv_at hl1 0 rfl) ?_
  refine lv_iload_n C.1 C.2.1 dL_law_306 rfl (lv_at hl1 3 rfl) ?_
  refine lv_iconst (v := 1) C.1 C.2.1 dL_law_307 (by decide) ?_
  refine lv_iadd C.1 C.2.1 dL_law_308 ?_
  refine lw_sld C S1 (show vp_in (nI j + 1) L from lw_ix (k := 1) (by omega) hL) dL_law_309 ?_
  refine lv_aload_n C.1 C.2.1 dL_law_310 rfl (lv_at hl1 0 rfl) ?_
  refine lv_iload_n C.1 C.2.1 dL_law_311 rfl (lv_at hl1 3 rfl) ?_
  refine lv_iconst (v := 2) C.1 C.2.1 dL_law_312 (by decide) ?_
  refine lv_iadd C.1 C.2.1 dL_law_313 ?_
  refine lw_sld C S1 (show vp_in (nI j + 2) L from lw_ix (k := 2) (by omega) hL) dL_law_314 ?_
  refine lw_callV C S1 (As := [.int (xs (nI j + 1).toNatClampNeg), .int (xs (nI j + 2).toNatClampNeg)]) (b0 := 82) (rest := [.int v]) hM ⟨trivial, ⟨trivial, trivial⟩⟩ rfl Y_X12_of (lw_inT l_L_25) in_X12_of se_X12_of (sh_k hs1 82 12 (by decide) rfl) (by decide) rfl rfl (by decide) hl.1 (show cells + 0 + 0 ≤ 600000 by omega) (show slots + 0 + 0 ≤ 7302250 by omega) (Nat.le_of_ble_eq_true rfl) dL_law_315 ?_
  rintro _ h2 σ2 H2 locs2 ⟨w, rfl, hvw, hI2⟩ S2 e2 x2
  refine lv_icmp_eq (x := v) (y := w) (tgt := 1606) C.1 C.2.1 dL_law_318 (by decide) (fun _ => ?_) (fun q => absurd hvw q)
  exact W.widen (k := cells + 40) (n := slots + 11900) (show cells + 0 + 0 ≤ cells + 40 by omega) (show slots + 0 + 0 ≤ slots + 11900 by omega) (kk h2 σ2 H2 locs2 hI2 S2 ((e2 0 (by omega)).trans (e1 0 (by omega))) ((e2 82 (by omega)).trans (e1 82 (by omega))))
set_option maxRecDepth 20000 in
theorem lw_case_3 (C : lw_C p s m meth c g b L xs) (hSh : ∀ h, Inv h → Sh h) (rc : ∀ a0 a1 a2 : Int32, lw_RC Inv J mX11_far mX12_far [.int a0, .int a1, .int a2]) (S : lw_S g s σ H locs h) (hI : Inv h) (hl : lv_has ls 4 [(0, .ref b), (1, .ref (σ 0)), (2, .ref (σ 82)), (3, .int (nI j))]) (hj : j + 6 ≤ L) (hL : L ≤ 3072) (hc : cells + 40 ≤ 600000) (hs : slots + 11900 ≤ 7302250)
    (kk : ∀ (h' : ah_T) (σ' : Nat → Nat) (H' : Heap) (locs' : List Loc), J h' → lw_S g s σ' H' locs' h' → σ' 0 = σ 0 → σ' 82 = σ 82 → W p l e room_1 s m #[Value.ref b] below meth c H' locs' (cells + 40) (slots + 11900) Qz (F0 m 1606 ls [])) : W p l e room_1 s m #[Value.ref b] below meth c H locs cells slots Qz (F0 m 323 ls []) := by
  refine lv_aload_n C.1 C.2.1 dL_law_323 rfl (lv_at hl 1 rfl) ?_
  refine lv_aload_n C.1 C.2.1 dL_law_324 rfl (lv_at hl 0 rfl) ?_
  refine lv_iload_n C.1 C.2.1 dL_law_325 rfl (lv_at hl 3 rfl) ?_
  refine lv_iconst (v := 1) C.1 C.2.1 dL_law_326 (by decide) ?_
  refine lv_iadd C.1 C.2.1 dL_law_327 ?_
  refine lw_sld C S (show vp_in (nI j + 1) L from lw_ix (k := 1) (by omega) hL) dL_law_328 ?_
  refine lv_aload_n C.1 C.2.1 dL_law_329 rfl (lv_at hl 0 rfl) ?_
  refine lv_iload_n C.1 C.2.1 dL_law_330 rfl (lv_at hl 3 rfl) ?_
  refine lv_iconst (v := 2) C.1 C.2.1 dL_law_331 (by decide) ?_
  refine lv_iadd C.1 C.2.1 dL_law_332 ?_
  refine lw_sld C S (show vp_in (nI j + 2) L from lw_ix (k := 2) (by omega) hL) dL_law_333 ?_
  refine lv_aload_n C.1 C.2.1 dL_law_334 rfl (lv_at hl 0 rfl) ?_
  refine lv_iload_n C.1 C.2.1 dL_law_335 rfl (lv_at hl 3 rfl) ?_
  refine lv_iconst (v := 3) C.1 C.2.1 dL_law_336 (by decide) ?_
  refine lv_iadd C.1 C.2.1 dL_law_337 ?_
  refine lw_sld C S (show vp_in (nI j + 3) L from lw_ix (k := 3) (by omega) hL) dL_law_338 ?_
  refine lw_callV C S (As := [.int (xs (nI j + 1).toNatClampNeg), .int (xs (nI j + 2).toNatClampNeg), .int (xs (nI j + 3).toNatClampNeg)]) (b0 := 0) (rest := []) (rc (xs (nI j + 1).toNatClampNeg) (xs (nI j + 2).toNatClampNeg) (xs (nI j + 3).toNatClampNeg) h hI) ⟨trivial, ⟨trivial, ⟨trivial, trivial⟩⟩⟩ rfl Y_X11_far (lw_inT l_L_26) in_X11_far se_X11_far (sh_k (hSh h hI) 0 11 (by decide) rfl) (by decide) rfl rfl (by decide) hl.1 (show cells + 0 ≤ 600000 by omega) (show slots + 0 ≤ 7302250 by omega) (by decide) dL_law_339 ?_
  rintro _ h1 σ1 H1 locs1 ⟨v, rfl, hs1, hM⟩ S1 e1 x1
  have hx0 := (hSh h hI).2.2
  have hl1 : lv_has ls 4 [(0, .ref b), (1, .ref (σ1 0)), (2, .ref (σ1 82)), (3, .int (nI j))] := by rw [e1 0 (by omega), e1 82 (by omega)]; exact hl
  refine lv_aload_n C.1 C.2.1 dL_law_342 rfl (lv_at hl1 2 rfl) ?_
  refine lv_aload_n C.1 C.2.1 dL_law_343 rfl (lv_at hl1 0 rfl) ?_
  refine lv_iload_n C.1 C.2.1 dL_law_344 rfl (lv_at hl1 3 rfl) ?_
  refine lv_iconst (v := 1) C.1 C.2.1 dL_law_345 (by decide) ?_
  refine lv_iadd C.1 C.2.1 dL_law_346 ?_
  refine lw_sld C S1 (show vp_in (nI j + 1) L from lw_ix (k := 1) (by omega) hL) dL_law_347 ?_
  refine lv_aload_n C.1 C.2.1 dL_law_348 rfl (lv_at hl1 0 rfl) ?_
  refine lv_iload_n C.1 C.2.1 dL_law_349 rfl (lv_at hl1 3 rfl) ?_
  refine lv_iconst (v := 2) C.1 C.2.1 dL_law_350 (by decide) ?_
  refine lv_iadd C.1 C.2.1 dL_law_351 ?_
  refine lw_sld C S1 (show vp_in (nI j + 2) L from lw_ix (k := 2) (by omega) hL) dL_law_352 ?_
  refine lv_aload_n C.1 C.2.1 dL_law_353 rfl (lv_at hl1 0 rfl) ?_
  refine lv_iload_n C.1 C.2.1 dL_law_354 rfl (lv_at hl1 3 rfl) ?_
  refine lv_iconst (v := 3) C.1 C.2.1 dL_law_355 (by decide) ?_
  refine lv_iadd C.1 C.2.1 dL_law_356 ?_
  refine lw_sld C S1 (show vp_in (nI j + 3) L from lw_ix (k := 3) (by omega) hL) dL_law_357 ?_
  refine lw_callV C S1 (As := [.int (xs (nI j + 1).toNatClampNeg), .int (xs (nI j + 2).toNatClampNeg), .int (xs (nI j + 3).toNatClampNeg)]) (b0 := 82) (rest := [.int v]) hM ⟨trivial, ⟨trivial, ⟨trivial, trivial⟩⟩⟩ rfl Y_X12_far (lw_inT l_L_30) in_X12_far se_X12_far (sh_k hs1 82 12 (by decide) rfl) (by decide) rfl rfl (by decide) hl.1 (show cells + 0 + 0 ≤ 600000 by omega) (show slots + 0 + 0 ≤ 7302250 by omega) (Nat.le_of_ble_eq_true rfl) dL_law_358 ?_
  rintro _ h2 σ2 H2 locs2 ⟨w, rfl, hvw, hI2⟩ S2 e2 x2
  refine lv_icmp_eq (x := v) (y := w) (tgt := 1606) C.1 C.2.1 dL_law_361 (by decide) (fun _ => ?_) (fun q => absurd hvw q)
  exact W.widen (k := cells + 40) (n := slots + 11900) (show cells + 0 + 0 ≤ cells + 40 by omega) (show slots + 0 + 0 ≤ slots + 11900 by omega) (kk h2 σ2 H2 locs2 hI2 S2 ((e2 0 (by omega)).trans (e1 0 (by omega))) ((e2 82 (by omega)).trans (e1 82 (by omega))))
set_option maxRecDepth 20000 in
theorem lw_case_4 (C : lw_C p s m meth c g b L xs) (hSh : ∀ h, Inv h → Sh h) (rc : ∀ a0 a1 a2 : Int32, lw_RC Inv J mX11_lamp mX12_lamp [.int a0, .int a1, .int a2]) (S : lw_S g s σ H locs h) (hI : Inv h) (hl : lv_has ls 4 [(0, .ref b), (1, .ref (σ 0)), (2, .ref (σ 82)), (3, .int (nI j))]) (hj : j + 6 ≤ L) (hL : L ≤ 3072) (hc : cells + 40 ≤ 600000) (hs : slots + 11900 ≤ 7302250)
    (kk : ∀ (h' : ah_T) (σ' : Nat → Nat) (H' : Heap) (locs' : List Loc), J h' → lw_S g s σ' H' locs' h' → σ' 0 = σ 0 → σ' 82 = σ 82 → W p l e room_1 s m #[Value.ref b] below meth c H' locs' (cells + 40) (slots + 11900) Qz (F0 m 1606 ls [])) : W p l e room_1 s m #[Value.ref b] below meth c H locs cells slots Qz (F0 m 366 ls []) := by
  refine lv_aload_n C.1 C.2.1 dL_law_366 rfl (lv_at hl 1 rfl) ?_
  refine lv_aload_n C.1 C.2.1 dL_law_367 rfl (lv_at hl 0 rfl) ?_
  refine lv_iload_n C.1 C.2.1 dL_law_368 rfl (lv_at hl 3 rfl) ?_
  refine lv_iconst (v := 1) C.1 C.2.1 dL_law_369 (by decide) ?_
  refine lv_iadd C.1 C.2.1 dL_law_370 ?_
  refine lw_sld C S (show vp_in (nI j + 1) L from lw_ix (k := 1) (by omega) hL) dL_law_371 ?_
  refine lv_aload_n C.1 C.2.1 dL_law_372 rfl (lv_at hl 0 rfl) ?_
  refine lv_iload_n C.1 C.2.1 dL_law_373 rfl (lv_at hl 3 rfl) ?_
  refine lv_iconst (v := 2) C.1 C.2.1 dL_law_374 (by decide) ?_
  refine lv_iadd C.1 C.2.1 dL_law_375 ?_
  refine lw_sld C S (show vp_in (nI j + 2) L from lw_ix (k := 2) (by omega) hL) dL_law_376 ?_
  refine lv_aload_n C.1 C.2.1 dL_law_377 rfl (lv_at hl 0 rfl) ?_
  refine lv_iload_n C.1 C.2.1 dL_law_378 rfl (lv_at hl 3 rfl) ?_
  refine lv_iconst (v := 3) C.1 C.2.1 dL_law_379 (by decide) ?_
  refine lv_iadd C.1 C.2.1 dL_law_380 ?_
  refine lw_sld C S (show vp_in (nI j + 3) L from lw_ix (k := 3) (by omega) hL) dL_law_381 ?_
  refine lw_callV C S (As := [.int (xs (nI j + 1).toNatClampNeg), .int (xs (nI j + 2).toNatClampNeg), .int (xs (nI j + 3).toNatClampNeg)]) (b0 := 0) (rest := []) (rc (xs (nI j + 1).toNatClampNeg) (xs (nI j + 2).toNatClampNeg) (xs (nI j + 3).toNatClampNeg) h hI) ⟨trivial, ⟨trivial, ⟨trivial, trivial⟩⟩⟩ rfl Y_X11_lamp (lw_inT l_L_31) in_X11_lamp se_X11_lamp (sh_k (hSh h hI) 0 11 (by decide) rfl) (by decide) rfl rfl (by decide) hl.1 (show cells + 0 ≤ 600000 by omega) (show slots + 0 ≤ 7302250 by omega) (by decide) dL_law_382 ?_
  rintro _ h1 σ1 H1 locs1 ⟨v, rfl, hs1, hM⟩ S1 e1 x1
  have hx0 := (hSh h hI).2.2
  have hl1 : lv_has ls 4 [(0, .ref b), (1, .ref (σ1 0)), (2, .ref (σ1 82)), (3, .int (nI j))] := by rw [e1 0 (by omega), e1 82 (by omega)]; exact hl
  refine lv_aload_n C.1 C.2.1 dL_law_385 rfl (lv_at hl1 2 rfl) ?_
  refine lv_aload_n C.1 C.2.1 dL_law_386 rfl (lv_at hl1 0 rfl) ?_
  refine lv_iload_n C.1 C.2.1 dL_law_387 rfl (lv_at hl1 3 rfl) ?_
  refine lv_iconst (v := 1) C.1 C.2.1 dL_law_388 (by decide) ?_
  refine lv_iadd C.1 C.2.1 dL_law_389 ?_
  refine lw_sld C S1 (show vp_in (nI j + 1) L from lw_ix (k := 1) (by omega) hL) dL_law_390 ?_
  refine lv_aload_n C.1 C.2.1 dL_law_391 rfl (lv_at hl1 0 rfl) ?_
  refine lv_iload_n C.1 C.2.1 dL_law_392 rfl (lv_at hl1 3 rfl) ?_
  refine lv_iconst (v := 2) C.1 C.2.1 dL_law_393 (by decide) ?_
  refine lv_iadd C.1 C.2.1 dL_law_394 ?_
  refine lw_sld C S1 (show vp_in (nI j + 2) L from lw_ix (k := 2) (by omega) hL) dL_law_395 ?_
  refine lv_aload_n C.1 C.2.1 dL_law_396 rfl (lv_at hl1 0 rfl) ?_
  refine lv_iload_n C.1 C.2.1 dL_law_397 rfl (lv_at hl1 3 rfl) ?_
  refine lv_iconst (v := 3) C.1 C.2.1 dL_law_398 (by decide) ?_
  refine lv_iadd C.1 C.2.1 dL_law_399 ?_
  refine lw_sld C S1 (show vp_in (nI j + 3) L from lw_ix (k := 3) (by omega) hL) dL_law_400 ?_
  refine lw_callV C S1 (As := [.int (xs (nI j + 1).toNatClampNeg), .int (xs (nI j + 2).toNatClampNeg), .int (xs (nI j + 3).toNatClampNeg)]) (b0 := 82) (rest := [.int v]) hM ⟨trivial, ⟨trivial, ⟨trivial, trivial⟩⟩⟩ rfl Y_X12_lamp (lw_inT l_L_34) in_X12_lamp se_X12_lamp (sh_k hs1 82 12 (by decide) rfl) (by decide) rfl rfl (by decide) hl.1 (show cells + 0 + 0 ≤ 600000 by omega) (show slots + 0 + 0 ≤ 7302250 by omega) (Nat.le_of_ble_eq_true rfl) dL_law_401 ?_
  rintro _ h2 σ2 H2 locs2 ⟨w, rfl, hvw, hI2⟩ S2 e2 x2
  refine lv_icmp_eq (x := v) (y := w) (tgt := 1606) C.1 C.2.1 dL_law_404 (by decide) (fun _ => ?_) (fun q => absurd hvw q)
  exact W.widen (k := cells + 40) (n := slots + 11900) (show cells + 0 + 0 ≤ cells + 40 by omega) (show slots + 0 + 0 ≤ slots + 11900 by omega) (kk h2 σ2 H2 locs2 hI2 S2 ((e2 0 (by omega)).trans (e1 0 (by omega))) ((e2 82 (by omega)).trans (e1 82 (by omega))))
set_option maxRecDepth 20000 in
theorem lw_case_5 (C : lw_C p s m meth c g b L xs) (hSh : ∀ h, Inv h → Sh h) (rc : ∀ a0 a1 a2 : Int32, lw_RC Inv J mX11_put mX12_put [.int a0, .int a1, .int a2]) (S : lw_S g s σ H locs h) (hI : Inv h) (hl : lv_has ls 4 [(0, .ref b), (1, .ref (σ 0)), (2, .ref (σ 82)), (3, .int (nI j))]) (hj : j + 6 ≤ L) (hL : L ≤ 3072) (hc : cells + 40 ≤ 600000) (hs : slots + 11900 ≤ 7302250)
    (kk : ∀ (h' : ah_T) (σ' : Nat → Nat) (H' : Heap) (locs' : List Loc), J h' → lw_S g s σ' H' locs' h' → σ' 0 = σ 0 → σ' 82 = σ 82 → W p l e room_1 s m #[Value.ref b] below meth c H' locs' (cells + 40) (slots + 11900) Qz (F0 m 1606 ls [])) : W p l e room_1 s m #[Value.ref b] below meth c H locs cells slots Qz (F0 m 409 ls []) := by
  refine lv_aload_n C.1 C.2.1 dL_law_409 rfl (lv_at hl 1 rfl) ?_
  refine lv_aload_n C.1 C.2.1 dL_law_410 rfl (lv_at hl 0 rfl) ?_
  refine lv_iload_n C.1 C.2.1 dL_law_411 rfl (lv_at hl 3 rfl) ?_
  refine lv_iconst (v := 1) C.1 C.2.1 dL_law_412 (by decide) ?_
  refine lv_iadd C.1 C.2.1 dL_law_413 ?_
  refine lw_sld C S (show vp_in (nI j + 1) L from lw_ix (k := 1) (by omega) hL) dL_law_414 ?_
  refine lv_aload_n C.1 C.2.1 dL_law_415 rfl (lv_at hl 0 rfl) ?_
  refine lv_iload_n C.1 C.2.1 dL_law_416 rfl (lv_at hl 3 rfl) ?_
  refine lv_iconst (v := 2) C.1 C.2.1 dL_law_417 (by decide) ?_
  refine lv_iadd C.1 C.2.1 dL_law_418 ?_
  refine lw_sld C S (show vp_in (nI j + 2) L from lw_ix (k := 2) (by omega) hL) dL_law_419 ?_
  refine lv_aload_n C.1 C.2.1 dL_law_420 rfl (lv_at hl 0 rfl) ?_
  refine lv_iload_n C.1 C.2.1 dL_law_421 rfl (lv_at hl 3 rfl) ?_
  refine lv_iconst (v := 3) C.1 C.2.1 dL_law_422 (by decide) ?_
  refine lv_iadd C.1 C.2.1 dL_law_423 ?_
  refine lw_sld C S (show vp_in (nI j + 3) L from lw_ix (k := 3) (by omega) hL) dL_law_424 ?_
  refine lw_callV C S (As := [.int (xs (nI j + 1).toNatClampNeg), .int (xs (nI j + 2).toNatClampNeg), .int (xs (nI j + 3).toNatClampNeg)]) (b0 := 0) (rest := []) (rc (xs (nI j + 1).toNatClampNeg) (xs (nI j + 2).toNatClampNeg) (xs (nI j + 3).toNatClampNeg) h hI) ⟨trivial, ⟨trivial, ⟨trivial, trivial⟩⟩⟩ rfl Y_X11_put (lw_inT l_L_35) in_X11_put se_X11_put (sh_k (hSh h hI) 0 11 (by decide) rfl) (by decide) rfl rfl (by decide) hl.1 (show cells + 0 ≤ 600000 by omega) (show slots + 0 ≤ 7302250 by omega) (by decide) dL_law_425 ?_
  rintro _ h1 σ1 H1 locs1 ⟨v, rfl, hs1, hM⟩ S1 e1 x1
  have hx0 := (hSh h hI).2.2
  have hl1 : lv_has ls 4 [(0, .ref b), (1, .ref (σ1 0)), (2, .ref (σ1 82)), (3, .int (nI j))] := by rw [e1 0 (by omega), e1 82 (by omega)]; exact hl
  refine lv_aload_n C.1 C.2.1 dL_law_428 rfl (lv_at hl1 2 rfl) ?_
  refine lv_aload_n C.1 C.2.1 dL_law_429 rfl (lv_at hl1 0 rfl) ?_
  refine lv_iload_n C.1 C.2.1 dL_law_430 rfl (lv_at hl1 3 rfl) ?_
  refine lv_iconst (v := 1) C.1 C.2.1 dL_law_431 (by decide) ?_
  refine lv_iadd C.1 C.2.1 dL_law_432 ?_
  refine lw_sld C S1 (show vp_in (nI j + 1) L from lw_ix (k := 1) (by omega) hL) dL_law_433 ?_
  refine lv_aload_n C.1 C.2.1 dL_law_434 rfl (lv_at hl1 0 rfl) ?_
  refine lv_iload_n C.1 C.2.1 dL_law_435 rfl (lv_at hl1 3 rfl) ?_
  refine lv_iconst (v := 2) C.1 C.2.1 dL_law_436 (by decide) ?_
  refine lv_iadd C.1 C.2.1 dL_law_437 ?_
  refine lw_sld C S1 (show vp_in (nI j + 2) L from lw_ix (k := 2) (by omega) hL) dL_law_438 ?_
  refine lv_aload_n C.1 C.2.1 dL_law_439 rfl (lv_at hl1 0 rfl) ?_
  refine lv_iload_n C.1 C.2.1 dL_law_440 rfl (lv_at hl1 3 rfl) ?_
  refine lv_iconst (v := 3) C.1 C.2.1 dL_law_441 (by decide) ?_
  refine lv_iadd C.1 C.2.1 dL_law_442 ?_
  refine lw_sld C S1 (show vp_in (nI j + 3) L from lw_ix (k := 3) (by omega) hL) dL_law_443 ?_
  refine lw_callV C S1 (As := [.int (xs (nI j + 1).toNatClampNeg), .int (xs (nI j + 2).toNatClampNeg), .int (xs (nI j + 3).toNatClampNeg)]) (b0 := 82) (rest := [.int v]) hM ⟨trivial, ⟨trivial, ⟨trivial, trivial⟩⟩⟩ rfl Y_X12_put (lw_inT l_L_38) in_X12_put se_X12_put (sh_k hs1 82 12 (by decide) rfl) (by decide) rfl rfl (by decide) hl.1 (show cells + 0 + 0 ≤ 600000 by omega) (show slots + 0 + 0 ≤ 7302250 by omega) (Nat.le_of_ble_eq_true rfl) dL_law_444 ?_
  rintro _ h2 σ2 H2 locs2 ⟨w, rfl, hvw, hI2⟩ S2 e2 x2
  refine lv_icmp_eq (x := v) (y := w) (tgt := 1606) C.1 C.2.1 dL_law_447 (by decide) (fun _ => ?_) (fun q => absurd hvw q)
  exact W.widen (k := cells + 40) (n := slots + 11900) (show cells + 0 + 0 ≤ cells + 40 by omega) (show slots + 0 + 0 ≤ slots + 11900 by omega) (kk h2 σ2 H2 locs2 hI2 S2 ((e2 0 (by omega)).trans (e1 0 (by omega))) ((e2 82 (by omega)).trans (e1 82 (by omega))))
set_option maxRecDepth 20000 in
theorem lw_case_6 (C : lw_C p s m meth c g b L xs) (hSh : ∀ h, Inv h → Sh h) (rc : ∀ a0 a1 : Int32, lw_RC Inv J mX11_fact mX12_fact [.int a0, .int a1]) (S : lw_S g s σ H locs h) (hI : Inv h) (hl : lv_has ls 4 [(0, .ref b), (1, .ref (σ 0)), (2, .ref (σ 82)), (3, .int (nI j))]) (hj : j + 6 ≤ L) (hL : L ≤ 3072) (hc : cells + 40 ≤ 600000) (hs : slots + 11900 ≤ 7302250)
    (kk : ∀ (h' : ah_T) (σ' : Nat → Nat) (H' : Heap) (locs' : List Loc), J h' → lw_S g s σ' H' locs' h' → σ' 0 = σ 0 → σ' 82 = σ 82 → W p l e room_1 s m #[Value.ref b] below meth c H' locs' (cells + 40) (slots + 11900) Qz (F0 m 1606 ls [])) : W p l e room_1 s m #[Value.ref b] below meth c H locs cells slots Qz (F0 m 452 ls []) := by
  refine lv_aload_n C.1 C.2.1 dL_law_452 rfl (lv_at hl 1 rfl) ?_
  refine lv_aload_n C.1 C.2.1 dL_law_453 rfl (lv_at hl 0 rfl) ?_
  refine lv_iload_n C.1 C.2.1 dL_law_454 rfl (lv_at hl 3 rfl) ?_
  refine lv_iconst (v := 1) C.1 C.2.1 dL_law_455 (by decide) ?_
  refine lv_iadd C.1 C.2.1 dL_law_456 ?_
  refine lw_sld C S (show vp_in (nI j + 1) L from lw_ix (k := 1) (by omega) hL) dL_law_457 ?_
  refine lv_aload_n C.1 C.2.1 dL_law_458 rfl (lv_at hl 0 rfl) ?_
  refine lv_iload_n C.1 C.2.1 dL_law_459 rfl (lv_at hl 3 rfl) ?_
  refine lv_iconst (v := 2) C.1 C.2.1 dL_law_460 (by decide) ?_
  refine lv_iadd C.1 C.2.1 dL_law_461 ?_
  refine lw_sld C S (show vp_in (nI j + 2) L from lw_ix (k := 2) (by omega) hL) dL_law_462 ?_
  refine lw_callV C S (As := [.int (xs (nI j + 1).toNatClampNeg), .int (xs (nI j + 2).toNatClampNeg)]) (b0 := 0) (rest := []) (rc (xs (nI j + 1).toNatClampNeg) (xs (nI j + 2).toNatClampNeg) h hI) ⟨trivial, ⟨trivial, trivial⟩⟩ rfl Y_X11_fact (lw_inT l_L_39) in_X11_fact se_X11_fact (sh_k (hSh h hI) 0 11 (by decide) rfl) (by decide) rfl rfl (by decide) hl.1 (show cells + 0 ≤ 600000 by omega) (show slots + 0 ≤ 7302250 by omega) (by decide) dL_law_463 ?_
  rintro _ h1 σ1 H1 locs1 ⟨v, rfl, hs1, hM⟩ S1 e1 x1
  have hx0 := (hSh h hI).2.2
  have hl1 : lv_has ls 4 [(0, .ref b), (1, .ref (σ1 0)), (2, .ref (σ1 82)), (3, .int (nI j))] := by rw [e1 0 (by omega), e1 82 (by omega)]; exact hl
  refine lv_aload_n C.1 C.2.1 dL_law_466 rfl (lv_at hl1 2 rfl) ?_
  refine lv_aload_n C.1 C.2.1 dL_law_467 rfl (lv_at hl1 0 rfl) ?_
  refine lv_iload_n C.1 C.2.1 dL_law_468 rfl (lv_at hl1 3 rfl) ?_
  refine lv_iconst (v := 1) C.1 C.2.1 dL_law_469 (by decide) ?_
  refine lv_iadd C.1 C.2.1 dL_law_470 ?_
  refine lw_sld C S1 (show vp_in (nI j + 1) L from lw_ix (k := 1) (by omega) hL) dL_law_471 ?_
  refine lv_aload_n C.1 C.2.1 dL_law_472 rfl (lv_at hl1 0 rfl) ?_
  refine lv_iload_n C.1 C.2.1 dL_law_473 rfl (lv_at hl1 3 rfl) ?_
  refine lv_iconst (v := 2) C.1 C.2.1 dL_law_474 (by decide) ?_
  refine lv_iadd C.1 C.2.1 dL_law_475 ?_
  refine lw_sld C S1 (show vp_in (nI j + 2) L from lw_ix (k := 2) (by omega) hL) dL_law_476 ?_
  refine lw_callV C S1 (As := [.int (xs (nI j + 1).toNatClampNeg), .int (xs (nI j + 2).toNatClampNeg)]) (b0 := 82) (rest := [.int v]) hM ⟨trivial, ⟨trivial, trivial⟩⟩ rfl Y_X12_fact (lw_inT l_L_42) in_X12_fact se_X12_fact (sh_k hs1 82 12 (by decide) rfl) (by decide) rfl rfl (by decide) hl.1 (show cells + 0 + 0 ≤ 600000 by omega) (show slots + 0 + 0 ≤ 7302250 by omega) (Nat.le_of_ble_eq_true rfl) dL_law_477 ?_
  rintro _ h2 σ2 H2 locs2 ⟨w, rfl, hvw, hI2⟩ S2 e2 x2
  refine lv_icmp_eq (x := v) (y := w) (tgt := 1606) C.1 C.2.1 dL_law_480 (by decide) (fun _ => ?_) (fun q => absurd hvw q)
  exact W.widen (k := cells + 40) (n := slots + 11900) (show cells + 0 + 0 ≤ cells + 40 by omega) (show slots + 0 + 0 ≤ slots + 11900 by omega) (kk h2 σ2 H2 locs2 hI2 S2 ((e2 0 (by omega)).trans (e1 0 (by omega))) ((e2 82 (by omega)).trans (e1 82 (by omega))))
set_option maxRecDepth 20000 in
theorem lw_case_7 (C : lw_C p s m meth c g b L xs) (hSh : ∀ h, Inv h → Sh h) (rc : ∀ a0 a1 a2 : Int32, lw_RC Inv J mX11_turn mX12_turn [.int a0, .int a1, .int a2]) (S : lw_S g s σ H locs h) (hI : Inv h) (hl : lv_has ls 4 [(0, .ref b), (1, .ref (σ 0)), (2, .ref (σ 82)), (3, .int (nI j))]) (hj : j + 6 ≤ L) (hL : L ≤ 3072) (hc : cells + 40 ≤ 600000) (hs : slots + 11900 ≤ 7302250)
    (kk : ∀ (h' : ah_T) (σ' : Nat → Nat) (H' : Heap) (locs' : List Loc), J h' → lw_S g s σ' H' locs' h' → σ' 0 = σ 0 → σ' 82 = σ 82 → W p l e room_1 s m #[Value.ref b] below meth c H' locs' (cells + 40) (slots + 11900) Qz (F0 m 1606 ls [])) : W p l e room_1 s m #[Value.ref b] below meth c H locs cells slots Qz (F0 m 485 ls []) := by
  refine lv_aload_n C.1 C.2.1 dL_law_485 rfl (lv_at hl 1 rfl) ?_
  refine lv_aload_n C.1 C.2.1 dL_law_486 rfl (lv_at hl 0 rfl) ?_
  refine lv_iload_n C.1 C.2.1 dL_law_487 rfl (lv_at hl 3 rfl) ?_
  refine lv_iconst (v := 1) C.1 C.2.1 dL_law_488 (by decide) ?_
  refine lv_iadd C.1 C.2.1 dL_law_489 ?_
  refine lw_sld C S (show vp_in (nI j + 1) L from lw_ix (k := 1) (by omega) hL) dL_law_490 ?_
  refine lv_aload_n C.1 C.2.1 dL_law_491 rfl (lv_at hl 0 rfl) ?_
  refine lv_iload_n C.1 C.2.1 dL_law_492 rfl (lv_at hl 3 rfl) ?_
  refine lv_iconst (v := 2) C.1 C.2.1 dL_law_493 (by decide) ?_
  refine lv_iadd C.1 C.2.1 dL_law_494 ?_
  refine lw_sld C S (show vp_in (nI j + 2) L from lw_ix (k := 2) (by omega) hL) dL_law_495 ?_
  refine lv_aload_n C.1 C.2.1 dL_law_496 rfl (lv_at hl 0 rfl) ?_
  refine lv_iload_n C.1 C.2.1 dL_law_497 rfl (lv_at hl 3 rfl) ?_
  refine lv_iconst (v := 3) C.1 C.2.1 dL_law_498 (by decide) ?_
  refine lv_iadd C.1 C.2.1 dL_law_499 ?_
  refine lw_sld C S (show vp_in (nI j + 3) L from lw_ix (k := 3) (by omega) hL) dL_law_500 ?_
  refine lw_callV C S (As := [.int (xs (nI j + 1).toNatClampNeg), .int (xs (nI j + 2).toNatClampNeg), .int (xs (nI j + 3).toNatClampNeg)]) (b0 := 0) (rest := []) (rc (xs (nI j + 1).toNatClampNeg) (xs (nI j + 2).toNatClampNeg) (xs (nI j + 3).toNatClampNeg) h hI) ⟨trivial, ⟨trivial, ⟨trivial, trivial⟩⟩⟩ rfl Y_X11_turn (lw_inT l_L_43) in_X11_turn se_X11_turn (sh_k (hSh h hI) 0 11 (by decide) rfl) (by decide) rfl rfl (by decide) hl.1 (show cells + 0 ≤ 600000 by omega) (show slots + 0 ≤ 7302250 by omega) (by decide) dL_law_501 ?_
  rintro _ h1 σ1 H1 locs1 ⟨v, rfl, hs1, hM⟩ S1 e1 x1
  have hx0 := (hSh h hI).2.2
  have hl1 : lv_has ls 4 [(0, .ref b), (1, .ref (σ1 0)), (2, .ref (σ1 82)), (3, .int (nI j))] := by rw [e1 0 (by omega), e1 82 (by omega)]; exact hl
  refine lv_aload_n C.1 C.2.1 dL_law_504 rfl (lv_at hl1 2 rfl) ?_
  refine lv_aload_n C.1 C.2.1 dL_law_505 rfl (lv_at hl1 0 rfl) ?_
  refine lv_iload_n C.1 C.2.1 dL_law_506 rfl (lv_at hl1 3 rfl) ?_
  refine lv_iconst (v := 1) C.1 C.2.1 dL_law_507 (by decide) ?_
  refine lv_iadd C.1 C.2.1 dL_law_508 ?_
  refine lw_sld C S1 (show vp_in (nI j + 1) L from lw_ix (k := 1) (by omega) hL) dL_law_509 ?_
  refine lv_aload_n C.1 C.2.1 dL_law_510 rfl (lv_at hl1 0 rfl) ?_
  refine lv_iload_n C.1 C.2.1 dL_law_511 rfl (lv_at hl1 3 rfl) ?_
  refine lv_iconst (v := 2) C.1 C.2.1 dL_law_512 (by decide) ?_
  refine lv_iadd C.1 C.2.1 dL_law_513 ?_
  refine lw_sld C S1 (show vp_in (nI j + 2) L from lw_ix (k := 2) (by omega) hL) dL_law_514 ?_
  refine lv_aload_n C.1 C.2.1 dL_law_515 rfl (lv_at hl1 0 rfl) ?_
  refine lv_iload_n C.1 C.2.1 dL_law_516 rfl (lv_at hl1 3 rfl) ?_
  refine lv_iconst (v := 3) C.1 C.2.1 dL_law_517 (by decide) ?_
  refine lv_iadd C.1 C.2.1 dL_law_518 ?_
  refine lw_sld C S1 (show vp_in (nI j + 3) L from lw_ix (k := 3) (by omega) hL) dL_law_519 ?_
  refine lw_callV C S1 (As := [.int (xs (nI j + 1).toNatClampNeg), .int (xs (nI j + 2).toNatClampNeg), .int (xs (nI j + 3).toNatClampNeg)]) (b0 := 82) (rest := [.int v]) hM ⟨trivial, ⟨trivial, ⟨trivial, trivial⟩⟩⟩ rfl Y_X12_turn (lw_inT l_L_46) in_X12_turn se_X12_turn (sh_k hs1 82 12 (by decide) rfl) (by decide) rfl rfl (by decide) hl.1 (show cells + 0 + 0 ≤ 600000 by omega) (show slots + 0 + 0 ≤ 7302250 by omega) (Nat.le_of_ble_eq_true rfl) dL_law_520 ?_
  rintro _ h2 σ2 H2 locs2 ⟨w, rfl, hvw, hI2⟩ S2 e2 x2
  refine lv_icmp_eq (x := v) (y := w) (tgt := 1606) C.1 C.2.1 dL_law_523 (by decide) (fun _ => ?_) (fun q => absurd hvw q)
  exact W.widen (k := cells + 40) (n := slots + 11900) (show cells + 0 + 0 ≤ cells + 40 by omega) (show slots + 0 + 0 ≤ slots + 11900 by omega) (kk h2 σ2 H2 locs2 hI2 S2 ((e2 0 (by omega)).trans (e1 0 (by omega))) ((e2 82 (by omega)).trans (e1 82 (by omega))))
set_option maxRecDepth 20000 in
theorem lw_case_8 (C : lw_C p s m meth c g b L xs) (hSh : ∀ h, Inv h → Sh h) (rc : lw_RC Inv J mX11_undo mX12_undo []) (S : lw_S g s σ H locs h) (hI : Inv h) (hl : lv_has ls 4 [(0, .ref b), (1, .ref (σ 0)), (2, .ref (σ 82)), (3, .int (nI j))]) (hj : j + 6 ≤ L) (hL : L ≤ 3072) (hc : cells + 40 ≤ 600000) (hs : slots + 11900 ≤ 7302250)
    (kk : ∀ (h' : ah_T) (σ' : Nat → Nat) (H' : Heap) (locs' : List Loc), J h' → lw_S g s σ' H' locs' h' → σ' 0 = σ 0 → σ' 82 = σ 82 → W p l e room_1 s m #[Value.ref b] below meth c H' locs' (cells + 40) (slots + 11900) Qz (F0 m 1606 ls [])) : W p l e room_1 s m #[Value.ref b] below meth c H locs cells slots Qz (F0 m 528 ls []) := by
  refine lv_aload_n C.1 C.2.1 dL_law_528 rfl (lv_at hl 1 rfl) ?_
  refine lw_callV C S (As := []) (b0 := 0) (rest := []) (rc h hI) trivial rfl Y_X11_undo (lw_inT l_L_47) in_X11_undo se_X11_undo (sh_k (hSh h hI) 0 11 (by decide) rfl) (by decide) rfl rfl (by decide) hl.1 (show cells + 0 ≤ 600000 by omega) (show slots + 0 ≤ 7302250 by omega) (by decide) dL_law_529 ?_
  rintro _ h1 σ1 H1 locs1 ⟨v, rfl, hs1, hM⟩ S1 e1 x1
  have hx0 := (hSh h hI).2.2
  have hl1 : lv_has ls 4 [(0, .ref b), (1, .ref (σ1 0)), (2, .ref (σ1 82)), (3, .int (nI j))] := by rw [e1 0 (by omega), e1 82 (by omega)]; exact hl
  refine lv_aload_n C.1 C.2.1 dL_law_532 rfl (lv_at hl1 2 rfl) ?_
  refine lw_callV C S1 (As := []) (b0 := 82) (rest := [.int v]) hM trivial rfl Y_X12_undo (lw_inT l_L_51) in_X12_undo se_X12_undo (sh_k hs1 82 12 (by decide) rfl) (by decide) rfl rfl (by decide) hl.1 (show cells + 0 + 0 ≤ 600000 by omega) (show slots + 0 + 0 ≤ 7302250 by omega) (Nat.le_of_ble_eq_true rfl) dL_law_533 ?_
  rintro _ h2 σ2 H2 locs2 ⟨w, rfl, hvw, hI2⟩ S2 e2 x2
  refine lv_icmp_eq (x := v) (y := w) (tgt := 1606) C.1 C.2.1 dL_law_536 (by decide) (fun _ => ?_) (fun q => absurd hvw q)
  exact W.widen (k := cells + 40) (n := slots + 11900) (show cells + 0 + 0 ≤ cells + 40 by omega) (show slots + 0 + 0 ≤ slots + 11900 by omega) (kk h2 σ2 H2 locs2 hI2 S2 ((e2 0 (by omega)).trans (e1 0 (by omega))) ((e2 82 (by omega)).trans (e1 82 (by omega))))
set_option maxRecDepth 20000 in
theorem lw_case_9 (C : lw_C p s m meth c g b L xs) (hSh : ∀ h, Inv h → Sh h) (rc : ∀ a0 a1 a2 : Int32, lw_RC Inv J mX11_lantern mX12_lantern [.int a0, .int a1, .int a2]) (S : lw_S g s σ H locs h) (hI : Inv h) (hl : lv_has ls 4 [(0, .ref b), (1, .ref (σ 0)), (2, .ref (σ 82)), (3, .int (nI j))]) (hj : j + 6 ≤ L) (hL : L ≤ 3072) (hc : cells + 40 ≤ 600000) (hs : slots + 11900 ≤ 7302250)
    (kk : ∀ (h' : ah_T) (σ' : Nat → Nat) (H' : Heap) (locs' : List Loc), J h' → lw_S g s σ' H' locs' h' → σ' 0 = σ 0 → σ' 82 = σ 82 → W p l e room_1 s m #[Value.ref b] below meth c H' locs' (cells + 40) (slots + 11900) Qz (F0 m 1606 ls [])) : W p l e room_1 s m #[Value.ref b] below meth c H locs cells slots Qz (F0 m 541 ls []) := by
  refine lv_aload_n C.1 C.2.1 dL_law_541 rfl (lv_at hl 1 rfl) ?_
  refine lv_aload_n C.1 C.2.1 dL_law_542 rfl (lv_at hl 0 rfl) ?_
  refine lv_iload_n C.1 C.2.1 dL_law_543 rfl (lv_at hl 3 rfl) ?_
  refine lv_iconst (v := 1) C.1 C.2.1 dL_law_544 (by decide) ?_
  refine lv_iadd C.1 C.2.1 dL_law_545 ?_
  refine lw_sld C S (show vp_in (nI j + 1) L from lw_ix (k := 1) (by omega) hL) dL_law_546 ?_
  refine lv_aload_n C.1 C.2.1 dL_law_547 rfl (lv_at hl 0 rfl) ?_
  refine lv_iload_n C.1 C.2.1 dL_law_548 rfl (lv_at hl 3 rfl) ?_
  refine lv_iconst (v := 2) C.1 C.2.1 dL_law_549 (by decide) ?_
  refine lv_iadd C.1 C.2.1 dL_law_550 ?_
  refine lw_sld C S (show vp_in (nI j + 2) L from lw_ix (k := 2) (by omega) hL) dL_law_551 ?_
  refine lv_aload_n C.1 C.2.1 dL_law_552 rfl (lv_at hl 0 rfl) ?_
  refine lv_iload_n C.1 C.2.1 dL_law_553 rfl (lv_at hl 3 rfl) ?_
  refine lv_iconst (v := 3) C.1 C.2.1 dL_law_554 (by decide) ?_
  refine lv_iadd C.1 C.2.1 dL_law_555 ?_
  refine lw_sld C S (show vp_in (nI j + 3) L from lw_ix (k := 3) (by omega) hL) dL_law_556 ?_
  refine lw_callV C S (As := [.int (xs (nI j + 1).toNatClampNeg), .int (xs (nI j + 2).toNatClampNeg), .int (xs (nI j + 3).toNatClampNeg)]) (b0 := 0) (rest := []) (rc (xs (nI j + 1).toNatClampNeg) (xs (nI j + 2).toNatClampNeg) (xs (nI j + 3).toNatClampNeg) h hI) ⟨trivial, ⟨trivial, ⟨trivial, trivial⟩⟩⟩ rfl Y_X11_lantern (lw_inT l_L_52) in_X11_lantern se_X11_lantern (sh_k (hSh h hI) 0 11 (by decide) rfl) (by decide) rfl rfl (by decide) hl.1 (show cells + 0 ≤ 600000 by omega) (show slots + 0 ≤ 7302250 by omega) (by decide) dL_law_557 ?_
  rintro _ h1 σ1 H1 locs1 ⟨v, rfl, hs1, hM⟩ S1 e1 x1
  have hx0 := (hSh h hI).2.2
  have hl1 : lv_has ls 4 [(0, .ref b), (1, .ref (σ1 0)), (2, .ref (σ1 82)), (3, .int (nI j))] := by rw [e1 0 (by omega), e1 82 (by omega)]; exact hl
  refine lv_aload_n C.1 C.2.1 dL_law_560 rfl (lv_at hl1 2 rfl) ?_
  refine lv_aload_n C.1 C.2.1 dL_law_561 rfl (lv_at hl1 0 rfl) ?_
  refine lv_iload_n C.1 C.2.1 dL_law_562 rfl (lv_at hl1 3 rfl) ?_
  refine lv_iconst (v := 1) C.1 C.2.1 dL_law_563 (by decide) ?_
  refine lv_iadd C.1 C.2.1 dL_law_564 ?_
  refine lw_sld C S1 (show vp_in (nI j + 1) L from lw_ix (k := 1) (by omega) hL) dL_law_565 ?_
  refine lv_aload_n C.1 C.2.1 dL_law_566 rfl (lv_at hl1 0 rfl) ?_
  refine lv_iload_n C.1 C.2.1 dL_law_567 rfl (lv_at hl1 3 rfl) ?_
  refine lv_iconst (v := 2) C.1 C.2.1 dL_law_568 (by decide) ?_
  refine lv_iadd C.1 C.2.1 dL_law_569 ?_
  refine lw_sld C S1 (show vp_in (nI j + 2) L from lw_ix (k := 2) (by omega) hL) dL_law_570 ?_
  refine lv_aload_n C.1 C.2.1 dL_law_571 rfl (lv_at hl1 0 rfl) ?_
  refine lv_iload_n C.1 C.2.1 dL_law_572 rfl (lv_at hl1 3 rfl) ?_
  refine lv_iconst (v := 3) C.1 C.2.1 dL_law_573 (by decide) ?_
  refine lv_iadd C.1 C.2.1 dL_law_574 ?_
  refine lw_sld C S1 (show vp_in (nI j + 3) L from lw_ix (k := 3) (by omega) hL) dL_law_575 ?_
  refine lw_callV C S1 (As := [.int (xs (nI j + 1).toNatClampNeg), .int (xs (nI j + 2).toNatClampNeg), .int (xs (nI j + 3).toNatClampNeg)]) (b0 := 82) (rest := [.int v]) hM ⟨trivial, ⟨trivial, ⟨trivial, trivial⟩⟩⟩ rfl Y_X12_lantern (lw_inT l_L_55) in_X12_lantern se_X12_lantern (sh_k hs1 82 12 (by decide) rfl) (by decide) rfl rfl (by decide) hl.1 (show cells + 0 + 0 ≤ 600000 by omega) (show slots + 0 + 0 ≤ 7302250 by omega) (Nat.le_of_ble_eq_true rfl) dL_law_576 ?_
  rintro _ h2 σ2 H2 locs2 ⟨w, rfl, hvw, hI2⟩ S2 e2 x2
  refine lv_icmp_eq (x := v) (y := w) (tgt := 1606) C.1 C.2.1 dL_law_579 (by decide) (fun _ => ?_) (fun q => absurd hvw q)
  exact W.widen (k := cells + 40) (n := slots + 11900) (show cells + 0 + 0 ≤ cells + 40 by omega) (show slots + 0 + 0 ≤ slots + 11900 by omega) (kk h2 σ2 H2 locs2 hI2 S2 ((e2 0 (by omega)).trans (e1 0 (by omega))) ((e2 82 (by omega)).trans (e1 82 (by omega))))
set_option maxRecDepth 20000 in
theorem lw_case_10 (C : lw_C p s m meth c g b L xs) (hSh : ∀ h, Inv h → Sh h) (rc : ∀ a0 a1 : Int32, lw_RC Inv J mX11_go mX12_go [.int a0, .int a1]) (S : lw_S g s σ H locs h) (hI : Inv h) (hl : lv_has ls 4 [(0, .ref b), (1, .ref (σ 0)), (2, .ref (σ 82)), (3, .int (nI j))]) (hj : j + 6 ≤ L) (hL : L ≤ 3072) (hc : cells + 40 ≤ 600000) (hs : slots + 11900 ≤ 7302250)
    (kk : ∀ (h' : ah_T) (σ' : Nat → Nat) (H' : Heap) (locs' : List Loc), J h' → lw_S g s σ' H' locs' h' → σ' 0 = σ 0 → σ' 82 = σ 82 → W p l e room_1 s m #[Value.ref b] below meth c H' locs' (cells + 40) (slots + 11900) Qz (F0 m 1606 ls [])) : W p l e room_1 s m #[Value.ref b] below meth c H locs cells slots Qz (F0 m 584 ls []) := by
  refine lv_aload_n C.1 C.2.1 dL_law_584 rfl (lv_at hl 1 rfl) ?_
  refine lv_aload_n C.1 C.2.1 dL_law_585 rfl (lv_at hl 0 rfl) ?_
  refine lv_iload_n C.1 C.2.1 dL_law_586 rfl (lv_at hl 3 rfl) ?_
  refine lv_iconst (v := 1) C.1 C.2.1 dL_law_587 (by decide) ?_
  refine lv_iadd C.1 C.2.1 dL_law_588 ?_
  refine lw_sld C S (show vp_in (nI j + 1) L from lw_ix (k := 1) (by omega) hL) dL_law_589 ?_
  refine lv_aload_n C.1 C.2.1 dL_law_590 rfl (lv_at hl 0 rfl) ?_
  refine lv_iload_n C.1 C.2.1 dL_law_591 rfl (lv_at hl 3 rfl) ?_
  refine lv_iconst (v := 2) C.1 C.2.1 dL_law_592 (by decide) ?_
  refine lv_iadd C.1 C.2.1 dL_law_593 ?_
  refine lw_sld C S (show vp_in (nI j + 2) L from lw_ix (k := 2) (by omega) hL) dL_law_594 ?_
  refine lw_callV C S (As := [.int (xs (nI j + 1).toNatClampNeg), .int (xs (nI j + 2).toNatClampNeg)]) (b0 := 0) (rest := []) (rc (xs (nI j + 1).toNatClampNeg) (xs (nI j + 2).toNatClampNeg) h hI) ⟨trivial, ⟨trivial, trivial⟩⟩ rfl Y_X11_go (lw_inT l_L_56) in_X11_go se_X11_go (sh_k (hSh h hI) 0 11 (by decide) rfl) (by decide) rfl rfl (by decide) hl.1 (show cells + 0 ≤ 600000 by omega) (show slots + 0 ≤ 7302250 by omega) (by decide) dL_law_595 ?_
  rintro _ h1 σ1 H1 locs1 ⟨v, rfl, hs1, hM⟩ S1 e1 x1
  have hx0 := (hSh h hI).2.2
  have hl1 : lv_has ls 4 [(0, .ref b), (1, .ref (σ1 0)), (2, .ref (σ1 82)), (3, .int (nI j))] := by rw [e1 0 (by omega), e1 82 (by omega)]; exact hl
  refine lv_aload_n C.1 C.2.1 dL_law_598 rfl (lv_at hl1 2 rfl) ?_
  refine lv_aload_n C.1 C.2.1 dL_law_599 rfl (lv_at hl1 0 rfl) ?_
  refine lv_iload_n C.1 C.2.1 dL_law_600 rfl (lv_at hl1 3 rfl) ?_
  refine lv_iconst (v := 1) C.1 C.2.1 dL_law_601 (by decide) ?_
  refine lv_iadd C.1 C.2.1 dL_law_602 ?_
  refine lw_sld C S1 (show vp_in (nI j + 1) L from lw_ix (k := 1) (by omega) hL) dL_law_603 ?_
  refine lv_aload_n C.1 C.2.1 dL_law_604 rfl (lv_at hl1 0 rfl) ?_
  refine lv_iload_n C.1 C.2.1 dL_law_605 rfl (lv_at hl1 3 rfl) ?_
  refine lv_iconst (v := 2) C.1 C.2.1 dL_law_606 (by decide) ?_
  refine lv_iadd C.1 C.2.1 dL_law_607 ?_
  refine lw_sld C S1 (show vp_in (nI j + 2) L from lw_ix (k := 2) (by omega) hL) dL_law_608 ?_
  refine lw_callV C S1 (As := [.int (xs (nI j + 1).toNatClampNeg), .int (xs (nI j + 2).toNatClampNeg)]) (b0 := 82) (rest := [.int v]) hM ⟨trivial, ⟨trivial, trivial⟩⟩ rfl Y_X12_go (lw_inT l_L_59) in_X12_go se_X12_go (sh_k hs1 82 12 (by decide) rfl) (by decide) rfl rfl (by decide) hl.1 (show cells + 0 + 0 ≤ 600000 by omega) (show slots + 0 + 0 ≤ 7302250 by omega) (Nat.le_of_ble_eq_true rfl) dL_law_609 ?_
  rintro _ h2 σ2 H2 locs2 ⟨w, rfl, hvw, hI2⟩ S2 e2 x2
  refine lv_icmp_eq (x := v) (y := w) (tgt := 1606) C.1 C.2.1 dL_law_612 (by decide) (fun _ => ?_) (fun q => absurd hvw q)
  exact W.widen (k := cells + 40) (n := slots + 11900) (show cells + 0 + 0 ≤ cells + 40 by omega) (show slots + 0 + 0 ≤ slots + 11900 by omega) (kk h2 σ2 H2 locs2 hI2 S2 ((e2 0 (by omega)).trans (e1 0 (by omega))) ((e2 82 (by omega)).trans (e1 82 (by omega))))
set_option maxRecDepth 20000 in
theorem lw_case_11 (C : lw_C p s m meth c g b L xs) (hSh : ∀ h, Inv h → Sh h) (rc : lw_RC Inv J mX11_doused mX12_doused []) (S : lw_S g s σ H locs h) (hI : Inv h) (hl : lv_has ls 4 [(0, .ref b), (1, .ref (σ 0)), (2, .ref (σ 82)), (3, .int (nI j))]) (hj : j + 6 ≤ L) (hL : L ≤ 3072) (hc : cells + 40 ≤ 600000) (hs : slots + 11900 ≤ 7302250)
    (kk : ∀ (h' : ah_T) (σ' : Nat → Nat) (H' : Heap) (locs' : List Loc), J h' → lw_S g s σ' H' locs' h' → σ' 0 = σ 0 → σ' 82 = σ 82 → W p l e room_1 s m #[Value.ref b] below meth c H' locs' (cells + 40) (slots + 11900) Qz (F0 m 1606 ls [])) : W p l e room_1 s m #[Value.ref b] below meth c H locs cells slots Qz (F0 m 617 ls []) := by
  refine lv_aload_n C.1 C.2.1 dL_law_617 rfl (lv_at hl 1 rfl) ?_
  refine lw_callV C S (As := []) (b0 := 0) (rest := []) (rc h hI) trivial rfl Y_X11_doused (lw_inT l_L_60) in_X11_doused se_X11_doused (sh_k (hSh h hI) 0 11 (by decide) rfl) (by decide) rfl rfl (by decide) hl.1 (show cells + 0 ≤ 600000 by omega) (show slots + 0 ≤ 7302250 by omega) (by decide) dL_law_618 ?_
  rintro _ h1 σ1 H1 locs1 ⟨v, rfl, hs1, hM⟩ S1 e1 x1
  have hx0 := (hSh h hI).2.2
  have hl1 : lv_has ls 4 [(0, .ref b), (1, .ref (σ1 0)), (2, .ref (σ1 82)), (3, .int (nI j))] := by rw [e1 0 (by omega), e1 82 (by omega)]; exact hl
  refine lv_aload_n C.1 C.2.1 dL_law_621 rfl (lv_at hl1 2 rfl) ?_
  refine lw_callV C S1 (As := []) (b0 := 82) (rest := [.int v]) hM trivial rfl Y_X12_doused (lw_inT l_L_63) in_X12_doused se_X12_doused (sh_k hs1 82 12 (by decide) rfl) (by decide) rfl rfl (by decide) hl.1 (show cells + 0 + 0 ≤ 600000 by omega) (show slots + 0 + 0 ≤ 7302250 by omega) (Nat.le_of_ble_eq_true rfl) dL_law_622 ?_
  rintro _ h2 σ2 H2 locs2 ⟨w, rfl, hvw, hI2⟩ S2 e2 x2
  refine lv_icmp_eq (x := v) (y := w) (tgt := 1606) C.1 C.2.1 dL_law_625 (by decide) (fun _ => ?_) (fun q => absurd hvw q)
  exact W.widen (k := cells + 40) (n := slots + 11900) (show cells + 0 + 0 ≤ cells + 40 by omega) (show slots + 0 + 0 ≤ slots + 11900 by omega) (kk h2 σ2 H2 locs2 hI2 S2 ((e2 0 (by omega)).trans (e1 0 (by omega))) ((e2 82 (by omega)).trans (e1 82 (by omega))))
set_option maxRecDepth 20000 in
theorem lw_case_12 (C : lw_C p s m meth c g b L xs) (hSh : ∀ h, Inv h → Sh h) (rc : ∀ a0 a1 a2 : Int32, lw_RC Inv J mX11_errand mX12_errand [.int a0, .int a1, .int a2]) (S : lw_S g s σ H locs h) (hI : Inv h) (hl : lv_has ls 4 [(0, .ref b), (1, .ref (σ 0)), (2, .ref (σ 82)), (3, .int (nI j))]) (hj : j + 6 ≤ L) (hL : L ≤ 3072) (hc : cells + 40 ≤ 600000) (hs : slots + 11900 ≤ 7302250)
    (kk : ∀ (h' : ah_T) (σ' : Nat → Nat) (H' : Heap) (locs' : List Loc), J h' → lw_S g s σ' H' locs' h' → σ' 0 = σ 0 → σ' 82 = σ 82 → W p l e room_1 s m #[Value.ref b] below meth c H' locs' (cells + 40) (slots + 11900) Qz (F0 m 1606 ls [])) : W p l e room_1 s m #[Value.ref b] below meth c H locs cells slots Qz (F0 m 630 ls []) := by
  refine lv_aload_n C.1 C.2.1 dL_law_630 rfl (lv_at hl 1 rfl) ?_
  refine lv_aload_n C.1 C.2.1 dL_law_631 rfl (lv_at hl 0 rfl) ?_
  refine lv_iload_n C.1 C.2.1 dL_law_632 rfl (lv_at hl 3 rfl) ?_
  refine lv_iconst (v := 1) C.1 C.2.1 dL_law_633 (by decide) ?_
  refine lv_iadd C.1 C.2.1 dL_law_634 ?_
  refine lw_sld C S (show vp_in (nI j + 1) L from lw_ix (k := 1) (by omega) hL) dL_law_635 ?_
  refine lv_aload_n C.1 C.2.1 dL_law_636 rfl (lv_at hl 0 rfl) ?_
  refine lv_iload_n C.1 C.2.1 dL_law_637 rfl (lv_at hl 3 rfl) ?_
  refine lv_iconst (v := 2) C.1 C.2.1 dL_law_638 (by decide) ?_
  refine lv_iadd C.1 C.2.1 dL_law_639 ?_
  refine lw_sld C S (show vp_in (nI j + 2) L from lw_ix (k := 2) (by omega) hL) dL_law_640 ?_
  refine lv_aload_n C.1 C.2.1 dL_law_641 rfl (lv_at hl 0 rfl) ?_
  refine lv_iload_n C.1 C.2.1 dL_law_642 rfl (lv_at hl 3 rfl) ?_
  refine lv_iconst (v := 3) C.1 C.2.1 dL_law_643 (by decide) ?_
  refine lv_iadd C.1 C.2.1 dL_law_644 ?_
  refine lw_sld C S (show vp_in (nI j + 3) L from lw_ix (k := 3) (by omega) hL) dL_law_645 ?_
  refine lw_callV C S (As := [.int (xs (nI j + 1).toNatClampNeg), .int (xs (nI j + 2).toNatClampNeg), .int (xs (nI j + 3).toNatClampNeg)]) (b0 := 0) (rest := []) (rc (xs (nI j + 1).toNatClampNeg) (xs (nI j + 2).toNatClampNeg) (xs (nI j + 3).toNatClampNeg) h hI) ⟨trivial, ⟨trivial, ⟨trivial, trivial⟩⟩⟩ rfl Y_X11_errand (lw_inT l_L_64) in_X11_errand se_X11_errand (sh_k (hSh h hI) 0 11 (by decide) rfl) (by decide) rfl rfl (by decide) hl.1 (show cells + 0 ≤ 600000 by omega) (show slots + 0 ≤ 7302250 by omega) (by decide) dL_law_646 ?_
  rintro _ h1 σ1 H1 locs1 ⟨v, rfl, hs1, hM⟩ S1 e1 x1
  have hx0 := (hSh h hI).2.2
  have hl1 : lv_has ls 4 [(0, .ref b), (1, .ref (σ1 0)), (2, .ref (σ1 82)), (3, .int (nI j))] := by rw [e1 0 (by omega), e1 82 (by omega)]; exact hl
  refine lv_aload_n C.1 C.2.1 dL_law_649 rfl (lv_at hl1 2 rfl) ?_
  refine lv_aload_n C.1 C.2.1 dL_law_650 rfl (lv_at hl1 0 rfl) ?_
  refine lv_iload_n C.1 C.2.1 dL_law_651 rfl (lv_at hl1 3 rfl) ?_
  refine lv_iconst (v := 1) C.1 C.2.1 dL_law_652 (by decide) ?_
  refine lv_iadd C.1 C.2.1 dL_law_653 ?_
  refine lw_sld C S1 (show vp_in (nI j + 1) L from lw_ix (k := 1) (by omega) hL) dL_law_654 ?_
  refine lv_aload_n C.1 C.2.1 dL_law_655 rfl (lv_at hl1 0 rfl) ?_
  refine lv_iload_n C.1 C.2.1 dL_law_656 rfl (lv_at hl1 3 rfl) ?_
  refine lv_iconst (v := 2) C.1 C.2.1 dL_law_657 (by decide) ?_
  refine lv_iadd C.1 C.2.1 dL_law_658 ?_
  refine lw_sld C S1 (show vp_in (nI j + 2) L from lw_ix (k := 2) (by omega) hL) dL_law_659 ?_
  refine lv_aload_n C.1 C.2.1 dL_law_660 rfl (lv_at hl1 0 rfl) ?_
  refine lv_iload_n C.1 C.2.1 dL_law_661 rfl (lv_at hl1 3 rfl) ?_
  refine lv_iconst (v := 3) C.1 C.2.1 dL_law_662 (by decide) ?_
  refine lv_iadd C.1 C.2.1 dL_law_663 ?_
  refine lw_sld C S1 (show vp_in (nI j + 3) L from lw_ix (k := 3) (by omega) hL) dL_law_664 ?_
  refine lw_callV C S1 (As := [.int (xs (nI j + 1).toNatClampNeg), .int (xs (nI j + 2).toNatClampNeg), .int (xs (nI j + 3).toNatClampNeg)]) (b0 := 82) (rest := [.int v]) hM ⟨trivial, ⟨trivial, ⟨trivial, trivial⟩⟩⟩ rfl Y_X12_errand (lw_inT l_L_67) in_X12_errand se_X12_errand (sh_k hs1 82 12 (by decide) rfl) (by decide) rfl rfl (by decide) hl.1 (show cells + 0 + 0 ≤ 600000 by omega) (show slots + 0 + 0 ≤ 7302250 by omega) (Nat.le_of_ble_eq_true rfl) dL_law_665 ?_
  rintro _ h2 σ2 H2 locs2 ⟨w, rfl, hvw, hI2⟩ S2 e2 x2
  refine lv_icmp_eq (x := v) (y := w) (tgt := 1606) C.1 C.2.1 dL_law_668 (by decide) (fun _ => ?_) (fun q => absurd hvw q)
  exact W.widen (k := cells + 40) (n := slots + 11900) (show cells + 0 + 0 ≤ cells + 40 by omega) (show slots + 0 + 0 ≤ slots + 11900 by omega) (kk h2 σ2 H2 locs2 hI2 S2 ((e2 0 (by omega)).trans (e1 0 (by omega))) ((e2 82 (by omega)).trans (e1 82 (by omega))))
set_option maxRecDepth 20000 in
theorem lw_case_13 (C : lw_C p s m meth c g b L xs) (hSh : ∀ h, Inv h → Sh h) (rc : ∀ a0 a1 : Int32, lw_RC Inv J mX11_terms mX12_terms [.int a0, .int a1]) (S : lw_S g s σ H locs h) (hI : Inv h) (hl : lv_has ls 4 [(0, .ref b), (1, .ref (σ 0)), (2, .ref (σ 82)), (3, .int (nI j))]) (hj : j + 6 ≤ L) (hL : L ≤ 3072) (hc : cells + 40 ≤ 600000) (hs : slots + 11900 ≤ 7302250)
    (kk : ∀ (h' : ah_T) (σ' : Nat → Nat) (H' : Heap) (locs' : List Loc), J h' → lw_S g s σ' H' locs' h' → σ' 0 = σ 0 → σ' 82 = σ 82 → W p l e room_1 s m #[Value.ref b] below meth c H' locs' (cells + 40) (slots + 11900) Qz (F0 m 1606 ls [])) : W p l e room_1 s m #[Value.ref b] below meth c H locs cells slots Qz (F0 m 673 ls []) := by
  refine lv_aload_n C.1 C.2.1 dL_law_673 rfl (lv_at hl 1 rfl) ?_
  refine lv_aload_n C.1 C.2.1 dL_law_674 rfl (lv_at hl 0 rfl) ?_
  refine lv_iload_n C.1 C.2.1 dL_law_675 rfl (lv_at hl 3 rfl) ?_
  refine lv_iconst (v := 1) C.1 C.2.1 dL_law_676 (by decide) ?_
  refine lv_iadd C.1 C.2.1 dL_law_677 ?_
  refine lw_sld C S (show vp_in (nI j + 1) L from lw_ix (k := 1) (by omega) hL) dL_law_678 ?_
  refine lv_aload_n C.1 C.2.1 dL_law_679 rfl (lv_at hl 0 rfl) ?_
  refine lv_iload_n C.1 C.2.1 dL_law_680 rfl (lv_at hl 3 rfl) ?_
  refine lv_iconst (v := 2) C.1 C.2.1 dL_law_681 (by decide) ?_
  refine lv_iadd C.1 C.2.1 dL_law_682 ?_
  refine lw_sld C S (show vp_in (nI j + 2) L from lw_ix (k := 2) (by omega) hL) dL_law_683 ?_
  refine lw_callV C S (As := [.int (xs (nI j + 1).toNatClampNeg), .int (xs (nI j + 2).toNatClampNeg)]) (b0 := 0) (rest := []) (rc (xs (nI j + 1).toNatClampNeg) (xs (nI j + 2).toNatClampNeg) h hI) ⟨trivial, ⟨trivial, trivial⟩⟩ rfl Y_X11_terms (lw_inT l_L_68) in_X11_terms se_X11_terms (sh_k (hSh h hI) 0 11 (by decide) rfl) (by decide) rfl rfl (by decide) hl.1 (show cells + 0 ≤ 600000 by omega) (show slots + 0 ≤ 7302250 by omega) (by decide) dL_law_684 ?_
  rintro _ h1 σ1 H1 locs1 ⟨v, rfl, hs1, hM⟩ S1 e1 x1
  have hx0 := (hSh h hI).2.2
  have hl1 : lv_has ls 4 [(0, .ref b), (1, .ref (σ1 0)), (2, .ref (σ1 82)), (3, .int (nI j))] := by rw [e1 0 (by omega), e1 82 (by omega)]; exact hl
  refine lv_aload_n C.1 C.2.1 dL_law_687 rfl (lv_at hl1 2 rfl) ?_
  refine lv_aload_n C.1 C.2.1 dL_law_688 rfl (lv_at hl1 0 rfl) ?_
  refine lv_iload_n C.1 C.2.1 dL_law_689 rfl (lv_at hl1 3 rfl) ?_
  refine lv_iconst (v := 1) C.1 C.2.1 dL_law_690 (by decide) ?_
  refine lv_iadd C.1 C.2.1 dL_law_691 ?_
  refine lw_sld C S1 (show vp_in (nI j + 1) L from lw_ix (k := 1) (by omega) hL) dL_law_692 ?_
  refine lv_aload_n C.1 C.2.1 dL_law_693 rfl (lv_at hl1 0 rfl) ?_
  refine lv_iload_n C.1 C.2.1 dL_law_694 rfl (lv_at hl1 3 rfl) ?_
  refine lv_iconst (v := 2) C.1 C.2.1 dL_law_695 (by decide) ?_
  refine lv_iadd C.1 C.2.1 dL_law_696 ?_
  refine lw_sld C S1 (show vp_in (nI j + 2) L from lw_ix (k := 2) (by omega) hL) dL_law_697 ?_
  refine lw_callV C S1 (As := [.int (xs (nI j + 1).toNatClampNeg), .int (xs (nI j + 2).toNatClampNeg)]) (b0 := 82) (rest := [.int v]) hM ⟨trivial, ⟨trivial, trivial⟩⟩ rfl Y_X12_terms (lw_inT l_L_71) in_X12_terms se_X12_terms (sh_k hs1 82 12 (by decide) rfl) (by decide) rfl rfl (by decide) hl.1 (show cells + 0 + 0 ≤ 600000 by omega) (show slots + 0 + 0 ≤ 7302250 by omega) (Nat.le_of_ble_eq_true rfl) dL_law_698 ?_
  rintro _ h2 σ2 H2 locs2 ⟨w, rfl, hvw, hI2⟩ S2 e2 x2
  refine lv_icmp_eq (x := v) (y := w) (tgt := 1606) C.1 C.2.1 dL_law_701 (by decide) (fun _ => ?_) (fun q => absurd hvw q)
  exact W.widen (k := cells + 40) (n := slots + 11900) (show cells + 0 + 0 ≤ cells + 40 by omega) (show slots + 0 + 0 ≤ slots + 11900 by omega) (kk h2 σ2 H2 locs2 hI2 S2 ((e2 0 (by omega)).trans (e1 0 (by omega))) ((e2 82 (by omega)).trans (e1 82 (by omega))))
set_option maxRecDepth 20000 in
theorem lw_case_14 (C : lw_C p s m meth c g b L xs) (hSh : ∀ h, Inv h → Sh h) (rc : ∀ a0 a1 a2 a3 a4 : Int32, lw_RC Inv J mX11_feed mX12_feed [.int a0, .int a1, .int a2, .int a3, .int a4]) (S : lw_S g s σ H locs h) (hI : Inv h) (hl : lv_has ls 4 [(0, .ref b), (1, .ref (σ 0)), (2, .ref (σ 82)), (3, .int (nI j))]) (hj : j + 6 ≤ L) (hL : L ≤ 3072) (hc : cells + 40 ≤ 600000) (hs : slots + 11900 ≤ 7302250)
    (kk : ∀ (h' : ah_T) (σ' : Nat → Nat) (H' : Heap) (locs' : List Loc), J h' → lw_S g s σ' H' locs' h' → σ' 0 = σ 0 → σ' 82 = σ 82 → W p l e room_1 s m #[Value.ref b] below meth c H' locs' (cells + 40) (slots + 11900) Qz (F0 m 1606 ls [])) : W p l e room_1 s m #[Value.ref b] below meth c H locs cells slots Qz (F0 m 706 ls []) := by
  refine lv_aload_n C.1 C.2.1 dL_law_706 rfl (lv_at hl 1 rfl) ?_
  refine lv_aload_n C.1 C.2.1 dL_law_707 rfl (lv_at hl 0 rfl) ?_
  refine lv_iload_n C.1 C.2.1 dL_law_708 rfl (lv_at hl 3 rfl) ?_
  refine lv_iconst (v := 1) C.1 C.2.1 dL_law_709 (by decide) ?_
  refine lv_iadd C.1 C.2.1 dL_law_710 ?_
  refine lw_sld C S (show vp_in (nI j + 1) L from lw_ix (k := 1) (by omega) hL) dL_law_711 ?_
  refine lv_aload_n C.1 C.2.1 dL_law_712 rfl (lv_at hl 0 rfl) ?_
  refine lv_iload_n C.1 C.2.1 dL_law_713 rfl (lv_at hl 3 rfl) ?_
  refine lv_iconst (v := 2) C.1 C.2.1 dL_law_714 (by decide) ?_
  refine lv_iadd C.1 C.2.1 dL_law_715 ?_
  refine lw_sld C S (show vp_in (nI j + 2) L from lw_ix (k := 2) (by omega) hL) dL_law_716 ?_
  refine lv_aload_n C.1 C.2.1 dL_law_717 rfl (lv_at hl 0 rfl) ?_
  refine lv_iload_n C.1 C.2.1 dL_law_718 rfl (lv_at hl 3 rfl) ?_
  refine lv_iconst (v := 3) C.1 C.2.1 dL_law_719 (by decide) ?_
  refine lv_iadd C.1 C.2.1 dL_law_720 ?_
  refine lw_sld C S (show vp_in (nI j + 3) L from lw_ix (k := 3) (by omega) hL) dL_law_721 ?_
  refine lv_aload_n C.1 C.2.1 dL_law_722 rfl (lv_at hl 0 rfl) ?_
  refine lv_iload_n C.1 C.2.1 dL_law_723 rfl (lv_at hl 3 rfl) ?_
  refine lv_iconst (v := 4) C.1 C.2.1 dL_law_724 (by decide) ?_
  refine lv_iadd C.1 C.2.1 dL_law_725 ?_
  refine lw_sld C S (show vp_in (nI j + 4) L from lw_ix (k := 4) (by omega) hL) dL_law_726 ?_
  refine lv_aload_n C.1 C.2.1 dL_law_727 rfl (lv_at hl 0 rfl) ?_
  refine lv_iload_n C.1 C.2.1 dL_law_728 rfl (lv_at hl 3 rfl) ?_
  refine lv_iconst (v := 5) C.1 C.2.1 dL_law_729 (by decide) ?_
  refine lv_iadd C.1 C.2.1 dL_law_730 ?_
  refine lw_sld C S (show vp_in (nI j + 5) L from lw_ix (k := 5) (by omega) hL) dL_law_731 ?_
  refine lw_callV C S (As := [.int (xs (nI j + 1).toNatClampNeg), .int (xs (nI j + 2).toNatClampNeg), .int (xs (nI j + 3).toNatClampNeg), .int (xs (nI j + 4).toNatClampNeg), .int (xs (nI j + 5).toNatClampNeg)]) (b0 := 0) (rest := []) (rc (xs (nI j + 1).toNatClampNeg) (xs (nI j + 2).toNatClampNeg) (xs (nI j + 3).toNatClampNeg) (xs (nI j + 4).toNatClampNeg) (xs (nI j + 5).toNatClampNeg) h hI) ⟨trivial, ⟨trivial, ⟨trivial, ⟨trivial, ⟨trivial, trivial⟩⟩⟩⟩⟩ rfl Y_X11_feed (lw_inT l_L_72) in_X11_feed se_X11_feed (sh_k (hSh h hI) 0 11 (by decide) rfl) (by decide) rfl rfl (by decide) hl.1 (show cells + 0 ≤ 600000 by omega) (show slots + 0 ≤ 7302250 by omega) (by decide) dL_law_732 ?_
  rintro _ h1 σ1 H1 locs1 ⟨v, rfl, hs1, hM⟩ S1 e1 x1
  have hx0 := (hSh h hI).2.2
  have hl1 : lv_has ls 4 [(0, .ref b), (1, .ref (σ1 0)), (2, .ref (σ1 82)), (3, .int (nI j))] := by rw [e1 0 (by omega), e1 82 (by omega)]; exact hl
  refine lv_aload_n C.1 C.2.1 dL_law_735 rfl (lv_at hl1 2 rfl) ?_
  refine lv_aload_n C.1 C.2.1 dL_law_736 rfl (lv_at hl1 0 rfl) ?_
  refine lv_iload_n C.1 C.2.1 dL_law_737 rfl (lv_at hl1 3 rfl) ?_
  refine lv_iconst (v := 1) C.1 C.2.1 dL_law_738 (by decide) ?_
  refine lv_iadd C.1 C.2.1 dL_law_739 ?_
  refine lw_sld C S1 (show vp_in (nI j + 1) L from lw_ix (k := 1) (by omega) hL) dL_law_740 ?_
  refine lv_aload_n C.1 C.2.1 dL_law_741 rfl (lv_at hl1 0 rfl) ?_
  refine lv_iload_n C.1 C.2.1 dL_law_742 rfl (lv_at hl1 3 rfl) ?_
  refine lv_iconst (v := 2) C.1 C.2.1 dL_law_743 (by decide) ?_
  refine lv_iadd C.1 C.2.1 dL_law_744 ?_
  refine lw_sld C S1 (show vp_in (nI j + 2) L from lw_ix (k := 2) (by omega) hL) dL_law_745 ?_
  refine lv_aload_n C.1 C.2.1 dL_law_746 rfl (lv_at hl1 0 rfl) ?_
  refine lv_iload_n C.1 C.2.1 dL_law_747 rfl (lv_at hl1 3 rfl) ?_
  refine lv_iconst (v := 3) C.1 C.2.1 dL_law_748 (by decide) ?_
  refine lv_iadd C.1 C.2.1 dL_law_749 ?_
  refine lw_sld C S1 (show vp_in (nI j + 3) L from lw_ix (k := 3) (by omega) hL) dL_law_750 ?_
  refine lv_aload_n C.1 C.2.1 dL_law_751 rfl (lv_at hl1 0 rfl) ?_
  refine lv_iload_n C.1 C.2.1 dL_law_752 rfl (lv_at hl1 3 rfl) ?_
  refine lv_iconst (v := 4) C.1 C.2.1 dL_law_753 (by decide) ?_
  refine lv_iadd C.1 C.2.1 dL_law_754 ?_
  refine lw_sld C S1 (show vp_in (nI j + 4) L from lw_ix (k := 4) (by omega) hL) dL_law_755 ?_
  refine lv_aload_n C.1 C.2.1 dL_law_756 rfl (lv_at hl1 0 rfl) ?_
  refine lv_iload_n C.1 C.2.1 dL_law_757 rfl (lv_at hl1 3 rfl) ?_
  refine lv_iconst (v := 5) C.1 C.2.1 dL_law_758 (by decide) ?_
  refine lv_iadd C.1 C.2.1 dL_law_759 ?_
  refine lw_sld C S1 (show vp_in (nI j + 5) L from lw_ix (k := 5) (by omega) hL) dL_law_760 ?_
  refine lw_callV C S1 (As := [.int (xs (nI j + 1).toNatClampNeg), .int (xs (nI j + 2).toNatClampNeg), .int (xs (nI j + 3).toNatClampNeg), .int (xs (nI j + 4).toNatClampNeg), .int (xs (nI j + 5).toNatClampNeg)]) (b0 := 82) (rest := [.int v]) hM ⟨trivial, ⟨trivial, ⟨trivial, ⟨trivial, ⟨trivial, trivial⟩⟩⟩⟩⟩ rfl Y_X12_feed (lw_inT l_L_76) in_X12_feed se_X12_feed (sh_k hs1 82 12 (by decide) rfl) (by decide) rfl rfl (by decide) hl.1 (show cells + 0 + 0 ≤ 600000 by omega) (show slots + 0 + 0 ≤ 7302250 by omega) (Nat.le_of_ble_eq_true rfl) dL_law_761 ?_
  rintro _ h2 σ2 H2 locs2 ⟨w, rfl, hvw, hI2⟩ S2 e2 x2
  refine lv_icmp_eq (x := v) (y := w) (tgt := 1606) C.1 C.2.1 dL_law_764 (by decide) (fun _ => ?_) (fun q => absurd hvw q)
  exact W.widen (k := cells + 40) (n := slots + 11900) (show cells + 0 + 0 ≤ cells + 40 by omega) (show slots + 0 + 0 ≤ slots + 11900 by omega) (kk h2 σ2 H2 locs2 hI2 S2 ((e2 0 (by omega)).trans (e1 0 (by omega))) ((e2 82 (by omega)).trans (e1 82 (by omega))))
set_option maxRecDepth 20000 in
theorem lw_case_15 (C : lw_C p s m meth c g b L xs) (hSh : ∀ h, Inv h → Sh h) (rc : ∀ a0 : Int32, lw_RC Inv J mX11_end mX12_end [.int a0]) (S : lw_S g s σ H locs h) (hI : Inv h) (hl : lv_has ls 4 [(0, .ref b), (1, .ref (σ 0)), (2, .ref (σ 82)), (3, .int (nI j))]) (hj : j + 6 ≤ L) (hL : L ≤ 3072) (hc : cells + 40 ≤ 600000) (hs : slots + 11900 ≤ 7302250)
    (kk : ∀ (h' : ah_T) (σ' : Nat → Nat) (H' : Heap) (locs' : List Loc), J h' → lw_S g s σ' H' locs' h' → σ' 0 = σ 0 → σ' 82 = σ 82 → W p l e room_1 s m #[Value.ref b] below meth c H' locs' (cells + 40) (slots + 11900) Qz (F0 m 1606 ls [])) : W p l e room_1 s m #[Value.ref b] below meth c H locs cells slots Qz (F0 m 769 ls []) := by
  refine lv_aload_n C.1 C.2.1 dL_law_769 rfl (lv_at hl 1 rfl) ?_
  refine lv_aload_n C.1 C.2.1 dL_law_770 rfl (lv_at hl 0 rfl) ?_
  refine lv_iload_n C.1 C.2.1 dL_law_771 rfl (lv_at hl 3 rfl) ?_
  refine lv_iconst (v := 1) C.1 C.2.1 dL_law_772 (by decide) ?_
  refine lv_iadd C.1 C.2.1 dL_law_773 ?_
  refine lw_sld C S (show vp_in (nI j + 1) L from lw_ix (k := 1) (by omega) hL) dL_law_774 ?_
  refine lw_callV C S (As := [.int (xs (nI j + 1).toNatClampNeg)]) (b0 := 0) (rest := []) (rc (xs (nI j + 1).toNatClampNeg) h hI) ⟨trivial, trivial⟩ rfl Y_X11_end (lw_inT l_L_77) in_X11_end se_X11_end (sh_k (hSh h hI) 0 11 (by decide) rfl) (by decide) rfl rfl (by decide) hl.1 (show cells + 0 ≤ 600000 by omega) (show slots + 0 ≤ 7302250 by omega) (by decide) dL_law_775 ?_
  rintro _ h1 σ1 H1 locs1 ⟨v, rfl, hs1, hM⟩ S1 e1 x1
  have hx0 := (hSh h hI).2.2
  have hl1 : lv_has ls 4 [(0, .ref b), (1, .ref (σ1 0)), (2, .ref (σ1 82)), (3, .int (nI j))] := by rw [e1 0 (by omega), e1 82 (by omega)]; exact hl
  refine lv_aload_n C.1 C.2.1 dL_law_778 rfl (lv_at hl1 2 rfl) ?_
  refine lv_aload_n C.1 C.2.1 dL_law_779 rfl (lv_at hl1 0 rfl) ?_
  refine lv_iload_n C.1 C.2.1 dL_law_780 rfl (lv_at hl1 3 rfl) ?_
  refine lv_iconst (v := 1) C.1 C.2.1 dL_law_781 (by decide) ?_
  refine lv_iadd C.1 C.2.1 dL_law_782 ?_
  refine lw_sld C S1 (show vp_in (nI j + 1) L from lw_ix (k := 1) (by omega) hL) dL_law_783 ?_
  refine lw_callV C S1 (As := [.int (xs (nI j + 1).toNatClampNeg)]) (b0 := 82) (rest := [.int v]) hM ⟨trivial, trivial⟩ rfl Y_X12_end (lw_inT l_L_81) in_X12_end se_X12_end (sh_k hs1 82 12 (by decide) rfl) (by decide) rfl rfl (by decide) hl.1 (show cells + 0 + 0 ≤ 600000 by omega) (show slots + 0 + 0 ≤ 7302250 by omega) (Nat.le_of_ble_eq_true rfl) dL_law_784 ?_
  rintro _ h2 σ2 H2 locs2 ⟨w, rfl, hvw, hI2⟩ S2 e2 x2
  refine lv_icmp_eq (x := v) (y := w) (tgt := 1606) C.1 C.2.1 dL_law_787 (by decide) (fun _ => ?_) (fun q => absurd hvw q)
  exact W.widen (k := cells + 40) (n := slots + 11900) (show cells + 0 + 0 ≤ cells + 40 by omega) (show slots + 0 + 0 ≤ slots + 11900 by omega) (kk h2 σ2 H2 locs2 hI2 S2 ((e2 0 (by omega)).trans (e1 0 (by omega))) ((e2 82 (by omega)).trans (e1 82 (by omega))))
set_option maxRecDepth 20000 in
theorem lw_case_16 (C : lw_C p s m meth c g b L xs) (hSh : ∀ h, Inv h → Sh h) (rc : lw_RC Inv J mX11_row mX12_row []) (S : lw_S g s σ H locs h) (hI : Inv h) (hl : lv_has ls 4 [(0, .ref b), (1, .ref (σ 0)), (2, .ref (σ 82)), (3, .int (nI j))]) (hj : j + 6 ≤ L) (hL : L ≤ 3072) (hc : cells + 40 ≤ 600000) (hs : slots + 11900 ≤ 7302250)
    (kk : ∀ (h' : ah_T) (σ' : Nat → Nat) (H' : Heap) (locs' : List Loc), J h' → lw_S g s σ' H' locs' h' → σ' 0 = σ 0 → σ' 82 = σ 82 → W p l e room_1 s m #[Value.ref b] below meth c H' locs' (cells + 40) (slots + 11900) Qz (F0 m 1606 ls [])) : W p l e room_1 s m #[Value.ref b] below meth c H locs cells slots Qz (F0 m 792 ls []) := by
  refine lv_aload_n C.1 C.2.1 dL_law_792 rfl (lv_at hl 1 rfl) ?_
  refine lw_callV C S (As := []) (b0 := 0) (rest := []) (rc h hI) trivial rfl Y_X11_row (lw_inT l_L_82) in_X11_row se_X11_row (sh_k (hSh h hI) 0 11 (by decide) rfl) (by decide) rfl rfl (by decide) hl.1 (show cells + 0 ≤ 600000 by omega) (show slots + 0 ≤ 7302250 by omega) (by decide) dL_law_793 ?_
  rintro _ h1 σ1 H1 locs1 ⟨v, rfl, hs1, hM⟩ S1 e1 x1
  have hx0 := (hSh h hI).2.2
  have hl1 : lv_has ls 4 [(0, .ref b), (1, .ref (σ1 0)), (2, .ref (σ1 82)), (3, .int (nI j))] := by rw [e1 0 (by omega), e1 82 (by omega)]; exact hl
  refine lv_aload_n C.1 C.2.1 dL_law_796 rfl (lv_at hl1 2 rfl) ?_
  refine lw_callV C S1 (As := []) (b0 := 82) (rest := [.int v]) hM trivial rfl Y_X12_row (lw_inT l_L_85) in_X12_row se_X12_row (sh_k hs1 82 12 (by decide) rfl) (by decide) rfl rfl (by decide) hl.1 (show cells + 0 + 0 ≤ 600000 by omega) (show slots + 0 + 0 ≤ 7302250 by omega) (Nat.le_of_ble_eq_true rfl) dL_law_797 ?_
  rintro _ h2 σ2 H2 locs2 ⟨w, rfl, hvw, hI2⟩ S2 e2 x2
  refine lv_icmp_eq (x := v) (y := w) (tgt := 1606) C.1 C.2.1 dL_law_800 (by decide) (fun _ => ?_) (fun q => absurd hvw q)
  exact W.widen (k := cells + 40) (n := slots + 11900) (show cells + 0 + 0 ≤ cells + 40 by omega) (show slots + 0 + 0 ≤ slots + 11900 by omega) (kk h2 σ2 H2 locs2 hI2 S2 ((e2 0 (by omega)).trans (e1 0 (by omega))) ((e2 82 (by omega)).trans (e1 82 (by omega))))
set_option maxRecDepth 20000 in
theorem lw_case_17 (C : lw_C p s m meth c g b L xs) (hSh : ∀ h, Inv h → Sh h) (rc : lw_RC Inv J mX11_ash mX12_ash []) (S : lw_S g s σ H locs h) (hI : Inv h) (hl : lv_has ls 4 [(0, .ref b), (1, .ref (σ 0)), (2, .ref (σ 82)), (3, .int (nI j))]) (hj : j + 6 ≤ L) (hL : L ≤ 3072) (hc : cells + 40 ≤ 600000) (hs : slots + 11900 ≤ 7302250)
    (kk : ∀ (h' : ah_T) (σ' : Nat → Nat) (H' : Heap) (locs' : List Loc), J h' → lw_S g s σ' H' locs' h' → σ' 0 = σ 0 → σ' 82 = σ 82 → W p l e room_1 s m #[Value.ref b] below meth c H' locs' (cells + 40) (slots + 11900) Qz (F0 m 1606 ls [])) : W p l e room_1 s m #[Value.ref b] below meth c H locs cells slots Qz (F0 m 805 ls []) := by
  refine lv_aload_n C.1 C.2.1 dL_law_805 rfl (lv_at hl 1 rfl) ?_
  refine lw_callV C S (As := []) (b0 := 0) (rest := []) (rc h hI) trivial rfl Y_X11_ash (lw_inT l_L_86) in_X11_ash se_X11_ash (sh_k (hSh h hI) 0 11 (by decide) rfl) (by decide) rfl rfl (by decide) hl.1 (show cells + 0 ≤ 600000 by omega) (show slots + 0 ≤ 7302250 by omega) (by decide) dL_law_806 ?_
  rintro _ h1 σ1 H1 locs1 ⟨v, rfl, hs1, hM⟩ S1 e1 x1
  have hx0 := (hSh h hI).2.2
  have hl1 : lv_has ls 4 [(0, .ref b), (1, .ref (σ1 0)), (2, .ref (σ1 82)), (3, .int (nI j))] := by rw [e1 0 (by omega), e1 82 (by omega)]; exact hl
  refine lv_aload_n C.1 C.2.1 dL_law_809 rfl (lv_at hl1 2 rfl) ?_
  refine lw_callV C S1 (As := []) (b0 := 82) (rest := [.int v]) hM trivial rfl Y_X12_ash (lw_inT l_L_89) in_X12_ash se_X12_ash (sh_k hs1 82 12 (by decide) rfl) (by decide) rfl rfl (by decide) hl.1 (show cells + 0 + 0 ≤ 600000 by omega) (show slots + 0 + 0 ≤ 7302250 by omega) (Nat.le_of_ble_eq_true rfl) dL_law_810 ?_
  rintro _ h2 σ2 H2 locs2 ⟨w, rfl, hvw, hI2⟩ S2 e2 x2
  refine lv_icmp_eq (x := v) (y := w) (tgt := 1606) C.1 C.2.1 dL_law_813 (by decide) (fun _ => ?_) (fun q => absurd hvw q)
  exact W.widen (k := cells + 40) (n := slots + 11900) (show cells + 0 + 0 ≤ cells + 40 by omega) (show slots + 0 + 0 ≤ slots + 11900 by omega) (kk h2 σ2 H2 locs2 hI2 S2 ((e2 0 (by omega)).trans (e1 0 (by omega))) ((e2 82 (by omega)).trans (e1 82 (by omega))))
set_option maxRecDepth 20000 in
theorem lw_case_18 (C : lw_C p s m meth c g b L xs) (hSh : ∀ h, Inv h → Sh h) (rc : lw_RC Inv J mX11_law mX12_law []) (S : lw_S g s σ H locs h) (hI : Inv h) (hl : lv_has ls 4 [(0, .ref b), (1, .ref (σ 0)), (2, .ref (σ 82)), (3, .int (nI j))]) (hj : j + 6 ≤ L) (hL : L ≤ 3072) (hc : cells + 40 ≤ 600000) (hs : slots + 11900 ≤ 7302250)
    (kk : ∀ (h' : ah_T) (σ' : Nat → Nat) (H' : Heap) (locs' : List Loc), J h' → lw_S g s σ' H' locs' h' → σ' 0 = σ 0 → σ' 82 = σ 82 → W p l e room_1 s m #[Value.ref b] below meth c H' locs' (cells + 40) (slots + 11900) Qz (F0 m 1606 ls [])) : W p l e room_1 s m #[Value.ref b] below meth c H locs cells slots Qz (F0 m 818 ls []) := by
  refine lv_aload_n C.1 C.2.1 dL_law_818 rfl (lv_at hl 1 rfl) ?_
  refine lw_callV C S (As := []) (b0 := 0) (rest := []) (rc h hI) trivial rfl Y_X11_law (lw_inT l_L_90) in_X11_law se_X11_law (sh_k (hSh h hI) 0 11 (by decide) rfl) (by decide) rfl rfl (by decide) hl.1 (show cells + 4 ≤ 600000 by omega) (show slots + 1010 ≤ 7302250 by omega) (by decide) dL_law_819 ?_
  rintro _ h1 σ1 H1 locs1 ⟨v, rfl, hs1, hM⟩ S1 e1 x1
  have hx0 := (hSh h hI).2.2
  have hl1 : lv_has ls 4 [(0, .ref b), (1, .ref (σ1 0)), (2, .ref (σ1 82)), (3, .int (nI j))] := by rw [e1 0 (by omega), e1 82 (by omega)]; exact hl
  refine lv_aload_n C.1 C.2.1 dL_law_822 rfl (lv_at hl1 2 rfl) ?_
  refine lw_callV C S1 (As := []) (b0 := 82) (rest := [.int v]) hM trivial rfl Y_X12_law (lw_inT l_L_93) in_X12_law se_X12_law (sh_k hs1 82 12 (by decide) rfl) (by decide) rfl rfl (by decide) hl.1 (show cells + 4 + 0 ≤ 600000 by omega) (show slots + 1010 + 0 ≤ 7302250 by omega) (Nat.le_of_ble_eq_true rfl) dL_law_823 ?_
  rintro _ h2 σ2 H2 locs2 ⟨w, rfl, hvw, hI2⟩ S2 e2 x2
  refine lv_icmp_eq (x := v) (y := w) (tgt := 1606) C.1 C.2.1 dL_law_826 (by decide) (fun _ => ?_) (fun q => absurd hvw q)
  exact W.widen (k := cells + 40) (n := slots + 11900) (show cells + 4 + 0 ≤ cells + 40 by omega) (show slots + 1010 + 0 ≤ slots + 11900 by omega) (kk h2 σ2 H2 locs2 hI2 S2 ((e2 0 (by omega)).trans (e1 0 (by omega))) ((e2 82 (by omega)).trans (e1 82 (by omega))))
set_option maxRecDepth 20000 in
theorem lw_case_19 (C : lw_C p s m meth c g b L xs) (hSh : ∀ h, Inv h → Sh h) (rc : lw_RC Inv J mX11_rounds mX12_rounds []) (S : lw_S g s σ H locs h) (hI : Inv h) (hl : lv_has ls 4 [(0, .ref b), (1, .ref (σ 0)), (2, .ref (σ 82)), (3, .int (nI j))]) (hj : j + 6 ≤ L) (hL : L ≤ 3072) (hc : cells + 40 ≤ 600000) (hs : slots + 11900 ≤ 7302250)
    (kk : ∀ (h' : ah_T) (σ' : Nat → Nat) (H' : Heap) (locs' : List Loc), J h' → lw_S g s σ' H' locs' h' → σ' 0 = σ 0 → σ' 82 = σ 82 → W p l e room_1 s m #[Value.ref b] below meth c H' locs' (cells + 40) (slots + 11900) Qz (F0 m 1606 ls [])) : W p l e room_1 s m #[Value.ref b] below meth c H locs cells slots Qz (F0 m 831 ls []) := by
  refine lv_aload_n C.1 C.2.1 dL_law_831 rfl (lv_at hl 1 rfl) ?_
  refine lw_callV C S (As := []) (b0 := 0) (rest := []) (rc h hI) trivial rfl Y_X11_rounds (lw_inT l_L_94) in_X11_rounds se_X11_rounds (sh_k (hSh h hI) 0 11 (by decide) rfl) (by decide) rfl rfl (by decide) hl.1 (show cells + 4 ≤ 600000 by omega) (show slots + 1010 ≤ 7302250 by omega) (by decide) dL_law_832 ?_
  rintro _ h1 σ1 H1 locs1 ⟨v, rfl, hs1, hM⟩ S1 e1 x1
  have hx0 := (hSh h hI).2.2
  have hl1 : lv_has ls 4 [(0, .ref b), (1, .ref (σ1 0)), (2, .ref (σ1 82)), (3, .int (nI j))] := by rw [e1 0 (by omega), e1 82 (by omega)]; exact hl
  refine lv_aload_n C.1 C.2.1 dL_law_835 rfl (lv_at hl1 2 rfl) ?_
  refine lw_callV C S1 (As := []) (b0 := 82) (rest := [.int v]) hM trivial rfl Y_X12_rounds (lw_inT l_L_97) in_X12_rounds se_X12_rounds (sh_k hs1 82 12 (by decide) rfl) (by decide) rfl rfl (by decide) hl.1 (show cells + 4 + 0 ≤ 600000 by omega) (show slots + 1010 + 0 ≤ 7302250 by omega) (Nat.le_of_ble_eq_true rfl) dL_law_836 ?_
  rintro _ h2 σ2 H2 locs2 ⟨w, rfl, hvw, hI2⟩ S2 e2 x2
  refine lv_icmp_eq (x := v) (y := w) (tgt := 1606) C.1 C.2.1 dL_law_839 (by decide) (fun _ => ?_) (fun q => absurd hvw q)
  exact W.widen (k := cells + 40) (n := slots + 11900) (show cells + 4 + 0 ≤ cells + 40 by omega) (show slots + 1010 + 0 ≤ slots + 11900 by omega) (kk h2 σ2 H2 locs2 hI2 S2 ((e2 0 (by omega)).trans (e1 0 (by omega))) ((e2 82 (by omega)).trans (e1 82 (by omega))))
set_option maxRecDepth 20000 in
theorem lw_case_20 (C : lw_C p s m meth c g b L xs) (hSh : ∀ h, Inv h → Sh h) (rc : lw_RC Inv J mX11_fault mX12_fault []) (S : lw_S g s σ H locs h) (hI : Inv h) (hl : lv_has ls 4 [(0, .ref b), (1, .ref (σ 0)), (2, .ref (σ 82)), (3, .int (nI j))]) (hj : j + 6 ≤ L) (hL : L ≤ 3072) (hc : cells + 40 ≤ 600000) (hs : slots + 11900 ≤ 7302250)
    (kk : ∀ (h' : ah_T) (σ' : Nat → Nat) (H' : Heap) (locs' : List Loc), J h' → lw_S g s σ' H' locs' h' → σ' 0 = σ 0 → σ' 82 = σ 82 → W p l e room_1 s m #[Value.ref b] below meth c H' locs' (cells + 40) (slots + 11900) Qz (F0 m 1606 ls [])) : W p l e room_1 s m #[Value.ref b] below meth c H locs cells slots Qz (F0 m 844 ls []) := by
  refine lv_aload_n C.1 C.2.1 dL_law_844 rfl (lv_at hl 1 rfl) ?_
  refine lw_callV C S (As := []) (b0 := 0) (rest := []) (rc h hI) trivial rfl Y_X11_fault (lw_inT l_L_98) in_X11_fault se_X11_fault (sh_k (hSh h hI) 0 11 (by decide) rfl) (by decide) rfl rfl (by decide) hl.1 (show cells + 0 ≤ 600000 by omega) (show slots + 0 ≤ 7302250 by omega) (by decide) dL_law_845 ?_
  rintro _ h1 σ1 H1 locs1 ⟨v, rfl, hs1, hM⟩ S1 e1 x1
  have hx0 := (hSh h hI).2.2
  have hl1 : lv_has ls 4 [(0, .ref b), (1, .ref (σ1 0)), (2, .ref (σ1 82)), (3, .int (nI j))] := by rw [e1 0 (by omega), e1 82 (by omega)]; exact hl
  refine lv_aload_n C.1 C.2.1 dL_law_848 rfl (lv_at hl1 2 rfl) ?_
  refine lw_callV C S1 (As := []) (b0 := 82) (rest := [.int v]) hM trivial rfl Y_X12_fault (lw_inT l_L_101) in_X12_fault se_X12_fault (sh_k hs1 82 12 (by decide) rfl) (by decide) rfl rfl (by decide) hl.1 (show cells + 0 + 0 ≤ 600000 by omega) (show slots + 0 + 0 ≤ 7302250 by omega) (Nat.le_of_ble_eq_true rfl) dL_law_849 ?_
  rintro _ h2 σ2 H2 locs2 ⟨w, rfl, hvw, hI2⟩ S2 e2 x2
  refine lv_icmp_eq (x := v) (y := w) (tgt := 1606) C.1 C.2.1 dL_law_852 (by decide) (fun _ => ?_) (fun q => absurd hvw q)
  exact W.widen (k := cells + 40) (n := slots + 11900) (show cells + 0 + 0 ≤ cells + 40 by omega) (show slots + 0 + 0 ≤ slots + 11900 by omega) (kk h2 σ2 H2 locs2 hI2 S2 ((e2 0 (by omega)).trans (e1 0 (by omega))) ((e2 82 (by omega)).trans (e1 82 (by omega))))
set_option maxRecDepth 20000 in
theorem lw_case_21 (C : lw_C p s m meth c g b L xs) (hSh : ∀ h, Inv h → Sh h) (rc : lw_RC Inv J mX11_stopped mX12_stopped []) (S : lw_S g s σ H locs h) (hI : Inv h) (hl : lv_has ls 4 [(0, .ref b), (1, .ref (σ 0)), (2, .ref (σ 82)), (3, .int (nI j))]) (hj : j + 6 ≤ L) (hL : L ≤ 3072) (hc : cells + 40 ≤ 600000) (hs : slots + 11900 ≤ 7302250)
    (kk : ∀ (h' : ah_T) (σ' : Nat → Nat) (H' : Heap) (locs' : List Loc), J h' → lw_S g s σ' H' locs' h' → σ' 0 = σ 0 → σ' 82 = σ 82 → W p l e room_1 s m #[Value.ref b] below meth c H' locs' (cells + 40) (slots + 11900) Qz (F0 m 1606 ls [])) : W p l e room_1 s m #[Value.ref b] below meth c H locs cells slots Qz (F0 m 857 ls []) := by
  refine lv_aload_n C.1 C.2.1 dL_law_857 rfl (lv_at hl 1 rfl) ?_
  refine lw_callV C S (As := []) (b0 := 0) (rest := []) (rc h hI) trivial rfl Y_X11_stopped (lw_inT l_L_102) in_X11_stopped se_X11_stopped (sh_k (hSh h hI) 0 11 (by decide) rfl) (by decide) rfl rfl (by decide) hl.1 (show cells + 0 ≤ 600000 by omega) (show slots + 0 ≤ 7302250 by omega) (by decide) dL_law_858 ?_
  rintro _ h1 σ1 H1 locs1 ⟨v, rfl, hs1, hM⟩ S1 e1 x1
  have hx0 := (hSh h hI).2.2
  have hl1 : lv_has ls 4 [(0, .ref b), (1, .ref (σ1 0)), (2, .ref (σ1 82)), (3, .int (nI j))] := by rw [e1 0 (by omega), e1 82 (by omega)]; exact hl
  refine lv_aload_n C.1 C.2.1 dL_law_861 rfl (lv_at hl1 2 rfl) ?_
  refine lw_callV C S1 (As := []) (b0 := 82) (rest := [.int v]) hM trivial rfl Y_X12_stopped (lw_inT l_L_105) in_X12_stopped se_X12_stopped (sh_k hs1 82 12 (by decide) rfl) (by decide) rfl rfl (by decide) hl.1 (show cells + 0 + 0 ≤ 600000 by omega) (show slots + 0 + 0 ≤ 7302250 by omega) (Nat.le_of_ble_eq_true rfl) dL_law_862 ?_
  rintro _ h2 σ2 H2 locs2 ⟨w, rfl, hvw, hI2⟩ S2 e2 x2
  refine lv_icmp_eq (x := v) (y := w) (tgt := 1606) C.1 C.2.1 dL_law_865 (by decide) (fun _ => ?_) (fun q => absurd hvw q)
  exact W.widen (k := cells + 40) (n := slots + 11900) (show cells + 0 + 0 ≤ cells + 40 by omega) (show slots + 0 + 0 ≤ slots + 11900 by omega) (kk h2 σ2 H2 locs2 hI2 S2 ((e2 0 (by omega)).trans (e1 0 (by omega))) ((e2 82 (by omega)).trans (e1 82 (by omega))))
set_option maxRecDepth 20000 in
theorem lw_case_22 (C : lw_C p s m meth c g b L xs) (hSh : ∀ h, Inv h → Sh h) (rc : ∀ a0 : Int32, lw_RC Inv J mX11_force mX12_force [.int a0]) (S : lw_S g s σ H locs h) (hI : Inv h) (hl : lv_has ls 4 [(0, .ref b), (1, .ref (σ 0)), (2, .ref (σ 82)), (3, .int (nI j))]) (hj : j + 6 ≤ L) (hL : L ≤ 3072) (hc : cells + 40 ≤ 600000) (hs : slots + 11900 ≤ 7302250)
    (kk : ∀ (h' : ah_T) (σ' : Nat → Nat) (H' : Heap) (locs' : List Loc), J h' → lw_S g s σ' H' locs' h' → σ' 0 = σ 0 → σ' 82 = σ 82 → W p l e room_1 s m #[Value.ref b] below meth c H' locs' (cells + 40) (slots + 11900) Qz (F0 m 1606 ls [])) : W p l e room_1 s m #[Value.ref b] below meth c H locs cells slots Qz (F0 m 870 ls []) := by
  refine lv_aload_n C.1 C.2.1 dL_law_870 rfl (lv_at hl 1 rfl) ?_
  refine lv_aload_n C.1 C.2.1 dL_law_871 rfl (lv_at hl 0 rfl) ?_
  refine lv_iload_n C.1 C.2.1 dL_law_872 rfl (lv_at hl 3 rfl) ?_
  refine lv_iconst (v := 1) C.1 C.2.1 dL_law_873 (by decide) ?_
  refine lv_iadd C.1 C.2.1 dL_law_874 ?_
  refine lw_sld C S (show vp_in (nI j + 1) L from lw_ix (k := 1) (by omega) hL) dL_law_875 ?_
  refine lw_callV C S (As := [.int (xs (nI j + 1).toNatClampNeg)]) (b0 := 0) (rest := []) (rc (xs (nI j + 1).toNatClampNeg) h hI) ⟨trivial, trivial⟩ rfl Y_X11_force (lw_inT l_L_106) in_X11_force se_X11_force (sh_k (hSh h hI) 0 11 (by decide) rfl) (by decide) rfl rfl (by decide) hl.1 (show cells + 0 ≤ 600000 by omega) (show slots + 0 ≤ 7302250 by omega) (by decide) dL_law_876 ?_
  rintro _ h1 σ1 H1 locs1 ⟨v, rfl, hs1, hM⟩ S1 e1 x1
  have hx0 := (hSh h hI).2.2
  have hl1 : lv_has ls 4 [(0, .ref b), (1, .ref (σ1 0)), (2, .ref (σ1 82)), (3, .int (nI j))] := by rw [e1 0 (by omega), e1 82 (by omega)]; exact hl
  refine lv_aload_n C.1 C.2.1 dL_law_879 rfl (lv_at hl1 2 rfl) ?_
  refine lv_aload_n C.1 C.2.1 dL_law_880 rfl (lv_at hl1 0 rfl) ?_
  refine lv_iload_n C.1 C.2.1 dL_law_881 rfl (lv_at hl1 3 rfl) ?_
  refine lv_iconst (v := 1) C.1 C.2.1 dL_law_882 (by decide) ?_
  refine lv_iadd C.1 C.2.1 dL_law_883 ?_
  refine lw_sld C S1 (show vp_in (nI j + 1) L from lw_ix (k := 1) (by omega) hL) dL_law_884 ?_
  refine lw_callV C S1 (As := [.int (xs (nI j + 1).toNatClampNeg)]) (b0 := 82) (rest := [.int v]) hM ⟨trivial, trivial⟩ rfl Y_X12_force (lw_inT l_L_109) in_X12_force se_X12_force (sh_k hs1 82 12 (by decide) rfl) (by decide) rfl rfl (by decide) hl.1 (show cells + 0 + 0 ≤ 600000 by omega) (show slots + 0 + 0 ≤ 7302250 by omega) (Nat.le_of_ble_eq_true rfl) dL_law_885 ?_
  rintro _ h2 σ2 H2 locs2 ⟨w, rfl, hvw, hI2⟩ S2 e2 x2
  refine lv_icmp_eq (x := v) (y := w) (tgt := 1606) C.1 C.2.1 dL_law_888 (by decide) (fun _ => ?_) (fun q => absurd hvw q)
  exact W.widen (k := cells + 40) (n := slots + 11900) (show cells + 0 + 0 ≤ cells + 40 by omega) (show slots + 0 + 0 ≤ slots + 11900 by omega) (kk h2 σ2 H2 locs2 hI2 S2 ((e2 0 (by omega)).trans (e1 0 (by omega))) ((e2 82 (by omega)).trans (e1 82 (by omega))))
set_option maxRecDepth 20000 in
theorem lw_case_23 (C : lw_C p s m meth c g b L xs) (hSh : ∀ h, Inv h → Sh h) (rc : ∀ a0 a1 a2 a3 : Int32, lw_RC Inv J mX11_asks mX12_asks [.int a0, .int a1, .int a2, .int a3]) (S : lw_S g s σ H locs h) (hI : Inv h) (hl : lv_has ls 4 [(0, .ref b), (1, .ref (σ 0)), (2, .ref (σ 82)), (3, .int (nI j))]) (hj : j + 6 ≤ L) (hL : L ≤ 3072) (hc : cells + 40 ≤ 600000) (hs : slots + 11900 ≤ 7302250)
    (kk : ∀ (h' : ah_T) (σ' : Nat → Nat) (H' : Heap) (locs' : List Loc), J h' → lw_S g s σ' H' locs' h' → σ' 0 = σ 0 → σ' 82 = σ 82 → W p l e room_1 s m #[Value.ref b] below meth c H' locs' (cells + 40) (slots + 11900) Qz (F0 m 1606 ls [])) : W p l e room_1 s m #[Value.ref b] below meth c H locs cells slots Qz (F0 m 893 ls []) := by
  refine lv_aload_n C.1 C.2.1 dL_law_893 rfl (lv_at hl 1 rfl) ?_
  refine lv_aload_n C.1 C.2.1 dL_law_894 rfl (lv_at hl 0 rfl) ?_
  refine lv_iload_n C.1 C.2.1 dL_law_895 rfl (lv_at hl 3 rfl) ?_
  refine lv_iconst (v := 1) C.1 C.2.1 dL_law_896 (by decide) ?_
  refine lv_iadd C.1 C.2.1 dL_law_897 ?_
  refine lw_sld C S (show vp_in (nI j + 1) L from lw_ix (k := 1) (by omega) hL) dL_law_898 ?_
  refine lv_aload_n C.1 C.2.1 dL_law_899 rfl (lv_at hl 0 rfl) ?_
  refine lv_iload_n C.1 C.2.1 dL_law_900 rfl (lv_at hl 3 rfl) ?_
  refine lv_iconst (v := 2) C.1 C.2.1 dL_law_901 (by decide) ?_
  refine lv_iadd C.1 C.2.1 dL_law_902 ?_
  refine lw_sld C S (show vp_in (nI j + 2) L from lw_ix (k := 2) (by omega) hL) dL_law_903 ?_
  refine lv_aload_n C.1 C.2.1 dL_law_904 rfl (lv_at hl 0 rfl) ?_
  refine lv_iload_n C.1 C.2.1 dL_law_905 rfl (lv_at hl 3 rfl) ?_
  refine lv_iconst (v := 3) C.1 C.2.1 dL_law_906 (by decide) ?_
  refine lv_iadd C.1 C.2.1 dL_law_907 ?_
  refine lw_sld C S (show vp_in (nI j + 3) L from lw_ix (k := 3) (by omega) hL) dL_law_908 ?_
  refine lv_aload_n C.1 C.2.1 dL_law_909 rfl (lv_at hl 0 rfl) ?_
  refine lv_iload_n C.1 C.2.1 dL_law_910 rfl (lv_at hl 3 rfl) ?_
  refine lv_iconst (v := 4) C.1 C.2.1 dL_law_911 (by decide) ?_
  refine lv_iadd C.1 C.2.1 dL_law_912 ?_
  refine lw_sld C S (show vp_in (nI j + 4) L from lw_ix (k := 4) (by omega) hL) dL_law_913 ?_
  refine lw_callV C S (As := [.int (xs (nI j + 1).toNatClampNeg), .int (xs (nI j + 2).toNatClampNeg), .int (xs (nI j + 3).toNatClampNeg), .int (xs (nI j + 4).toNatClampNeg)]) (b0 := 0) (rest := []) (rc (xs (nI j + 1).toNatClampNeg) (xs (nI j + 2).toNatClampNeg) (xs (nI j + 3).toNatClampNeg) (xs (nI j + 4).toNatClampNeg) h hI) ⟨trivial, ⟨trivial, ⟨trivial, ⟨trivial, trivial⟩⟩⟩⟩ rfl Y_X11_asks (lw_inT l_L_110) in_X11_asks se_X11_asks (sh_k (hSh h hI) 0 11 (by decide) rfl) (by decide) rfl rfl (by decide) hl.1 (show cells + 0 ≤ 600000 by omega) (show slots + 0 ≤ 7302250 by omega) (by decide) dL_law_914 ?_
  rintro _ h1 σ1 H1 locs1 ⟨v, rfl, hs1, hM⟩ S1 e1 x1
  have hx0 := (hSh h hI).2.2
  have hl1 : lv_has ls 4 [(0, .ref b), (1, .ref (σ1 0)), (2, .ref (σ1 82)), (3, .int (nI j))] := by rw [e1 0 (by omega), e1 82 (by omega)]; exact hl
  refine lv_aload_n C.1 C.2.1 dL_law_917 rfl (lv_at hl1 2 rfl) ?_
  refine lv_aload_n C.1 C.2.1 dL_law_918 rfl (lv_at hl1 0 rfl) ?_
  refine lv_iload_n C.1 C.2.1 dL_law_919 rfl (lv_at hl1 3 rfl) ?_
  refine lv_iconst (v := 1) C.1 C.2.1 dL_law_920 (by decide) ?_
  refine lv_iadd C.1 C.2.1 dL_law_921 ?_
  refine lw_sld C S1 (show vp_in (nI j + 1) L from lw_ix (k := 1) (by omega) hL) dL_law_922 ?_
  refine lv_aload_n C.1 C.2.1 dL_law_923 rfl (lv_at hl1 0 rfl) ?_
  refine lv_iload_n C.1 C.2.1 dL_law_924 rfl (lv_at hl1 3 rfl) ?_
  refine lv_iconst (v := 2) C.1 C.2.1 dL_law_925 (by decide) ?_
  refine lv_iadd C.1 C.2.1 dL_law_926 ?_
  refine lw_sld C S1 (show vp_in (nI j + 2) L from lw_ix (k := 2) (by omega) hL) dL_law_927 ?_
  refine lv_aload_n C.1 C.2.1 dL_law_928 rfl (lv_at hl1 0 rfl) ?_
  refine lv_iload_n C.1 C.2.1 dL_law_929 rfl (lv_at hl1 3 rfl) ?_
  refine lv_iconst (v := 3) C.1 C.2.1 dL_law_930 (by decide) ?_
  refine lv_iadd C.1 C.2.1 dL_law_931 ?_
  refine lw_sld C S1 (show vp_in (nI j + 3) L from lw_ix (k := 3) (by omega) hL) dL_law_932 ?_
  refine lv_aload_n C.1 C.2.1 dL_law_933 rfl (lv_at hl1 0 rfl) ?_
  refine lv_iload_n C.1 C.2.1 dL_law_934 rfl (lv_at hl1 3 rfl) ?_
  refine lv_iconst (v := 4) C.1 C.2.1 dL_law_935 (by decide) ?_
  refine lv_iadd C.1 C.2.1 dL_law_936 ?_
  refine lw_sld C S1 (show vp_in (nI j + 4) L from lw_ix (k := 4) (by omega) hL) dL_law_937 ?_
  refine lw_callV C S1 (As := [.int (xs (nI j + 1).toNatClampNeg), .int (xs (nI j + 2).toNatClampNeg), .int (xs (nI j + 3).toNatClampNeg), .int (xs (nI j + 4).toNatClampNeg)]) (b0 := 82) (rest := [.int v]) hM ⟨trivial, ⟨trivial, ⟨trivial, ⟨trivial, trivial⟩⟩⟩⟩ rfl Y_X12_asks (lw_inT l_L_114) in_X12_asks se_X12_asks (sh_k hs1 82 12 (by decide) rfl) (by decide) rfl rfl (by decide) hl.1 (show cells + 0 + 0 ≤ 600000 by omega) (show slots + 0 + 0 ≤ 7302250 by omega) (Nat.le_of_ble_eq_true rfl) dL_law_938 ?_
  rintro _ h2 σ2 H2 locs2 ⟨w, rfl, hvw, hI2⟩ S2 e2 x2
  refine lv_icmp_eq (x := v) (y := w) (tgt := 1606) C.1 C.2.1 dL_law_941 (by decide) (fun _ => ?_) (fun q => absurd hvw q)
  exact W.widen (k := cells + 40) (n := slots + 11900) (show cells + 0 + 0 ≤ cells + 40 by omega) (show slots + 0 + 0 ≤ slots + 11900 by omega) (kk h2 σ2 H2 locs2 hI2 S2 ((e2 0 (by omega)).trans (e1 0 (by omega))) ((e2 82 (by omega)).trans (e1 82 (by omega))))
set_option maxRecDepth 20000 in
theorem lw_case_24 (C : lw_C p s m meth c g b L xs) (hSh : ∀ h, Inv h → Sh h) (rc : ∀ a0 a1 a2 : Int32, lw_RC Inv J mX11_burns mX12_burns [.int a0, .int a1, .int a2]) (S : lw_S g s σ H locs h) (hI : Inv h) (hl : lv_has ls 4 [(0, .ref b), (1, .ref (σ 0)), (2, .ref (σ 82)), (3, .int (nI j))]) (hj : j + 6 ≤ L) (hL : L ≤ 3072) (hc : cells + 40 ≤ 600000) (hs : slots + 11900 ≤ 7302250)
    (kk : ∀ (h' : ah_T) (σ' : Nat → Nat) (H' : Heap) (locs' : List Loc), J h' → lw_S g s σ' H' locs' h' → σ' 0 = σ 0 → σ' 82 = σ 82 → W p l e room_1 s m #[Value.ref b] below meth c H' locs' (cells + 40) (slots + 11900) Qz (F0 m 1606 ls [])) : W p l e room_1 s m #[Value.ref b] below meth c H locs cells slots Qz (F0 m 946 ls []) := by
  refine lv_aload_n C.1 C.2.1 dL_law_946 rfl (lv_at hl 1 rfl) ?_
  refine lv_aload_n C.1 C.2.1 dL_law_947 rfl (lv_at hl 0 rfl) ?_
  refine lv_iload_n C.1 C.2.1 dL_law_948 rfl (lv_at hl 3 rfl) ?_
  refine lv_iconst (v := 1) C.1 C.2.1 dL_law_949 (by decide) ?_
  refine lv_iadd C.1 C.2.1 dL_law_950 ?_
  refine lw_sld C S (show vp_in (nI j + 1) L from lw_ix (k := 1) (by omega) hL) dL_law_951 ?_
  refine lv_aload_n C.1 C.2.1 dL_law_952 rfl (lv_at hl 0 rfl) ?_
  refine lv_iload_n C.1 C.2.1 dL_law_953 rfl (lv_at hl 3 rfl) ?_
  refine lv_iconst (v := 2) C.1 C.2.1 dL_law_954 (by decide) ?_
  refine lv_iadd C.1 C.2.1 dL_law_955 ?_
  refine lw_sld C S (show vp_in (nI j + 2) L from lw_ix (k := 2) (by omega) hL) dL_law_956 ?_
  refine lv_aload_n C.1 C.2.1 dL_law_957 rfl (lv_at hl 0 rfl) ?_
  refine lv_iload_n C.1 C.2.1 dL_law_958 rfl (lv_at hl 3 rfl) ?_
  refine lv_iconst (v := 3) C.1 C.2.1 dL_law_959 (by decide) ?_
  refine lv_iadd C.1 C.2.1 dL_law_960 ?_
  refine lw_sld C S (show vp_in (nI j + 3) L from lw_ix (k := 3) (by omega) hL) dL_law_961 ?_
  refine lw_callV C S (As := [.int (xs (nI j + 1).toNatClampNeg), .int (xs (nI j + 2).toNatClampNeg), .int (xs (nI j + 3).toNatClampNeg)]) (b0 := 0) (rest := []) (rc (xs (nI j + 1).toNatClampNeg) (xs (nI j + 2).toNatClampNeg) (xs (nI j + 3).toNatClampNeg) h hI) ⟨trivial, ⟨trivial, ⟨trivial, trivial⟩⟩⟩ rfl Y_X11_burns (lw_inT l_L_115) in_X11_burns se_X11_burns (sh_k (hSh h hI) 0 11 (by decide) rfl) (by decide) rfl rfl (by decide) hl.1 (show cells + 0 ≤ 600000 by omega) (show slots + 0 ≤ 7302250 by omega) (by decide) dL_law_962 ?_
  rintro _ h1 σ1 H1 locs1 ⟨v, rfl, hs1, hM⟩ S1 e1 x1
  have hx0 := (hSh h hI).2.2
  have hl1 : lv_has ls 4 [(0, .ref b), (1, .ref (σ1 0)), (2, .ref (σ1 82)), (3, .int (nI j))] := by rw [e1 0 (by omega), e1 82 (by omega)]; exact hl
  refine lv_aload_n C.1 C.2.1 dL_law_965 rfl (lv_at hl1 2 rfl) ?_
  refine lv_aload_n C.1 C.2.1 dL_law_966 rfl (lv_at hl1 0 rfl) ?_
  refine lv_iload_n C.1 C.2.1 dL_law_967 rfl (lv_at hl1 3 rfl) ?_
  refine lv_iconst (v := 1) C.1 C.2.1 dL_law_968 (by decide) ?_
  refine lv_iadd C.1 C.2.1 dL_law_969 ?_
  refine lw_sld C S1 (show vp_in (nI j + 1) L from lw_ix (k := 1) (by omega) hL) dL_law_970 ?_
  refine lv_aload_n C.1 C.2.1 dL_law_971 rfl (lv_at hl1 0 rfl) ?_
  refine lv_iload_n C.1 C.2.1 dL_law_972 rfl (lv_at hl1 3 rfl) ?_
  refine lv_iconst (v := 2) C.1 C.2.1 dL_law_973 (by decide) ?_
  refine lv_iadd C.1 C.2.1 dL_law_974 ?_
  refine lw_sld C S1 (show vp_in (nI j + 2) L from lw_ix (k := 2) (by omega) hL) dL_law_975 ?_
  refine lv_aload_n C.1 C.2.1 dL_law_976 rfl (lv_at hl1 0 rfl) ?_
  refine lv_iload_n C.1 C.2.1 dL_law_977 rfl (lv_at hl1 3 rfl) ?_
  refine lv_iconst (v := 3) C.1 C.2.1 dL_law_978 (by decide) ?_
  refine lv_iadd C.1 C.2.1 dL_law_979 ?_
  refine lw_sld C S1 (show vp_in (nI j + 3) L from lw_ix (k := 3) (by omega) hL) dL_law_980 ?_
  refine lw_callV C S1 (As := [.int (xs (nI j + 1).toNatClampNeg), .int (xs (nI j + 2).toNatClampNeg), .int (xs (nI j + 3).toNatClampNeg)]) (b0 := 82) (rest := [.int v]) hM ⟨trivial, ⟨trivial, ⟨trivial, trivial⟩⟩⟩ rfl Y_X12_burns (lw_inT l_L_118) in_X12_burns se_X12_burns (sh_k hs1 82 12 (by decide) rfl) (by decide) rfl rfl (by decide) hl.1 (show cells + 0 + 0 ≤ 600000 by omega) (show slots + 0 + 0 ≤ 7302250 by omega) (Nat.le_of_ble_eq_true rfl) dL_law_981 ?_
  rintro _ h2 σ2 H2 locs2 ⟨w, rfl, hvw, hI2⟩ S2 e2 x2
  refine lv_icmp_eq (x := v) (y := w) (tgt := 1606) C.1 C.2.1 dL_law_984 (by decide) (fun _ => ?_) (fun q => absurd hvw q)
  exact W.widen (k := cells + 40) (n := slots + 11900) (show cells + 0 + 0 ≤ cells + 40 by omega) (show slots + 0 + 0 ≤ slots + 11900 by omega) (kk h2 σ2 H2 locs2 hI2 S2 ((e2 0 (by omega)).trans (e1 0 (by omega))) ((e2 82 (by omega)).trans (e1 82 (by omega))))
set_option maxRecDepth 20000 in
theorem lw_case_25 (C : lw_C p s m meth c g b L xs) (hSh : ∀ h, Inv h → Sh h) (rc : ∀ a0 : Int32, lw_RC Inv J mX11_bright mX12_bright [.int a0]) (S : lw_S g s σ H locs h) (hI : Inv h) (hl : lv_has ls 4 [(0, .ref b), (1, .ref (σ 0)), (2, .ref (σ 82)), (3, .int (nI j))]) (hj : j + 6 ≤ L) (hL : L ≤ 3072) (hc : cells + 40 ≤ 600000) (hs : slots + 11900 ≤ 7302250)
    (kk : ∀ (h' : ah_T) (σ' : Nat → Nat) (H' : Heap) (locs' : List Loc), J h' → lw_S g s σ' H' locs' h' → σ' 0 = σ 0 → σ' 82 = σ 82 → W p l e room_1 s m #[Value.ref b] below meth c H' locs' (cells + 40) (slots + 11900) Qz (F0 m 1606 ls [])) : W p l e room_1 s m #[Value.ref b] below meth c H locs cells slots Qz (F0 m 989 ls []) := by
  refine lv_aload_n C.1 C.2.1 dL_law_989 rfl (lv_at hl 1 rfl) ?_
  refine lv_aload_n C.1 C.2.1 dL_law_990 rfl (lv_at hl 0 rfl) ?_
  refine lv_iload_n C.1 C.2.1 dL_law_991 rfl (lv_at hl 3 rfl) ?_
  refine lv_iconst (v := 1) C.1 C.2.1 dL_law_992 (by decide) ?_
  refine lv_iadd C.1 C.2.1 dL_law_993 ?_
  refine lw_sld C S (show vp_in (nI j + 1) L from lw_ix (k := 1) (by omega) hL) dL_law_994 ?_
  refine lw_callV C S (As := [.int (xs (nI j + 1).toNatClampNeg)]) (b0 := 0) (rest := []) (rc (xs (nI j + 1).toNatClampNeg) h hI) ⟨trivial, trivial⟩ rfl Y_X11_bright (lw_inT l_L_119) in_X11_bright se_X11_bright (sh_k (hSh h hI) 0 11 (by decide) rfl) (by decide) rfl rfl (by decide) hl.1 (show cells + 0 ≤ 600000 by omega) (show slots + 0 ≤ 7302250 by omega) (by decide) dL_law_995 ?_
  rintro _ h1 σ1 H1 locs1 ⟨v, rfl, hs1, hM⟩ S1 e1 x1
  have hx0 := (hSh h hI).2.2
  have hl1 : lv_has ls 4 [(0, .ref b), (1, .ref (σ1 0)), (2, .ref (σ1 82)), (3, .int (nI j))] := by rw [e1 0 (by omega), e1 82 (by omega)]; exact hl
  refine lv_aload_n C.1 C.2.1 dL_law_998 rfl (lv_at hl1 2 rfl) ?_
  refine lv_aload_n C.1 C.2.1 dL_law_999 rfl (lv_at hl1 0 rfl) ?_
  refine lv_iload_n C.1 C.2.1 dL_law_1000 rfl (lv_at hl1 3 rfl) ?_
  refine lv_iconst (v := 1) C.1 C.2.1 dL_law_1001 (by decide) ?_
  refine lv_iadd C.1 C.2.1 dL_law_1002 ?_
  refine lw_sld C S1 (show vp_in (nI j + 1) L from lw_ix (k := 1) (by omega) hL) dL_law_1003 ?_
  refine lw_callV C S1 (As := [.int (xs (nI j + 1).toNatClampNeg)]) (b0 := 82) (rest := [.int v]) hM ⟨trivial, trivial⟩ rfl Y_X12_bright (lw_inT l_L_122) in_X12_bright se_X12_bright (sh_k hs1 82 12 (by decide) rfl) (by decide) rfl rfl (by decide) hl.1 (show cells + 0 + 0 ≤ 600000 by omega) (show slots + 0 + 0 ≤ 7302250 by omega) (Nat.le_of_ble_eq_true rfl) dL_law_1004 ?_
  rintro _ h2 σ2 H2 locs2 ⟨w, rfl, hvw, hI2⟩ S2 e2 x2
  refine lv_icmp_eq (x := v) (y := w) (tgt := 1606) C.1 C.2.1 dL_law_1007 (by decide) (fun _ => ?_) (fun q => absurd hvw q)
  exact W.widen (k := cells + 40) (n := slots + 11900) (show cells + 0 + 0 ≤ cells + 40 by omega) (show slots + 0 + 0 ≤ slots + 11900 by omega) (kk h2 σ2 H2 locs2 hI2 S2 ((e2 0 (by omega)).trans (e1 0 (by omega))) ((e2 82 (by omega)).trans (e1 82 (by omega))))
set_option maxRecDepth 20000 in
theorem lw_case_26 (C : lw_C p s m meth c g b L xs) (hSh : ∀ h, Inv h → Sh h) (rc : ∀ a0 a1 : Int32, lw_RC Inv J mX11_night mX12_night [.int a0, .int a1]) (S : lw_S g s σ H locs h) (hI : Inv h) (hl : lv_has ls 4 [(0, .ref b), (1, .ref (σ 0)), (2, .ref (σ 82)), (3, .int (nI j))]) (hj : j + 6 ≤ L) (hL : L ≤ 3072) (hc : cells + 40 ≤ 600000) (hs : slots + 11900 ≤ 7302250)
    (kk : ∀ (h' : ah_T) (σ' : Nat → Nat) (H' : Heap) (locs' : List Loc), J h' → lw_S g s σ' H' locs' h' → σ' 0 = σ 0 → σ' 82 = σ 82 → W p l e room_1 s m #[Value.ref b] below meth c H' locs' (cells + 40) (slots + 11900) Qz (F0 m 1606 ls [])) : W p l e room_1 s m #[Value.ref b] below meth c H locs cells slots Qz (F0 m 1012 ls []) := by
  refine lv_aload_n C.1 C.2.1 dL_law_1012 rfl (lv_at hl 1 rfl) ?_
  refine lv_aload_n C.1 C.2.1 dL_law_1013 rfl (lv_at hl 0 rfl) ?_
  refine lv_iload_n C.1 C.2.1 dL_law_1014 rfl (lv_at hl 3 rfl) ?_
  refine lv_iconst (v := 1) C.1 C.2.1 dL_law_1015 (by decide) ?_
  refine lv_iadd C.1 C.2.1 dL_law_1016 ?_
  refine lw_sld C S (show vp_in (nI j + 1) L from lw_ix (k := 1) (by omega) hL) dL_law_1017 ?_
  refine lv_aload_n C.1 C.2.1 dL_law_1018 rfl (lv_at hl 0 rfl) ?_
  refine lv_iload_n C.1 C.2.1 dL_law_1019 rfl (lv_at hl 3 rfl) ?_
  refine lv_iconst (v := 2) C.1 C.2.1 dL_law_1020 (by decide) ?_
  refine lv_iadd C.1 C.2.1 dL_law_1021 ?_
  refine lw_sld C S (show vp_in (nI j + 2) L from lw_ix (k := 2) (by omega) hL) dL_law_1022 ?_
  refine lw_callV C S (As := [.int (xs (nI j + 1).toNatClampNeg), .int (xs (nI j + 2).toNatClampNeg)]) (b0 := 0) (rest := []) (rc (xs (nI j + 1).toNatClampNeg) (xs (nI j + 2).toNatClampNeg) h hI) ⟨trivial, ⟨trivial, trivial⟩⟩ rfl Y_X11_night (lw_inT l_L_123) in_X11_night se_X11_night (sh_k (hSh h hI) 0 11 (by decide) rfl) (by decide) rfl rfl (by decide) hl.1 (show cells + 0 ≤ 600000 by omega) (show slots + 0 ≤ 7302250 by omega) (by decide) dL_law_1023 ?_
  rintro _ h1 σ1 H1 locs1 ⟨v, rfl, hs1, hM⟩ S1 e1 x1
  have hx0 := (hSh h hI).2.2
  have hl1 : lv_has ls 4 [(0, .ref b), (1, .ref (σ1 0)), (2, .ref (σ1 82)), (3, .int (nI j))] := by rw [e1 0 (by omega), e1 82 (by omega)]; exact hl
  refine lv_aload_n C.1 C.2.1 dL_law_1026 rfl (lv_at hl1 2 rfl) ?_
  refine lv_aload_n C.1 C.2.1 dL_law_1027 rfl (lv_at hl1 0 rfl) ?_
  refine lv_iload_n C.1 C.2.1 dL_law_1028 rfl (lv_at hl1 3 rfl) ?_
  refine lv_iconst (v := 1) C.1 C.2.1 dL_law_1029 (by decide) ?_
  refine lv_iadd C.1 C.2.1 dL_law_1030 ?_
  refine lw_sld C S1 (show vp_in (nI j + 1) L from lw_ix (k := 1) (by omega) hL) dL_law_1031 ?_
  refine lv_aload_n C.1 C.2.1 dL_law_1032 rfl (lv_at hl1 0 rfl) ?_
  refine lv_iload_n C.1 C.2.1 dL_law_1033 rfl (lv_at hl1 3 rfl) ?_
  refine lv_iconst (v := 2) C.1 C.2.1 dL_law_1034 (by decide) ?_
  refine lv_iadd C.1 C.2.1 dL_law_1035 ?_
  refine lw_sld C S1 (show vp_in (nI j + 2) L from lw_ix (k := 2) (by omega) hL) dL_law_1036 ?_
  refine lw_callV C S1 (As := [.int (xs (nI j + 1).toNatClampNeg), .int (xs (nI j + 2).toNatClampNeg)]) (b0 := 82) (rest := [.int v]) hM ⟨trivial, ⟨trivial, trivial⟩⟩ rfl Y_X12_night (lw_inT l_L_126) in_X12_night se_X12_night (sh_k hs1 82 12 (by decide) rfl) (by decide) rfl rfl (by decide) hl.1 (show cells + 0 + 0 ≤ 600000 by omega) (show slots + 0 + 0 ≤ 7302250 by omega) (Nat.le_of_ble_eq_true rfl) dL_law_1037 ?_
  rintro _ h2 σ2 H2 locs2 ⟨w, rfl, hvw, hI2⟩ S2 e2 x2
  refine lv_icmp_eq (x := v) (y := w) (tgt := 1606) C.1 C.2.1 dL_law_1040 (by decide) (fun _ => ?_) (fun q => absurd hvw q)
  exact W.widen (k := cells + 40) (n := slots + 11900) (show cells + 0 + 0 ≤ cells + 40 by omega) (show slots + 0 + 0 ≤ slots + 11900 by omega) (kk h2 σ2 H2 locs2 hI2 S2 ((e2 0 (by omega)).trans (e1 0 (by omega))) ((e2 82 (by omega)).trans (e1 82 (by omega))))
set_option maxRecDepth 20000 in
theorem lw_case_27 (C : lw_C p s m meth c g b L xs) (hSh : ∀ h, Inv h → Sh h) (rc : ∀ a0 : Int32, lw_RC Inv J mX11_judge mX12_judge [.int a0]) (S : lw_S g s σ H locs h) (hI : Inv h) (hl : lv_has ls 4 [(0, .ref b), (1, .ref (σ 0)), (2, .ref (σ 82)), (3, .int (nI j))]) (hj : j + 6 ≤ L) (hL : L ≤ 3072) (hc : cells + 40 ≤ 600000) (hs : slots + 11900 ≤ 7302250)
    (kk : ∀ (h' : ah_T) (σ' : Nat → Nat) (H' : Heap) (locs' : List Loc), J h' → lw_S g s σ' H' locs' h' → σ' 0 = σ 0 → σ' 82 = σ 82 → W p l e room_1 s m #[Value.ref b] below meth c H' locs' (cells + 40) (slots + 11900) Qz (F0 m 1606 ls [])) : W p l e room_1 s m #[Value.ref b] below meth c H locs cells slots Qz (F0 m 1045 ls []) := by
  refine lv_aload_n C.1 C.2.1 dL_law_1045 rfl (lv_at hl 1 rfl) ?_
  refine lv_aload_n C.1 C.2.1 dL_law_1046 rfl (lv_at hl 0 rfl) ?_
  refine lv_iload_n C.1 C.2.1 dL_law_1047 rfl (lv_at hl 3 rfl) ?_
  refine lv_iconst (v := 1) C.1 C.2.1 dL_law_1048 (by decide) ?_
  refine lv_iadd C.1 C.2.1 dL_law_1049 ?_
  refine lw_sld C S (show vp_in (nI j + 1) L from lw_ix (k := 1) (by omega) hL) dL_law_1050 ?_
  refine lw_callV C S (As := [.int (xs (nI j + 1).toNatClampNeg)]) (b0 := 0) (rest := []) (rc (xs (nI j + 1).toNatClampNeg) h hI) ⟨trivial, trivial⟩ rfl Y_X11_judge (lw_inT l_L_127) in_X11_judge se_X11_judge (sh_k (hSh h hI) 0 11 (by decide) rfl) (by decide) rfl rfl (by decide) hl.1 (show cells + 0 ≤ 600000 by omega) (show slots + 0 ≤ 7302250 by omega) (by decide) dL_law_1051 ?_
  rintro _ h1 σ1 H1 locs1 ⟨v, rfl, hs1, hM⟩ S1 e1 x1
  have hx0 := (hSh h hI).2.2
  have hl1 : lv_has ls 4 [(0, .ref b), (1, .ref (σ1 0)), (2, .ref (σ1 82)), (3, .int (nI j))] := by rw [e1 0 (by omega), e1 82 (by omega)]; exact hl
  refine lv_aload_n C.1 C.2.1 dL_law_1054 rfl (lv_at hl1 2 rfl) ?_
  refine lv_aload_n C.1 C.2.1 dL_law_1055 rfl (lv_at hl1 0 rfl) ?_
  refine lv_iload_n C.1 C.2.1 dL_law_1056 rfl (lv_at hl1 3 rfl) ?_
  refine lv_iconst (v := 1) C.1 C.2.1 dL_law_1057 (by decide) ?_
  refine lv_iadd C.1 C.2.1 dL_law_1058 ?_
  refine lw_sld C S1 (show vp_in (nI j + 1) L from lw_ix (k := 1) (by omega) hL) dL_law_1059 ?_
  refine lw_callV C S1 (As := [.int (xs (nI j + 1).toNatClampNeg)]) (b0 := 82) (rest := [.int v]) hM ⟨trivial, trivial⟩ rfl Y_X12_judge (lw_inT l_L_130) in_X12_judge se_X12_judge (sh_k hs1 82 12 (by decide) rfl) (by decide) rfl rfl (by decide) hl.1 (show cells + 0 + 0 ≤ 600000 by omega) (show slots + 0 + 0 ≤ 7302250 by omega) (Nat.le_of_ble_eq_true rfl) dL_law_1060 ?_
  rintro _ h2 σ2 H2 locs2 ⟨w, rfl, hvw, hI2⟩ S2 e2 x2
  refine lv_icmp_eq (x := v) (y := w) (tgt := 1606) C.1 C.2.1 dL_law_1063 (by decide) (fun _ => ?_) (fun q => absurd hvw q)
  exact W.widen (k := cells + 40) (n := slots + 11900) (show cells + 0 + 0 ≤ cells + 40 by omega) (show slots + 0 + 0 ≤ slots + 11900 by omega) (kk h2 σ2 H2 locs2 hI2 S2 ((e2 0 (by omega)).trans (e1 0 (by omega))) ((e2 82 (by omega)).trans (e1 82 (by omega))))
set_option maxRecDepth 20000 in
theorem lw_case_28 (C : lw_C p s m meth c g b L xs) (hSh : ∀ h, Inv h → Sh h) (rc : ∀ a0 a1 : Int32, lw_RC Inv J mX11_round mX12_round [.int a0, .int a1]) (S : lw_S g s σ H locs h) (hI : Inv h) (hl : lv_has ls 4 [(0, .ref b), (1, .ref (σ 0)), (2, .ref (σ 82)), (3, .int (nI j))]) (hj : j + 6 ≤ L) (hL : L ≤ 3072) (hc : cells + 40 ≤ 600000) (hs : slots + 11900 ≤ 7302250)
    (kk : ∀ (h' : ah_T) (σ' : Nat → Nat) (H' : Heap) (locs' : List Loc), J h' → lw_S g s σ' H' locs' h' → σ' 0 = σ 0 → σ' 82 = σ 82 → W p l e room_1 s m #[Value.ref b] below meth c H' locs' (cells + 40) (slots + 11900) Qz (F0 m 1606 ls [])) : W p l e room_1 s m #[Value.ref b] below meth c H locs cells slots Qz (F0 m 1068 ls []) := by
  refine lv_aload_n C.1 C.2.1 dL_law_1068 rfl (lv_at hl 1 rfl) ?_
  refine lv_aload_n C.1 C.2.1 dL_law_1069 rfl (lv_at hl 0 rfl) ?_
  refine lv_iload_n C.1 C.2.1 dL_law_1070 rfl (lv_at hl 3 rfl) ?_
  refine lv_iconst (v := 1) C.1 C.2.1 dL_law_1071 (by decide) ?_
  refine lv_iadd C.1 C.2.1 dL_law_1072 ?_
  refine lw_sld C S (show vp_in (nI j + 1) L from lw_ix (k := 1) (by omega) hL) dL_law_1073 ?_
  refine lv_aload_n C.1 C.2.1 dL_law_1074 rfl (lv_at hl 0 rfl) ?_
  refine lv_iload_n C.1 C.2.1 dL_law_1075 rfl (lv_at hl 3 rfl) ?_
  refine lv_iconst (v := 2) C.1 C.2.1 dL_law_1076 (by decide) ?_
  refine lv_iadd C.1 C.2.1 dL_law_1077 ?_
  refine lw_sld C S (show vp_in (nI j + 2) L from lw_ix (k := 2) (by omega) hL) dL_law_1078 ?_
  refine lw_callV C S (As := [.int (xs (nI j + 1).toNatClampNeg), .int (xs (nI j + 2).toNatClampNeg)]) (b0 := 0) (rest := []) (rc (xs (nI j + 1).toNatClampNeg) (xs (nI j + 2).toNatClampNeg) h hI) ⟨trivial, ⟨trivial, trivial⟩⟩ rfl Y_X11_round (lw_inT l_L_131) in_X11_round se_X11_round (sh_k (hSh h hI) 0 11 (by decide) rfl) (by decide) rfl rfl (by decide) hl.1 (show cells + 1 ≤ 600000 by omega) (show slots + 10240 ≤ 7302250 by omega) (by decide) dL_law_1079 ?_
  rintro _ h1 σ1 H1 locs1 ⟨v, rfl, hs1, hM⟩ S1 e1 x1
  have hx0 := (hSh h hI).2.2
  have hl1 : lv_has ls 4 [(0, .ref b), (1, .ref (σ1 0)), (2, .ref (σ1 82)), (3, .int (nI j))] := by rw [e1 0 (by omega), e1 82 (by omega)]; exact hl
  refine lv_aload_n C.1 C.2.1 dL_law_1082 rfl (lv_at hl1 2 rfl) ?_
  refine lv_aload_n C.1 C.2.1 dL_law_1083 rfl (lv_at hl1 0 rfl) ?_
  refine lv_iload_n C.1 C.2.1 dL_law_1084 rfl (lv_at hl1 3 rfl) ?_
  refine lv_iconst (v := 1) C.1 C.2.1 dL_law_1085 (by decide) ?_
  refine lv_iadd C.1 C.2.1 dL_law_1086 ?_
  refine lw_sld C S1 (show vp_in (nI j + 1) L from lw_ix (k := 1) (by omega) hL) dL_law_1087 ?_
  refine lv_aload_n C.1 C.2.1 dL_law_1088 rfl (lv_at hl1 0 rfl) ?_
  refine lv_iload_n C.1 C.2.1 dL_law_1089 rfl (lv_at hl1 3 rfl) ?_
  refine lv_iconst (v := 2) C.1 C.2.1 dL_law_1090 (by decide) ?_
  refine lv_iadd C.1 C.2.1 dL_law_1091 ?_
  refine lw_sld C S1 (show vp_in (nI j + 2) L from lw_ix (k := 2) (by omega) hL) dL_law_1092 ?_
  refine lw_callV C S1 (As := [.int (xs (nI j + 1).toNatClampNeg), .int (xs (nI j + 2).toNatClampNeg)]) (b0 := 82) (rest := [.int v]) hM ⟨trivial, ⟨trivial, trivial⟩⟩ rfl Y_X12_round (lw_inT l_L_134) in_X12_round se_X12_round (sh_k hs1 82 12 (by decide) rfl) (by decide) rfl rfl (by decide) hl.1 (show cells + 1 + 0 ≤ 600000 by omega) (show slots + 10240 + 0 ≤ 7302250 by omega) (Nat.le_of_ble_eq_true rfl) dL_law_1093 ?_
  rintro _ h2 σ2 H2 locs2 ⟨w, rfl, hvw, hI2⟩ S2 e2 x2
  refine lv_icmp_eq (x := v) (y := w) (tgt := 1606) C.1 C.2.1 dL_law_1096 (by decide) (fun _ => ?_) (fun q => absurd hvw q)
  exact W.widen (k := cells + 40) (n := slots + 11900) (show cells + 1 + 0 ≤ cells + 40 by omega) (show slots + 10240 + 0 ≤ slots + 11900 by omega) (kk h2 σ2 H2 locs2 hI2 S2 ((e2 0 (by omega)).trans (e1 0 (by omega))) ((e2 82 (by omega)).trans (e1 82 (by omega))))
set_option maxRecDepth 20000 in
theorem lw_case_29 (C : lw_C p s m meth c g b L xs) (hSh : ∀ h, Inv h → Sh h) (rc : ∀ a0 a1 a2 a3 a4 : Int32, lw_RC Inv J mX11_walk mX12_walk [.int a0, .int a1, .int a2, .int a3, .int a4]) (S : lw_S g s σ H locs h) (hI : Inv h) (hl : lv_has ls 4 [(0, .ref b), (1, .ref (σ 0)), (2, .ref (σ 82)), (3, .int (nI j))]) (hj : j + 6 ≤ L) (hL : L ≤ 3072) (hc : cells + 40 ≤ 600000) (hs : slots + 11900 ≤ 7302250)
    (kk : ∀ (h' : ah_T) (σ' : Nat → Nat) (H' : Heap) (locs' : List Loc), J h' → lw_S g s σ' H' locs' h' → σ' 0 = σ 0 → σ' 82 = σ 82 → W p l e room_1 s m #[Value.ref b] below meth c H' locs' (cells + 40) (slots + 11900) Qz (F0 m 1606 ls [])) : W p l e room_1 s m #[Value.ref b] below meth c H locs cells slots Qz (F0 m 1101 ls []) := by
  refine lv_aload_n C.1 C.2.1 dL_law_1101 rfl (lv_at hl 1 rfl) ?_
  refine lv_aload_n C.1 C.2.1 dL_law_1102 rfl (lv_at hl 0 rfl) ?_
  refine lv_iload_n C.1 C.2.1 dL_law_1103 rfl (lv_at hl 3 rfl) ?_
  refine lv_iconst (v := 1) C.1 C.2.1 dL_law_1104 (by decide) ?_
  refine lv_iadd C.1 C.2.1 dL_law_1105 ?_
  refine lw_sld C S (show vp_in (nI j + 1) L from lw_ix (k := 1) (by omega) hL) dL_law_1106 ?_
  refine lv_aload_n C.1 C.2.1 dL_law_1107 rfl (lv_at hl 0 rfl) ?_
  refine lv_iload_n C.1 C.2.1 dL_law_1108 rfl (lv_at hl 3 rfl) ?_
  refine lv_iconst (v := 2) C.1 C.2.1 dL_law_1109 (by decide) ?_
  refine lv_iadd C.1 C.2.1 dL_law_1110 ?_
  refine lw_sld C S (show vp_in (nI j + 2) L from lw_ix (k := 2) (by omega) hL) dL_law_1111 ?_
  refine lv_aload_n C.1 C.2.1 dL_law_1112 rfl (lv_at hl 0 rfl) ?_
  refine lv_iload_n C.1 C.2.1 dL_law_1113 rfl (lv_at hl 3 rfl) ?_
  refine lv_iconst (v := 3) C.1 C.2.1 dL_law_1114 (by decide) ?_
  refine lv_iadd C.1 C.2.1 dL_law_1115 ?_
  refine lw_sld C S (show vp_in (nI j + 3) L from lw_ix (k := 3) (by omega) hL) dL_law_1116 ?_
  refine lv_aload_n C.1 C.2.1 dL_law_1117 rfl (lv_at hl 0 rfl) ?_
  refine lv_iload_n C.1 C.2.1 dL_law_1118 rfl (lv_at hl 3 rfl) ?_
  refine lv_iconst (v := 4) C.1 C.2.1 dL_law_1119 (by decide) ?_
  refine lv_iadd C.1 C.2.1 dL_law_1120 ?_
  refine lw_sld C S (show vp_in (nI j + 4) L from lw_ix (k := 4) (by omega) hL) dL_law_1121 ?_
  refine lv_aload_n C.1 C.2.1 dL_law_1122 rfl (lv_at hl 0 rfl) ?_
  refine lv_iload_n C.1 C.2.1 dL_law_1123 rfl (lv_at hl 3 rfl) ?_
  refine lv_iconst (v := 5) C.1 C.2.1 dL_law_1124 (by decide) ?_
  refine lv_iadd C.1 C.2.1 dL_law_1125 ?_
  refine lw_sld C S (show vp_in (nI j + 5) L from lw_ix (k := 5) (by omega) hL) dL_law_1126 ?_
  refine lw_callV C S (As := [.int (xs (nI j + 1).toNatClampNeg), .int (xs (nI j + 2).toNatClampNeg), .int (xs (nI j + 3).toNatClampNeg), .int (xs (nI j + 4).toNatClampNeg), .int (xs (nI j + 5).toNatClampNeg)]) (b0 := 0) (rest := []) (rc (xs (nI j + 1).toNatClampNeg) (xs (nI j + 2).toNatClampNeg) (xs (nI j + 3).toNatClampNeg) (xs (nI j + 4).toNatClampNeg) (xs (nI j + 5).toNatClampNeg) h hI) ⟨trivial, ⟨trivial, ⟨trivial, ⟨trivial, ⟨trivial, trivial⟩⟩⟩⟩⟩ rfl Y_X11_walk (lw_inT l_L_135) in_X11_walk se_X11_walk (sh_k (hSh h hI) 0 11 (by decide) rfl) (by decide) rfl rfl (by decide) hl.1 (show cells + 0 ≤ 600000 by omega) (show slots + 0 ≤ 7302250 by omega) (by decide) dL_law_1127 ?_
  rintro _ h1 σ1 H1 locs1 ⟨v, rfl, hs1, hM⟩ S1 e1 x1
  have hx0 := (hSh h hI).2.2
  have hl1 : lv_has ls 4 [(0, .ref b), (1, .ref (σ1 0)), (2, .ref (σ1 82)), (3, .int (nI j))] := by rw [e1 0 (by omega), e1 82 (by omega)]; exact hl
  refine lv_aload_n C.1 C.2.1 dL_law_1130 rfl (lv_at hl1 2 rfl) ?_
  refine lv_aload_n C.1 C.2.1 dL_law_1131 rfl (lv_at hl1 0 rfl) ?_
  refine lv_iload_n C.1 C.2.1 dL_law_1132 rfl (lv_at hl1 3 rfl) ?_
  refine lv_iconst (v := 1) C.1 C.2.1 dL_law_1133 (by decide) ?_
  refine lv_iadd C.1 C.2.1 dL_law_1134 ?_
  refine lw_sld C S1 (show vp_in (nI j + 1) L from lw_ix (k := 1) (by omega) hL) dL_law_1135 ?_
  refine lv_aload_n C.1 C.2.1 dL_law_1136 rfl (lv_at hl1 0 rfl) ?_
  refine lv_iload_n C.1 C.2.1 dL_law_1137 rfl (lv_at hl1 3 rfl) ?_
  refine lv_iconst (v := 2) C.1 C.2.1 dL_law_1138 (by decide) ?_
  refine lv_iadd C.1 C.2.1 dL_law_1139 ?_
  refine lw_sld C S1 (show vp_in (nI j + 2) L from lw_ix (k := 2) (by omega) hL) dL_law_1140 ?_
  refine lv_aload_n C.1 C.2.1 dL_law_1141 rfl (lv_at hl1 0 rfl) ?_
  refine lv_iload_n C.1 C.2.1 dL_law_1142 rfl (lv_at hl1 3 rfl) ?_
  refine lv_iconst (v := 3) C.1 C.2.1 dL_law_1143 (by decide) ?_
  refine lv_iadd C.1 C.2.1 dL_law_1144 ?_
  refine lw_sld C S1 (show vp_in (nI j + 3) L from lw_ix (k := 3) (by omega) hL) dL_law_1145 ?_
  refine lv_aload_n C.1 C.2.1 dL_law_1146 rfl (lv_at hl1 0 rfl) ?_
  refine lv_iload_n C.1 C.2.1 dL_law_1147 rfl (lv_at hl1 3 rfl) ?_
  refine lv_iconst (v := 4) C.1 C.2.1 dL_law_1148 (by decide) ?_
  refine lv_iadd C.1 C.2.1 dL_law_1149 ?_
  refine lw_sld C S1 (show vp_in (nI j + 4) L from lw_ix (k := 4) (by omega) hL) dL_law_1150 ?_
  refine lv_aload_n C.1 C.2.1 dL_law_1151 rfl (lv_at hl1 0 rfl) ?_
  refine lv_iload_n C.1 C.2.1 dL_law_1152 rfl (lv_at hl1 3 rfl) ?_
  refine lv_iconst (v := 5) C.1 C.2.1 dL_law_1153 (by decide) ?_
  refine lv_iadd C.1 C.2.1 dL_law_1154 ?_
  refine lw_sld C S1 (show vp_in (nI j + 5) L from lw_ix (k := 5) (by omega) hL) dL_law_1155 ?_
  refine lw_callV C S1 (As := [.int (xs (nI j + 1).toNatClampNeg), .int (xs (nI j + 2).toNatClampNeg), .int (xs (nI j + 3).toNatClampNeg), .int (xs (nI j + 4).toNatClampNeg), .int (xs (nI j + 5).toNatClampNeg)]) (b0 := 82) (rest := [.int v]) hM ⟨trivial, ⟨trivial, ⟨trivial, ⟨trivial, ⟨trivial, trivial⟩⟩⟩⟩⟩ rfl Y_X12_walk (lw_inT l_L_138) in_X12_walk se_X12_walk (sh_k hs1 82 12 (by decide) rfl) (by decide) rfl rfl (by decide) hl.1 (show cells + 0 + 0 ≤ 600000 by omega) (show slots + 0 + 0 ≤ 7302250 by omega) (Nat.le_of_ble_eq_true rfl) dL_law_1156 ?_
  rintro _ h2 σ2 H2 locs2 ⟨w, rfl, hvw, hI2⟩ S2 e2 x2
  refine lv_icmp_eq (x := v) (y := w) (tgt := 1606) C.1 C.2.1 dL_law_1159 (by decide) (fun _ => ?_) (fun q => absurd hvw q)
  exact W.widen (k := cells + 40) (n := slots + 11900) (show cells + 0 + 0 ≤ cells + 40 by omega) (show slots + 0 + 0 ≤ slots + 11900 by omega) (kk h2 σ2 H2 locs2 hI2 S2 ((e2 0 (by omega)).trans (e1 0 (by omega))) ((e2 82 (by omega)).trans (e1 82 (by omega))))
set_option maxRecDepth 20000 in
theorem lw_case_30 (C : lw_C p s m meth c g b L xs) (hSh : ∀ h, Inv h → Sh h) (rc : ∀ a0 a1 a2 a3 a4 : Int32, lw_RC Inv J mX11_worst mX12_worst [.int a0, .int a1, .int a2, .int a3, .int a4]) (S : lw_S g s σ H locs h) (hI : Inv h) (hl : lv_has ls 4 [(0, .ref b), (1, .ref (σ 0)), (2, .ref (σ 82)), (3, .int (nI j))]) (hj : j + 6 ≤ L) (hL : L ≤ 3072) (hc : cells + 40 ≤ 600000) (hs : slots + 11900 ≤ 7302250)
    (kk : ∀ (h' : ah_T) (σ' : Nat → Nat) (H' : Heap) (locs' : List Loc), J h' → lw_S g s σ' H' locs' h' → σ' 0 = σ 0 → σ' 82 = σ 82 → W p l e room_1 s m #[Value.ref b] below meth c H' locs' (cells + 40) (slots + 11900) Qz (F0 m 1606 ls [])) : W p l e room_1 s m #[Value.ref b] below meth c H locs cells slots Qz (F0 m 1164 ls []) := by
  refine lv_aload_n C.1 C.2.1 dL_law_1164 rfl (lv_at hl 1 rfl) ?_
  refine lv_aload_n C.1 C.2.1 dL_law_1165 rfl (lv_at hl 0 rfl) ?_
  refine lv_iload_n C.1 C.2.1 dL_law_1166 rfl (lv_at hl 3 rfl) ?_
  refine lv_iconst (v := 1) C.1 C.2.1 dL_law_1167 (by decide) ?_
  refine lv_iadd C.1 C.2.1 dL_law_1168 ?_
  refine lw_sld C S (show vp_in (nI j + 1) L from lw_ix (k := 1) (by omega) hL) dL_law_1169 ?_
  refine lv_aload_n C.1 C.2.1 dL_law_1170 rfl (lv_at hl 0 rfl) ?_
  refine lv_iload_n C.1 C.2.1 dL_law_1171 rfl (lv_at hl 3 rfl) ?_
  refine lv_iconst (v := 2) C.1 C.2.1 dL_law_1172 (by decide) ?_
  refine lv_iadd C.1 C.2.1 dL_law_1173 ?_
  refine lw_sld C S (show vp_in (nI j + 2) L from lw_ix (k := 2) (by omega) hL) dL_law_1174 ?_
  refine lv_aload_n C.1 C.2.1 dL_law_1175 rfl (lv_at hl 0 rfl) ?_
  refine lv_iload_n C.1 C.2.1 dL_law_1176 rfl (lv_at hl 3 rfl) ?_
  refine lv_iconst (v := 3) C.1 C.2.1 dL_law_1177 (by decide) ?_
  refine lv_iadd C.1 C.2.1 dL_law_1178 ?_
  refine lw_sld C S (show vp_in (nI j + 3) L from lw_ix (k := 3) (by omega) hL) dL_law_1179 ?_
  refine lv_aload_n C.1 C.2.1 dL_law_1180 rfl (lv_at hl 0 rfl) ?_
  refine lv_iload_n C.1 C.2.1 dL_law_1181 rfl (lv_at hl 3 rfl) ?_
  refine lv_iconst (v := 4) C.1 C.2.1 dL_law_1182 (by decide) ?_
  refine lv_iadd C.1 C.2.1 dL_law_1183 ?_
  refine lw_sld C S (show vp_in (nI j + 4) L from lw_ix (k := 4) (by omega) hL) dL_law_1184 ?_
  refine lv_aload_n C.1 C.2.1 dL_law_1185 rfl (lv_at hl 0 rfl) ?_
  refine lv_iload_n C.1 C.2.1 dL_law_1186 rfl (lv_at hl 3 rfl) ?_
  refine lv_iconst (v := 5) C.1 C.2.1 dL_law_1187 (by decide) ?_
  refine lv_iadd C.1 C.2.1 dL_law_1188 ?_
  refine lw_sld C S (show vp_in (nI j + 5) L from lw_ix (k := 5) (by omega) hL) dL_law_1189 ?_
  refine lw_callV C S (As := [.int (xs (nI j + 1).toNatClampNeg), .int (xs (nI j + 2).toNatClampNeg), .int (xs (nI j + 3).toNatClampNeg), .int (xs (nI j + 4).toNatClampNeg), .int (xs (nI j + 5).toNatClampNeg)]) (b0 := 0) (rest := []) (rc (xs (nI j + 1).toNatClampNeg) (xs (nI j + 2).toNatClampNeg) (xs (nI j + 3).toNatClampNeg) (xs (nI j + 4).toNatClampNeg) (xs (nI j + 5).toNatClampNeg) h hI) ⟨trivial, ⟨trivial, ⟨trivial, ⟨trivial, ⟨trivial, trivial⟩⟩⟩⟩⟩ rfl Y_X11_worst (lw_inT l_L_139) in_X11_worst se_X11_worst (sh_k (hSh h hI) 0 11 (by decide) rfl) (by decide) rfl rfl (by decide) hl.1 (show cells + 0 ≤ 600000 by omega) (show slots + 0 ≤ 7302250 by omega) (by decide) dL_law_1190 ?_
  rintro _ h1 σ1 H1 locs1 ⟨v, rfl, hs1, hM⟩ S1 e1 x1
  have hx0 := (hSh h hI).2.2
  have hl1 : lv_has ls 4 [(0, .ref b), (1, .ref (σ1 0)), (2, .ref (σ1 82)), (3, .int (nI j))] := by rw [e1 0 (by omega), e1 82 (by omega)]; exact hl
  refine lv_aload_n C.1 C.2.1 dL_law_1193 rfl (lv_at hl1 2 rfl) ?_
  refine lv_aload_n C.1 C.2.1 dL_law_1194 rfl (lv_at hl1 0 rfl) ?_
  refine lv_iload_n C.1 C.2.1 dL_law_1195 rfl (lv_at hl1 3 rfl) ?_
  refine lv_iconst (v := 1) C.1 C.2.1 dL_law_1196 (by decide) ?_
  refine lv_iadd C.1 C.2.1 dL_law_1197 ?_
  refine lw_sld C S1 (show vp_in (nI j + 1) L from lw_ix (k := 1) (by omega) hL) dL_law_1198 ?_
  refine lv_aload_n C.1 C.2.1 dL_law_1199 rfl (lv_at hl1 0 rfl) ?_
  refine lv_iload_n C.1 C.2.1 dL_law_1200 rfl (lv_at hl1 3 rfl) ?_
  refine lv_iconst (v := 2) C.1 C.2.1 dL_law_1201 (by decide) ?_
  refine lv_iadd C.1 C.2.1 dL_law_1202 ?_
  refine lw_sld C S1 (show vp_in (nI j + 2) L from lw_ix (k := 2) (by omega) hL) dL_law_1203 ?_
  refine lv_aload_n C.1 C.2.1 dL_law_1204 rfl (lv_at hl1 0 rfl) ?_
  refine lv_iload_n C.1 C.2.1 dL_law_1205 rfl (lv_at hl1 3 rfl) ?_
  refine lv_iconst (v := 3) C.1 C.2.1 dL_law_1206 (by decide) ?_
  refine lv_iadd C.1 C.2.1 dL_law_1207 ?_
  refine lw_sld C S1 (show vp_in (nI j + 3) L from lw_ix (k := 3) (by omega) hL) dL_law_1208 ?_
  refine lv_aload_n C.1 C.2.1 dL_law_1209 rfl (lv_at hl1 0 rfl) ?_
  refine lv_iload_n C.1 C.2.1 dL_law_1210 rfl (lv_at hl1 3 rfl) ?_
  refine lv_iconst (v := 4) C.1 C.2.1 dL_law_1211 (by decide) ?_
  refine lv_iadd C.1 C.2.1 dL_law_1212 ?_
  refine lw_sld C S1 (show vp_in (nI j + 4) L from lw_ix (k := 4) (by omega) hL) dL_law_1213 ?_
  refine lv_aload_n C.1 C.2.1 dL_law_1214 rfl (lv_at hl1 0 rfl) ?_
  refine lv_iload_n C.1 C.2.1 dL_law_1215 rfl (lv_at hl1 3 rfl) ?_
  refine lv_iconst (v := 5) C.1 C.2.1 dL_law_1216 (by decide) ?_
  refine lv_iadd C.1 C.2.1 dL_law_1217 ?_
  refine lw_sld C S1 (show vp_in (nI j + 5) L from lw_ix (k := 5) (by omega) hL) dL_law_1218 ?_
  refine lw_callV C S1 (As := [.int (xs (nI j + 1).toNatClampNeg), .int (xs (nI j + 2).toNatClampNeg), .int (xs (nI j + 3).toNatClampNeg), .int (xs (nI j + 4).toNatClampNeg), .int (xs (nI j + 5).toNatClampNeg)]) (b0 := 82) (rest := [.int v]) hM ⟨trivial, ⟨trivial, ⟨trivial, ⟨trivial, ⟨trivial, trivial⟩⟩⟩⟩⟩ rfl Y_X12_worst (lw_inT l_L_142) in_X12_worst se_X12_worst (sh_k hs1 82 12 (by decide) rfl) (by decide) rfl rfl (by decide) hl.1 (show cells + 0 + 0 ≤ 600000 by omega) (show slots + 0 + 0 ≤ 7302250 by omega) (Nat.le_of_ble_eq_true rfl) dL_law_1219 ?_
  rintro _ h2 σ2 H2 locs2 ⟨w, rfl, hvw, hI2⟩ S2 e2 x2
  refine lv_icmp_eq (x := v) (y := w) (tgt := 1606) C.1 C.2.1 dL_law_1222 (by decide) (fun _ => ?_) (fun q => absurd hvw q)
  exact W.widen (k := cells + 40) (n := slots + 11900) (show cells + 0 + 0 ≤ cells + 40 by omega) (show slots + 0 + 0 ≤ slots + 11900 by omega) (kk h2 σ2 H2 locs2 hI2 S2 ((e2 0 (by omega)).trans (e1 0 (by omega))) ((e2 82 (by omega)).trans (e1 82 (by omega))))
set_option maxRecDepth 20000 in
theorem lw_case_31 (C : lw_C p s m meth c g b L xs) (hSh : ∀ h, Inv h → Sh h) (rc : ∀ a0 a1 a2 a3 a4 : Int32, lw_RC Inv J mX11_hang mX12_hang [.int a0, .int a1, .int a2, .int a3, .int a4]) (S : lw_S g s σ H locs h) (hI : Inv h) (hl : lv_has ls 4 [(0, .ref b), (1, .ref (σ 0)), (2, .ref (σ 82)), (3, .int (nI j))]) (hj : j + 6 ≤ L) (hL : L ≤ 3072) (hc : cells + 40 ≤ 600000) (hs : slots + 11900 ≤ 7302250)
    (kk : ∀ (h' : ah_T) (σ' : Nat → Nat) (H' : Heap) (locs' : List Loc), J h' → lw_S g s σ' H' locs' h' → σ' 0 = σ 0 → σ' 82 = σ 82 → W p l e room_1 s m #[Value.ref b] below meth c H' locs' (cells + 40) (slots + 11900) Qz (F0 m 1606 ls [])) : W p l e room_1 s m #[Value.ref b] below meth c H locs cells slots Qz (F0 m 1227 ls []) := by
  refine lv_aload_n C.1 C.2.1 dL_law_1227 rfl (lv_at hl 1 rfl) ?_
  refine lv_aload_n C.1 C.2.1 dL_law_1228 rfl (lv_at hl 0 rfl) ?_
  refine lv_iload_n C.1 C.2.1 dL_law_1229 rfl (lv_at hl 3 rfl) ?_
  refine lv_iconst (v := 1) C.1 C.2.1 dL_law_1230 (by decide) ?_
  refine lv_iadd C.1 C.2.1 dL_law_1231 ?_
  refine lw_sld C S (show vp_in (nI j + 1) L from lw_ix (k := 1) (by omega) hL) dL_law_1232 ?_
  refine lv_aload_n C.1 C.2.1 dL_law_1233 rfl (lv_at hl 0 rfl) ?_
  refine lv_iload_n C.1 C.2.1 dL_law_1234 rfl (lv_at hl 3 rfl) ?_
  refine lv_iconst (v := 2) C.1 C.2.1 dL_law_1235 (by decide) ?_
  refine lv_iadd C.1 C.2.1 dL_law_1236 ?_
  refine lw_sld C S (show vp_in (nI j + 2) L from lw_ix (k := 2) (by omega) hL) dL_law_1237 ?_
  refine lv_aload_n C.1 C.2.1 dL_law_1238 rfl (lv_at hl 0 rfl) ?_
  refine lv_iload_n C.1 C.2.1 dL_law_1239 rfl (lv_at hl 3 rfl) ?_
  refine lv_iconst (v := 3) C.1 C.2.1 dL_law_1240 (by decide) ?_
  refine lv_iadd C.1 C.2.1 dL_law_1241 ?_
  refine lw_sld C S (show vp_in (nI j + 3) L from lw_ix (k := 3) (by omega) hL) dL_law_1242 ?_
  refine lv_aload_n C.1 C.2.1 dL_law_1243 rfl (lv_at hl 0 rfl) ?_
  refine lv_iload_n C.1 C.2.1 dL_law_1244 rfl (lv_at hl 3 rfl) ?_
  refine lv_iconst (v := 4) C.1 C.2.1 dL_law_1245 (by decide) ?_
  refine lv_iadd C.1 C.2.1 dL_law_1246 ?_
  refine lw_sld C S (show vp_in (nI j + 4) L from lw_ix (k := 4) (by omega) hL) dL_law_1247 ?_
  refine lv_aload_n C.1 C.2.1 dL_law_1248 rfl (lv_at hl 0 rfl) ?_
  refine lv_iload_n C.1 C.2.1 dL_law_1249 rfl (lv_at hl 3 rfl) ?_
  refine lv_iconst (v := 5) C.1 C.2.1 dL_law_1250 (by decide) ?_
  refine lv_iadd C.1 C.2.1 dL_law_1251 ?_
  refine lw_sld C S (show vp_in (nI j + 5) L from lw_ix (k := 5) (by omega) hL) dL_law_1252 ?_
  refine lw_callV C S (As := [.int (xs (nI j + 1).toNatClampNeg), .int (xs (nI j + 2).toNatClampNeg), .int (xs (nI j + 3).toNatClampNeg), .int (xs (nI j + 4).toNatClampNeg), .int (xs (nI j + 5).toNatClampNeg)]) (b0 := 0) (rest := []) (rc (xs (nI j + 1).toNatClampNeg) (xs (nI j + 2).toNatClampNeg) (xs (nI j + 3).toNatClampNeg) (xs (nI j + 4).toNatClampNeg) (xs (nI j + 5).toNatClampNeg) h hI) ⟨trivial, ⟨trivial, ⟨trivial, ⟨trivial, ⟨trivial, trivial⟩⟩⟩⟩⟩ rfl Y_X11_hang (lw_inT l_L_143) in_X11_hang se_X11_hang (sh_k (hSh h hI) 0 11 (by decide) rfl) (by decide) rfl rfl (by decide) hl.1 (show cells + 0 ≤ 600000 by omega) (show slots + 0 ≤ 7302250 by omega) (by decide) dL_law_1253 ?_
  rintro _ h1 σ1 H1 locs1 ⟨v, rfl, hs1, hM⟩ S1 e1 x1
  have hx0 := (hSh h hI).2.2
  have hl1 : lv_has ls 4 [(0, .ref b), (1, .ref (σ1 0)), (2, .ref (σ1 82)), (3, .int (nI j))] := by rw [e1 0 (by omega), e1 82 (by omega)]; exact hl
  refine lv_aload_n C.1 C.2.1 dL_law_1256 rfl (lv_at hl1 2 rfl) ?_
  refine lv_aload_n C.1 C.2.1 dL_law_1257 rfl (lv_at hl1 0 rfl) ?_
  refine lv_iload_n C.1 C.2.1 dL_law_1258 rfl (lv_at hl1 3 rfl) ?_
  refine lv_iconst (v := 1) C.1 C.2.1 dL_law_1259 (by decide) ?_
  refine lv_iadd C.1 C.2.1 dL_law_1260 ?_
  refine lw_sld C S1 (show vp_in (nI j + 1) L from lw_ix (k := 1) (by omega) hL) dL_law_1261 ?_
  refine lv_aload_n C.1 C.2.1 dL_law_1262 rfl (lv_at hl1 0 rfl) ?_
  refine lv_iload_n C.1 C.2.1 dL_law_1263 rfl (lv_at hl1 3 rfl) ?_
  refine lv_iconst (v := 2) C.1 C.2.1 dL_law_1264 (by decide) ?_
  refine lv_iadd C.1 C.2.1 dL_law_1265 ?_
  refine lw_sld C S1 (show vp_in (nI j + 2) L from lw_ix (k := 2) (by omega) hL) dL_law_1266 ?_
  refine lv_aload_n C.1 C.2.1 dL_law_1267 rfl (lv_at hl1 0 rfl) ?_
  refine lv_iload_n C.1 C.2.1 dL_law_1268 rfl (lv_at hl1 3 rfl) ?_
  refine lv_iconst (v := 3) C.1 C.2.1 dL_law_1269 (by decide) ?_
  refine lv_iadd C.1 C.2.1 dL_law_1270 ?_
  refine lw_sld C S1 (show vp_in (nI j + 3) L from lw_ix (k := 3) (by omega) hL) dL_law_1271 ?_
  refine lv_aload_n C.1 C.2.1 dL_law_1272 rfl (lv_at hl1 0 rfl) ?_
  refine lv_iload_n C.1 C.2.1 dL_law_1273 rfl (lv_at hl1 3 rfl) ?_
  refine lv_iconst (v := 4) C.1 C.2.1 dL_law_1274 (by decide) ?_
  refine lv_iadd C.1 C.2.1 dL_law_1275 ?_
  refine lw_sld C S1 (show vp_in (nI j + 4) L from lw_ix (k := 4) (by omega) hL) dL_law_1276 ?_
  refine lv_aload_n C.1 C.2.1 dL_law_1277 rfl (lv_at hl1 0 rfl) ?_
  refine lv_iload_n C.1 C.2.1 dL_law_1278 rfl (lv_at hl1 3 rfl) ?_
  refine lv_iconst (v := 5) C.1 C.2.1 dL_law_1279 (by decide) ?_
  refine lv_iadd C.1 C.2.1 dL_law_1280 ?_
  refine lw_sld C S1 (show vp_in (nI j + 5) L from lw_ix (k := 5) (by omega) hL) dL_law_1281 ?_
  refine lw_callV C S1 (As := [.int (xs (nI j + 1).toNatClampNeg), .int (xs (nI j + 2).toNatClampNeg), .int (xs (nI j + 3).toNatClampNeg), .int (xs (nI j + 4).toNatClampNeg), .int (xs (nI j + 5).toNatClampNeg)]) (b0 := 82) (rest := [.int v]) hM ⟨trivial, ⟨trivial, ⟨trivial, ⟨trivial, ⟨trivial, trivial⟩⟩⟩⟩⟩ rfl Y_X12_hang (lw_inT l_L_146) in_X12_hang se_X12_hang (sh_k hs1 82 12 (by decide) rfl) (by decide) rfl rfl (by decide) hl.1 (show cells + 0 + 0 ≤ 600000 by omega) (show slots + 0 + 0 ≤ 7302250 by omega) (Nat.le_of_ble_eq_true rfl) dL_law_1282 ?_
  rintro _ h2 σ2 H2 locs2 ⟨w, rfl, hvw, hI2⟩ S2 e2 x2
  refine lv_icmp_eq (x := v) (y := w) (tgt := 1606) C.1 C.2.1 dL_law_1285 (by decide) (fun _ => ?_) (fun q => absurd hvw q)
  exact W.widen (k := cells + 40) (n := slots + 11900) (show cells + 0 + 0 ≤ cells + 40 by omega) (show slots + 0 + 0 ≤ slots + 11900 by omega) (kk h2 σ2 H2 locs2 hI2 S2 ((e2 0 (by omega)).trans (e1 0 (by omega))) ((e2 82 (by omega)).trans (e1 82 (by omega))))
set_option maxRecDepth 20000 in
theorem lw_case_32 (C : lw_C p s m meth c g b L xs) (hSh : ∀ h, Inv h → Sh h) (rc : ∀ a0 : Int32, lw_RC Inv J mX11_shutters mX12_shutters [.int a0]) (S : lw_S g s σ H locs h) (hI : Inv h) (hl : lv_has ls 4 [(0, .ref b), (1, .ref (σ 0)), (2, .ref (σ 82)), (3, .int (nI j))]) (hj : j + 6 ≤ L) (hL : L ≤ 3072) (hc : cells + 40 ≤ 600000) (hs : slots + 11900 ≤ 7302250)
    (kk : ∀ (h' : ah_T) (σ' : Nat → Nat) (H' : Heap) (locs' : List Loc), J h' → lw_S g s σ' H' locs' h' → σ' 0 = σ 0 → σ' 82 = σ 82 → W p l e room_1 s m #[Value.ref b] below meth c H' locs' (cells + 40) (slots + 11900) Qz (F0 m 1606 ls [])) : W p l e room_1 s m #[Value.ref b] below meth c H locs cells slots Qz (F0 m 1290 ls []) := by
  refine lv_aload_n C.1 C.2.1 dL_law_1290 rfl (lv_at hl 1 rfl) ?_
  refine lv_aload_n C.1 C.2.1 dL_law_1291 rfl (lv_at hl 0 rfl) ?_
  refine lv_iload_n C.1 C.2.1 dL_law_1292 rfl (lv_at hl 3 rfl) ?_
  refine lv_iconst (v := 1) C.1 C.2.1 dL_law_1293 (by decide) ?_
  refine lv_iadd C.1 C.2.1 dL_law_1294 ?_
  refine lw_sld C S (show vp_in (nI j + 1) L from lw_ix (k := 1) (by omega) hL) dL_law_1295 ?_
  refine lw_callV C S (As := [.int (xs (nI j + 1).toNatClampNeg)]) (b0 := 0) (rest := []) (rc (xs (nI j + 1).toNatClampNeg) h hI) ⟨trivial, trivial⟩ rfl Y_X11_shutters (lw_inT l_L_147) in_X11_shutters se_X11_shutters (sh_k (hSh h hI) 0 11 (by decide) rfl) (by decide) rfl rfl (by decide) hl.1 (show cells + 0 ≤ 600000 by omega) (show slots + 0 ≤ 7302250 by omega) (by decide) dL_law_1296 ?_
  rintro _ h1 σ1 H1 locs1 ⟨v, rfl, hs1, hM⟩ S1 e1 x1
  have hx0 := (hSh h hI).2.2
  have hl1 : lv_has ls 4 [(0, .ref b), (1, .ref (σ1 0)), (2, .ref (σ1 82)), (3, .int (nI j))] := by rw [e1 0 (by omega), e1 82 (by omega)]; exact hl
  refine lv_aload_n C.1 C.2.1 dL_law_1299 rfl (lv_at hl1 2 rfl) ?_
  refine lv_aload_n C.1 C.2.1 dL_law_1300 rfl (lv_at hl1 0 rfl) ?_
  refine lv_iload_n C.1 C.2.1 dL_law_1301 rfl (lv_at hl1 3 rfl) ?_
  refine lv_iconst (v := 1) C.1 C.2.1 dL_law_1302 (by decide) ?_
  refine lv_iadd C.1 C.2.1 dL_law_1303 ?_
  refine lw_sld C S1 (show vp_in (nI j + 1) L from lw_ix (k := 1) (by omega) hL) dL_law_1304 ?_
  refine lw_callV C S1 (As := [.int (xs (nI j + 1).toNatClampNeg)]) (b0 := 82) (rest := [.int v]) hM ⟨trivial, trivial⟩ rfl Y_X12_shutters (lw_inT l_L_150) in_X12_shutters se_X12_shutters (sh_k hs1 82 12 (by decide) rfl) (by decide) rfl rfl (by decide) hl.1 (show cells + 0 + 0 ≤ 600000 by omega) (show slots + 0 + 0 ≤ 7302250 by omega) (Nat.le_of_ble_eq_true rfl) dL_law_1305 ?_
  rintro _ h2 σ2 H2 locs2 ⟨w, rfl, hvw, hI2⟩ S2 e2 x2
  refine lv_icmp_eq (x := v) (y := w) (tgt := 1606) C.1 C.2.1 dL_law_1308 (by decide) (fun _ => ?_) (fun q => absurd hvw q)
  exact W.widen (k := cells + 40) (n := slots + 11900) (show cells + 0 + 0 ≤ cells + 40 by omega) (show slots + 0 + 0 ≤ slots + 11900 by omega) (kk h2 σ2 H2 locs2 hI2 S2 ((e2 0 (by omega)).trans (e1 0 (by omega))) ((e2 82 (by omega)).trans (e1 82 (by omega))))
set_option maxRecDepth 20000 in
theorem lw_case_33 (C : lw_C p s m meth c g b L xs) (hSh : ∀ h, Inv h → Sh h) (rc : ∀ a0 a1 : Int32, lw_RC Inv J mX11_would mX12_would [.int a0, .int a1]) (S : lw_S g s σ H locs h) (hI : Inv h) (hl : lv_has ls 4 [(0, .ref b), (1, .ref (σ 0)), (2, .ref (σ 82)), (3, .int (nI j))]) (hj : j + 6 ≤ L) (hL : L ≤ 3072) (hc : cells + 40 ≤ 600000) (hs : slots + 11900 ≤ 7302250)
    (kk : ∀ (h' : ah_T) (σ' : Nat → Nat) (H' : Heap) (locs' : List Loc), J h' → lw_S g s σ' H' locs' h' → σ' 0 = σ 0 → σ' 82 = σ 82 → W p l e room_1 s m #[Value.ref b] below meth c H' locs' (cells + 40) (slots + 11900) Qz (F0 m 1606 ls [])) : W p l e room_1 s m #[Value.ref b] below meth c H locs cells slots Qz (F0 m 1313 ls []) := by
  refine lv_aload_n C.1 C.2.1 dL_law_1313 rfl (lv_at hl 1 rfl) ?_
  refine lv_aload_n C.1 C.2.1 dL_law_1314 rfl (lv_at hl 0 rfl) ?_
  refine lv_iload_n C.1 C.2.1 dL_law_1315 rfl (lv_at hl 3 rfl) ?_
  refine lv_iconst (v := 1) C.1 C.2.1 dL_law_1316 (by decide) ?_
  refine lv_iadd C.1 C.2.1 dL_law_1317 ?_
  refine lw_sld C S (show vp_in (nI j + 1) L from lw_ix (k := 1) (by omega) hL) dL_law_1318 ?_
  refine lv_aload_n C.1 C.2.1 dL_law_1319 rfl (lv_at hl 0 rfl) ?_
  refine lv_iload_n C.1 C.2.1 dL_law_1320 rfl (lv_at hl 3 rfl) ?_
  refine lv_iconst (v := 2) C.1 C.2.1 dL_law_1321 (by decide) ?_
  refine lv_iadd C.1 C.2.1 dL_law_1322 ?_
  refine lw_sld C S (show vp_in (nI j + 2) L from lw_ix (k := 2) (by omega) hL) dL_law_1323 ?_
  refine lw_callV C S (As := [.int (xs (nI j + 1).toNatClampNeg), .int (xs (nI j + 2).toNatClampNeg)]) (b0 := 0) (rest := []) (rc (xs (nI j + 1).toNatClampNeg) (xs (nI j + 2).toNatClampNeg) h hI) ⟨trivial, ⟨trivial, trivial⟩⟩ rfl Y_X11_would (lw_inT l_L_151) in_X11_would se_X11_would (sh_k (hSh h hI) 0 11 (by decide) rfl) (by decide) rfl rfl (by decide) hl.1 (show cells + 0 ≤ 600000 by omega) (show slots + 0 ≤ 7302250 by omega) (by decide) dL_law_1324 ?_
  rintro _ h1 σ1 H1 locs1 ⟨v, rfl, hs1, hM⟩ S1 e1 x1
  have hx0 := (hSh h hI).2.2
  have hl1 : lv_has ls 4 [(0, .ref b), (1, .ref (σ1 0)), (2, .ref (σ1 82)), (3, .int (nI j))] := by rw [e1 0 (by omega), e1 82 (by omega)]; exact hl
  refine lv_aload_n C.1 C.2.1 dL_law_1327 rfl (lv_at hl1 2 rfl) ?_
  refine lv_aload_n C.1 C.2.1 dL_law_1328 rfl (lv_at hl1 0 rfl) ?_
  refine lv_iload_n C.1 C.2.1 dL_law_1329 rfl (lv_at hl1 3 rfl) ?_
  refine lv_iconst (v := 1) C.1 C.2.1 dL_law_1330 (by decide) ?_
  refine lv_iadd C.1 C.2.1 dL_law_1331 ?_
  refine lw_sld C S1 (show vp_in (nI j + 1) L from lw_ix (k := 1) (by omega) hL) dL_law_1332 ?_
  refine lv_aload_n C.1 C.2.1 dL_law_1333 rfl (lv_at hl1 0 rfl) ?_
  refine lv_iload_n C.1 C.2.1 dL_law_1334 rfl (lv_at hl1 3 rfl) ?_
  refine lv_iconst (v := 2) C.1 C.2.1 dL_law_1335 (by decide) ?_
  refine lv_iadd C.1 C.2.1 dL_law_1336 ?_
  refine lw_sld C S1 (show vp_in (nI j + 2) L from lw_ix (k := 2) (by omega) hL) dL_law_1337 ?_
  refine lw_callV C S1 (As := [.int (xs (nI j + 1).toNatClampNeg), .int (xs (nI j + 2).toNatClampNeg)]) (b0 := 82) (rest := [.int v]) hM ⟨trivial, ⟨trivial, trivial⟩⟩ rfl Y_X12_would (lw_inT l_L_154) in_X12_would se_X12_would (sh_k hs1 82 12 (by decide) rfl) (by decide) rfl rfl (by decide) hl.1 (show cells + 0 + 0 ≤ 600000 by omega) (show slots + 0 + 0 ≤ 7302250 by omega) (Nat.le_of_ble_eq_true rfl) dL_law_1338 ?_
  rintro _ h2 σ2 H2 locs2 ⟨w, rfl, hvw, hI2⟩ S2 e2 x2
  refine lv_icmp_eq (x := v) (y := w) (tgt := 1606) C.1 C.2.1 dL_law_1341 (by decide) (fun _ => ?_) (fun q => absurd hvw q)
  exact W.widen (k := cells + 40) (n := slots + 11900) (show cells + 0 + 0 ≤ cells + 40 by omega) (show slots + 0 + 0 ≤ slots + 11900 by omega) (kk h2 σ2 H2 locs2 hI2 S2 ((e2 0 (by omega)).trans (e1 0 (by omega))) ((e2 82 (by omega)).trans (e1 82 (by omega))))
set_option maxRecDepth 20000 in
theorem lw_case_34 (C : lw_C p s m meth c g b L xs) (hSh : ∀ h, Inv h → Sh h) (rc : ∀ a0 a1 a2 : Int32, lw_RC Inv J mX11_soot mX12_soot [.int a0, .int a1, .int a2]) (S : lw_S g s σ H locs h) (hI : Inv h) (hl : lv_has ls 4 [(0, .ref b), (1, .ref (σ 0)), (2, .ref (σ 82)), (3, .int (nI j))]) (hj : j + 6 ≤ L) (hL : L ≤ 3072) (hc : cells + 40 ≤ 600000) (hs : slots + 11900 ≤ 7302250)
    (kk : ∀ (h' : ah_T) (σ' : Nat → Nat) (H' : Heap) (locs' : List Loc), J h' → lw_S g s σ' H' locs' h' → σ' 0 = σ 0 → σ' 82 = σ 82 → W p l e room_1 s m #[Value.ref b] below meth c H' locs' (cells + 40) (slots + 11900) Qz (F0 m 1606 ls [])) : W p l e room_1 s m #[Value.ref b] below meth c H locs cells slots Qz (F0 m 1346 ls []) := by
  refine lv_aload_n C.1 C.2.1 dL_law_1346 rfl (lv_at hl 1 rfl) ?_
  refine lv_aload_n C.1 C.2.1 dL_law_1347 rfl (lv_at hl 0 rfl) ?_
  refine lv_iload_n C.1 C.2.1 dL_law_1348 rfl (lv_at hl 3 rfl) ?_
  refine lv_iconst (v := 1) C.1 C.2.1 dL_law_1349 (by decide) ?_
  refine lv_iadd C.1 C.2.1 dL_law_1350 ?_
  refine lw_sld C S (show vp_in (nI j + 1) L from lw_ix (k := 1) (by omega) hL) dL_law_1351 ?_
  refine lv_aload_n C.1 C.2.1 dL_law_1352 rfl (lv_at hl 0 rfl) ?_
  refine lv_iload_n C.1 C.2.1 dL_law_1353 rfl (lv_at hl 3 rfl) ?_
  refine lv_iconst (v := 2) C.1 C.2.1 dL_law_1354 (by decide) ?_
  refine lv_iadd C.1 C.2.1 dL_law_1355 ?_
  refine lw_sld C S (show vp_in (nI j + 2) L from lw_ix (k := 2) (by omega) hL) dL_law_1356 ?_
  refine lv_aload_n C.1 C.2.1 dL_law_1357 rfl (lv_at hl 0 rfl) ?_
  refine lv_iload_n C.1 C.2.1 dL_law_1358 rfl (lv_at hl 3 rfl) ?_
  refine lv_iconst (v := 3) C.1 C.2.1 dL_law_1359 (by decide) ?_
  refine lv_iadd C.1 C.2.1 dL_law_1360 ?_
  refine lw_sld C S (show vp_in (nI j + 3) L from lw_ix (k := 3) (by omega) hL) dL_law_1361 ?_
  refine lw_callV C S (As := [.int (xs (nI j + 1).toNatClampNeg), .int (xs (nI j + 2).toNatClampNeg), .int (xs (nI j + 3).toNatClampNeg)]) (b0 := 0) (rest := []) (rc (xs (nI j + 1).toNatClampNeg) (xs (nI j + 2).toNatClampNeg) (xs (nI j + 3).toNatClampNeg) h hI) ⟨trivial, ⟨trivial, ⟨trivial, trivial⟩⟩⟩ rfl Y_X11_soot (lw_inT l_L_155) in_X11_soot se_X11_soot (sh_k (hSh h hI) 0 11 (by decide) rfl) (by decide) rfl rfl (by decide) hl.1 (show cells + 0 ≤ 600000 by omega) (show slots + 0 ≤ 7302250 by omega) (by decide) dL_law_1362 ?_
  rintro _ h1 σ1 H1 locs1 ⟨v, rfl, hs1, hM⟩ S1 e1 x1
  have hx0 := (hSh h hI).2.2
  have hl1 : lv_has ls 4 [(0, .ref b), (1, .ref (σ1 0)), (2, .ref (σ1 82)), (3, .int (nI j))] := by rw [e1 0 (by omega), e1 82 (by omega)]; exact hl
  refine lv_aload_n C.1 C.2.1 dL_law_1365 rfl (lv_at hl1 2 rfl) ?_
  refine lv_aload_n C.1 C.2.1 dL_law_1366 rfl (lv_at hl1 0 rfl) ?_
  refine lv_iload_n C.1 C.2.1 dL_law_1367 rfl (lv_at hl1 3 rfl) ?_
  refine lv_iconst (v := 1) C.1 C.2.1 dL_law_1368 (by decide) ?_
  refine lv_iadd C.1 C.2.1 dL_law_1369 ?_
  refine lw_sld C S1 (show vp_in (nI j + 1) L from lw_ix (k := 1) (by omega) hL) dL_law_1370 ?_
  refine lv_aload_n C.1 C.2.1 dL_law_1371 rfl (lv_at hl1 0 rfl) ?_
  refine lv_iload_n C.1 C.2.1 dL_law_1372 rfl (lv_at hl1 3 rfl) ?_
  refine lv_iconst (v := 2) C.1 C.2.1 dL_law_1373 (by decide) ?_
  refine lv_iadd C.1 C.2.1 dL_law_1374 ?_
  refine lw_sld C S1 (show vp_in (nI j + 2) L from lw_ix (k := 2) (by omega) hL) dL_law_1375 ?_
  refine lv_aload_n C.1 C.2.1 dL_law_1376 rfl (lv_at hl1 0 rfl) ?_
  refine lv_iload_n C.1 C.2.1 dL_law_1377 rfl (lv_at hl1 3 rfl) ?_
  refine lv_iconst (v := 3) C.1 C.2.1 dL_law_1378 (by decide) ?_
  refine lv_iadd C.1 C.2.1 dL_law_1379 ?_
  refine lw_sld C S1 (show vp_in (nI j + 3) L from lw_ix (k := 3) (by omega) hL) dL_law_1380 ?_
  refine lw_callV C S1 (As := [.int (xs (nI j + 1).toNatClampNeg), .int (xs (nI j + 2).toNatClampNeg), .int (xs (nI j + 3).toNatClampNeg)]) (b0 := 82) (rest := [.int v]) hM ⟨trivial, ⟨trivial, ⟨trivial, trivial⟩⟩⟩ rfl Y_X12_soot (lw_inT l_L_158) in_X12_soot se_X12_soot (sh_k hs1 82 12 (by decide) rfl) (by decide) rfl rfl (by decide) hl.1 (show cells + 0 + 0 ≤ 600000 by omega) (show slots + 0 + 0 ≤ 7302250 by omega) (Nat.le_of_ble_eq_true rfl) dL_law_1381 ?_
  rintro _ h2 σ2 H2 locs2 ⟨w, rfl, hvw, hI2⟩ S2 e2 x2
  refine lv_icmp_eq (x := v) (y := w) (tgt := 1606) C.1 C.2.1 dL_law_1384 (by decide) (fun _ => ?_) (fun q => absurd hvw q)
  exact W.widen (k := cells + 40) (n := slots + 11900) (show cells + 0 + 0 ≤ cells + 40 by omega) (show slots + 0 + 0 ≤ slots + 11900 by omega) (kk h2 σ2 H2 locs2 hI2 S2 ((e2 0 (by omega)).trans (e1 0 (by omega))) ((e2 82 (by omega)).trans (e1 82 (by omega))))
set_option maxRecDepth 20000 in
theorem lw_case_35 (C : lw_C p s m meth c g b L xs) (hSh : ∀ h, Inv h → Sh h) (rc : lw_RC Inv J mX11_sweep mX12_sweep []) (S : lw_S g s σ H locs h) (hI : Inv h) (hl : lv_has ls 4 [(0, .ref b), (1, .ref (σ 0)), (2, .ref (σ 82)), (3, .int (nI j))]) (hj : j + 6 ≤ L) (hL : L ≤ 3072) (hc : cells + 40 ≤ 600000) (hs : slots + 11900 ≤ 7302250)
    (kk : ∀ (h' : ah_T) (σ' : Nat → Nat) (H' : Heap) (locs' : List Loc), J h' → lw_S g s σ' H' locs' h' → σ' 0 = σ 0 → σ' 82 = σ 82 → W p l e room_1 s m #[Value.ref b] below meth c H' locs' (cells + 40) (slots + 11900) Qz (F0 m 1606 ls [])) : W p l e room_1 s m #[Value.ref b] below meth c H locs cells slots Qz (F0 m 1389 ls []) := by
  refine lv_aload_n C.1 C.2.1 dL_law_1389 rfl (lv_at hl 1 rfl) ?_
  refine lw_callV C S (As := []) (b0 := 0) (rest := []) (rc h hI) trivial rfl Y_X11_sweep (lw_inT l_L_159) in_X11_sweep se_X11_sweep (sh_k (hSh h hI) 0 11 (by decide) rfl) (by decide) rfl rfl (by decide) hl.1 (show cells + 0 ≤ 600000 by omega) (show slots + 0 ≤ 7302250 by omega) (by decide) dL_law_1390 ?_
  rintro _ h1 σ1 H1 locs1 ⟨v, rfl, hs1, hM⟩ S1 e1 x1
  have hx0 := (hSh h hI).2.2
  have hl1 : lv_has ls 4 [(0, .ref b), (1, .ref (σ1 0)), (2, .ref (σ1 82)), (3, .int (nI j))] := by rw [e1 0 (by omega), e1 82 (by omega)]; exact hl
  refine lv_aload_n C.1 C.2.1 dL_law_1393 rfl (lv_at hl1 2 rfl) ?_
  refine lw_callV C S1 (As := []) (b0 := 82) (rest := [.int v]) hM trivial rfl Y_X12_sweep (lw_inT l_L_162) in_X12_sweep se_X12_sweep (sh_k hs1 82 12 (by decide) rfl) (by decide) rfl rfl (by decide) hl.1 (show cells + 0 + 0 ≤ 600000 by omega) (show slots + 0 + 0 ≤ 7302250 by omega) (Nat.le_of_ble_eq_true rfl) dL_law_1394 ?_
  rintro _ h2 σ2 H2 locs2 ⟨w, rfl, hvw, hI2⟩ S2 e2 x2
  refine lv_icmp_eq (x := v) (y := w) (tgt := 1606) C.1 C.2.1 dL_law_1397 (by decide) (fun _ => ?_) (fun q => absurd hvw q)
  exact W.widen (k := cells + 40) (n := slots + 11900) (show cells + 0 + 0 ≤ cells + 40 by omega) (show slots + 0 + 0 ≤ slots + 11900 by omega) (kk h2 σ2 H2 locs2 hI2 S2 ((e2 0 (by omega)).trans (e1 0 (by omega))) ((e2 82 (by omega)).trans (e1 82 (by omega))))
set_option maxRecDepth 20000 in
theorem lw_case_36 (C : lw_C p s m meth c g b L xs) (hSh : ∀ h, Inv h → Sh h) (rc : ∀ a0 : Int32, lw_RC Inv J mX11_stranger mX12_stranger [.int a0]) (S : lw_S g s σ H locs h) (hI : Inv h) (hl : lv_has ls 4 [(0, .ref b), (1, .ref (σ 0)), (2, .ref (σ 82)), (3, .int (nI j))]) (hj : j + 6 ≤ L) (hL : L ≤ 3072) (hc : cells + 40 ≤ 600000) (hs : slots + 11900 ≤ 7302250)
    (kk : ∀ (h' : ah_T) (σ' : Nat → Nat) (H' : Heap) (locs' : List Loc), J h' → lw_S g s σ' H' locs' h' → σ' 0 = σ 0 → σ' 82 = σ 82 → W p l e room_1 s m #[Value.ref b] below meth c H' locs' (cells + 40) (slots + 11900) Qz (F0 m 1606 ls [])) : W p l e room_1 s m #[Value.ref b] below meth c H locs cells slots Qz (F0 m 1402 ls []) := by
  refine lv_aload_n C.1 C.2.1 dL_law_1402 rfl (lv_at hl 1 rfl) ?_
  refine lv_aload_n C.1 C.2.1 dL_law_1403 rfl (lv_at hl 0 rfl) ?_
  refine lv_iload_n C.1 C.2.1 dL_law_1404 rfl (lv_at hl 3 rfl) ?_
  refine lv_iconst (v := 1) C.1 C.2.1 dL_law_1405 (by decide) ?_
  refine lv_iadd C.1 C.2.1 dL_law_1406 ?_
  refine lw_sld C S (show vp_in (nI j + 1) L from lw_ix (k := 1) (by omega) hL) dL_law_1407 ?_
  refine lw_callV C S (As := [.int (xs (nI j + 1).toNatClampNeg)]) (b0 := 0) (rest := []) (rc (xs (nI j + 1).toNatClampNeg) h hI) ⟨trivial, trivial⟩ rfl Y_X11_stranger (lw_inT l_L_163) in_X11_stranger se_X11_stranger (sh_k (hSh h hI) 0 11 (by decide) rfl) (by decide) rfl rfl (by decide) hl.1 (show cells + 0 ≤ 600000 by omega) (show slots + 0 ≤ 7302250 by omega) (by decide) dL_law_1408 ?_
  rintro _ h1 σ1 H1 locs1 ⟨v, rfl, hs1, hM⟩ S1 e1 x1
  have hx0 := (hSh h hI).2.2
  have hl1 : lv_has ls 4 [(0, .ref b), (1, .ref (σ1 0)), (2, .ref (σ1 82)), (3, .int (nI j))] := by rw [e1 0 (by omega), e1 82 (by omega)]; exact hl
  refine lv_aload_n C.1 C.2.1 dL_law_1411 rfl (lv_at hl1 2 rfl) ?_
  refine lv_aload_n C.1 C.2.1 dL_law_1412 rfl (lv_at hl1 0 rfl) ?_
  refine lv_iload_n C.1 C.2.1 dL_law_1413 rfl (lv_at hl1 3 rfl) ?_
  refine lv_iconst (v := 1) C.1 C.2.1 dL_law_1414 (by decide) ?_
  refine lv_iadd C.1 C.2.1 dL_law_1415 ?_
  refine lw_sld C S1 (show vp_in (nI j + 1) L from lw_ix (k := 1) (by omega) hL) dL_law_1416 ?_
  refine lw_callV C S1 (As := [.int (xs (nI j + 1).toNatClampNeg)]) (b0 := 82) (rest := [.int v]) hM ⟨trivial, trivial⟩ rfl Y_X12_stranger (lw_inT l_L_166) in_X12_stranger se_X12_stranger (sh_k hs1 82 12 (by decide) rfl) (by decide) rfl rfl (by decide) hl.1 (show cells + 0 + 0 ≤ 600000 by omega) (show slots + 0 + 0 ≤ 7302250 by omega) (Nat.le_of_ble_eq_true rfl) dL_law_1417 ?_
  rintro _ h2 σ2 H2 locs2 ⟨w, rfl, hvw, hI2⟩ S2 e2 x2
  refine lv_icmp_eq (x := v) (y := w) (tgt := 1606) C.1 C.2.1 dL_law_1420 (by decide) (fun _ => ?_) (fun q => absurd hvw q)
  exact W.widen (k := cells + 40) (n := slots + 11900) (show cells + 0 + 0 ≤ cells + 40 by omega) (show slots + 0 + 0 ≤ slots + 11900 by omega) (kk h2 σ2 H2 locs2 hI2 S2 ((e2 0 (by omega)).trans (e1 0 (by omega))) ((e2 82 (by omega)).trans (e1 82 (by omega))))
set_option maxRecDepth 20000 in
theorem lw_case_37 (C : lw_C p s m meth c g b L xs) (hSh : ∀ h, Inv h → Sh h) (rc : ∀ a0 : Int32, lw_RC Inv J mX11_changed mX12_changed [.int a0]) (S : lw_S g s σ H locs h) (hI : Inv h) (hl : lv_has ls 4 [(0, .ref b), (1, .ref (σ 0)), (2, .ref (σ 82)), (3, .int (nI j))]) (hj : j + 6 ≤ L) (hL : L ≤ 3072) (hc : cells + 40 ≤ 600000) (hs : slots + 11900 ≤ 7302250)
    (kk : ∀ (h' : ah_T) (σ' : Nat → Nat) (H' : Heap) (locs' : List Loc), J h' → lw_S g s σ' H' locs' h' → σ' 0 = σ 0 → σ' 82 = σ 82 → W p l e room_1 s m #[Value.ref b] below meth c H' locs' (cells + 40) (slots + 11900) Qz (F0 m 1606 ls [])) : W p l e room_1 s m #[Value.ref b] below meth c H locs cells slots Qz (F0 m 1425 ls []) := by
  refine lv_aload_n C.1 C.2.1 dL_law_1425 rfl (lv_at hl 1 rfl) ?_
  refine lv_aload_n C.1 C.2.1 dL_law_1426 rfl (lv_at hl 0 rfl) ?_
  refine lv_iload_n C.1 C.2.1 dL_law_1427 rfl (lv_at hl 3 rfl) ?_
  refine lv_iconst (v := 1) C.1 C.2.1 dL_law_1428 (by decide) ?_
  refine lv_iadd C.1 C.2.1 dL_law_1429 ?_
  refine lw_sld C S (show vp_in (nI j + 1) L from lw_ix (k := 1) (by omega) hL) dL_law_1430 ?_
  refine lw_callV C S (As := [.int (xs (nI j + 1).toNatClampNeg)]) (b0 := 0) (rest := []) (rc (xs (nI j + 1).toNatClampNeg) h hI) ⟨trivial, trivial⟩ rfl Y_X11_changed (lw_inT l_L_167) in_X11_changed se_X11_changed (sh_k (hSh h hI) 0 11 (by decide) rfl) (by decide) rfl rfl (by decide) hl.1 (show cells + 0 ≤ 600000 by omega) (show slots + 0 ≤ 7302250 by omega) (by decide) dL_law_1431 ?_
  rintro _ h1 σ1 H1 locs1 ⟨v, rfl, hs1, hM⟩ S1 e1 x1
  have hx0 := (hSh h hI).2.2
  have hl1 : lv_has ls 4 [(0, .ref b), (1, .ref (σ1 0)), (2, .ref (σ1 82)), (3, .int (nI j))] := by rw [e1 0 (by omega), e1 82 (by omega)]; exact hl
  refine lv_aload_n C.1 C.2.1 dL_law_1434 rfl (lv_at hl1 2 rfl) ?_
  refine lv_aload_n C.1 C.2.1 dL_law_1435 rfl (lv_at hl1 0 rfl) ?_
  refine lv_iload_n C.1 C.2.1 dL_law_1436 rfl (lv_at hl1 3 rfl) ?_
  refine lv_iconst (v := 1) C.1 C.2.1 dL_law_1437 (by decide) ?_
  refine lv_iadd C.1 C.2.1 dL_law_1438 ?_
  refine lw_sld C S1 (show vp_in (nI j + 1) L from lw_ix (k := 1) (by omega) hL) dL_law_1439 ?_
  refine lw_callV C S1 (As := [.int (xs (nI j + 1).toNatClampNeg)]) (b0 := 82) (rest := [.int v]) hM ⟨trivial, trivial⟩ rfl Y_X12_changed (lw_inT l_L_170) in_X12_changed se_X12_changed (sh_k hs1 82 12 (by decide) rfl) (by decide) rfl rfl (by decide) hl.1 (show cells + 0 + 0 ≤ 600000 by omega) (show slots + 0 + 0 ≤ 7302250 by omega) (Nat.le_of_ble_eq_true rfl) dL_law_1440 ?_
  rintro _ h2 σ2 H2 locs2 ⟨w, rfl, hvw, hI2⟩ S2 e2 x2
  refine lv_icmp_eq (x := v) (y := w) (tgt := 1606) C.1 C.2.1 dL_law_1443 (by decide) (fun _ => ?_) (fun q => absurd hvw q)
  exact W.widen (k := cells + 40) (n := slots + 11900) (show cells + 0 + 0 ≤ cells + 40 by omega) (show slots + 0 + 0 ≤ slots + 11900 by omega) (kk h2 σ2 H2 locs2 hI2 S2 ((e2 0 (by omega)).trans (e1 0 (by omega))) ((e2 82 (by omega)).trans (e1 82 (by omega))))
set_option maxRecDepth 20000 in
theorem lw_case_38 (C : lw_C p s m meth c g b L xs) (hSh : ∀ h, Inv h → Sh h) (rc : ∀ a0 a1 a2 a3 : Int32, lw_RC Inv J mX11_drunk mX12_drunk [.int a0, .int a1, .int a2, .int a3]) (S : lw_S g s σ H locs h) (hI : Inv h) (hl : lv_has ls 4 [(0, .ref b), (1, .ref (σ 0)), (2, .ref (σ 82)), (3, .int (nI j))]) (hj : j + 6 ≤ L) (hL : L ≤ 3072) (hc : cells + 40 ≤ 600000) (hs : slots + 11900 ≤ 7302250)
    (kk : ∀ (h' : ah_T) (σ' : Nat → Nat) (H' : Heap) (locs' : List Loc), J h' → lw_S g s σ' H' locs' h' → σ' 0 = σ 0 → σ' 82 = σ 82 → W p l e room_1 s m #[Value.ref b] below meth c H' locs' (cells + 40) (slots + 11900) Qz (F0 m 1606 ls [])) : W p l e room_1 s m #[Value.ref b] below meth c H locs cells slots Qz (F0 m 1448 ls []) := by
  refine lv_aload_n C.1 C.2.1 dL_law_1448 rfl (lv_at hl 1 rfl) ?_
  refine lv_aload_n C.1 C.2.1 dL_law_1449 rfl (lv_at hl 0 rfl) ?_
  refine lv_iload_n C.1 C.2.1 dL_law_1450 rfl (lv_at hl 3 rfl) ?_
  refine lv_iconst (v := 1) C.1 C.2.1 dL_law_1451 (by decide) ?_
  refine lv_iadd C.1 C.2.1 dL_law_1452 ?_
  refine lw_sld C S (show vp_in (nI j + 1) L from lw_ix (k := 1) (by omega) hL) dL_law_1453 ?_
  refine lv_aload_n C.1 C.2.1 dL_law_1454 rfl (lv_at hl 0 rfl) ?_
  refine lv_iload_n C.1 C.2.1 dL_law_1455 rfl (lv_at hl 3 rfl) ?_
  refine lv_iconst (v := 2) C.1 C.2.1 dL_law_1456 (by decide) ?_
  refine lv_iadd C.1 C.2.1 dL_law_1457 ?_
  refine lw_sld C S (show vp_in (nI j + 2) L from lw_ix (k := 2) (by omega) hL) dL_law_1458 ?_
  refine lv_aload_n C.1 C.2.1 dL_law_1459 rfl (lv_at hl 0 rfl) ?_
  refine lv_iload_n C.1 C.2.1 dL_law_1460 rfl (lv_at hl 3 rfl) ?_
  refine lv_iconst (v := 3) C.1 C.2.1 dL_law_1461 (by decide) ?_
  refine lv_iadd C.1 C.2.1 dL_law_1462 ?_
  refine lw_sld C S (show vp_in (nI j + 3) L from lw_ix (k := 3) (by omega) hL) dL_law_1463 ?_
  refine lv_aload_n C.1 C.2.1 dL_law_1464 rfl (lv_at hl 0 rfl) ?_
  refine lv_iload_n C.1 C.2.1 dL_law_1465 rfl (lv_at hl 3 rfl) ?_
  refine lv_iconst (v := 4) C.1 C.2.1 dL_law_1466 (by decide) ?_
  refine lv_iadd C.1 C.2.1 dL_law_1467 ?_
  refine lw_sld C S (show vp_in (nI j + 4) L from lw_ix (k := 4) (by omega) hL) dL_law_1468 ?_
  refine lw_callV C S (As := [.int (xs (nI j + 1).toNatClampNeg), .int (xs (nI j + 2).toNatClampNeg), .int (xs (nI j + 3).toNatClampNeg), .int (xs (nI j + 4).toNatClampNeg)]) (b0 := 0) (rest := []) (rc (xs (nI j + 1).toNatClampNeg) (xs (nI j + 2).toNatClampNeg) (xs (nI j + 3).toNatClampNeg) (xs (nI j + 4).toNatClampNeg) h hI) ⟨trivial, ⟨trivial, ⟨trivial, ⟨trivial, trivial⟩⟩⟩⟩ rfl Y_X11_drunk (lw_inT l_L_171) in_X11_drunk se_X11_drunk (sh_k (hSh h hI) 0 11 (by decide) rfl) (by decide) rfl rfl (by decide) hl.1 (show cells + 0 ≤ 600000 by omega) (show slots + 0 ≤ 7302250 by omega) (by decide) dL_law_1469 ?_
  rintro _ h1 σ1 H1 locs1 ⟨v, rfl, hs1, hM⟩ S1 e1 x1
  have hx0 := (hSh h hI).2.2
  have hl1 : lv_has ls 4 [(0, .ref b), (1, .ref (σ1 0)), (2, .ref (σ1 82)), (3, .int (nI j))] := by rw [e1 0 (by omega), e1 82 (by omega)]; exact hl
  refine lv_aload_n C.1 C.2.1 dL_law_1472 rfl (lv_at hl1 2 rfl) ?_
  refine lv_aload_n C.1 C.2.1 dL_law_1473 rfl (lv_at hl1 0 rfl) ?_
  refine lv_iload_n C.1 C.2.1 dL_law_1474 rfl (lv_at hl1 3 rfl) ?_
  refine lv_iconst (v := 1) C.1 C.2.1 dL_law_1475 (by decide) ?_
  refine lv_iadd C.1 C.2.1 dL_law_1476 ?_
  refine lw_sld C S1 (show vp_in (nI j + 1) L from lw_ix (k := 1) (by omega) hL) dL_law_1477 ?_
  refine lv_aload_n C.1 C.2.1 dL_law_1478 rfl (lv_at hl1 0 rfl) ?_
  refine lv_iload_n C.1 C.2.1 dL_law_1479 rfl (lv_at hl1 3 rfl) ?_
  refine lv_iconst (v := 2) C.1 C.2.1 dL_law_1480 (by decide) ?_
  refine lv_iadd C.1 C.2.1 dL_law_1481 ?_
  refine lw_sld C S1 (show vp_in (nI j + 2) L from lw_ix (k := 2) (by omega) hL) dL_law_1482 ?_
  refine lv_aload_n C.1 C.2.1 dL_law_1483 rfl (lv_at hl1 0 rfl) ?_
  refine lv_iload_n C.1 C.2.1 dL_law_1484 rfl (lv_at hl1 3 rfl) ?_
  refine lv_iconst (v := 3) C.1 C.2.1 dL_law_1485 (by decide) ?_
  refine lv_iadd C.1 C.2.1 dL_law_1486 ?_
  refine lw_sld C S1 (show vp_in (nI j + 3) L from lw_ix (k := 3) (by omega) hL) dL_law_1487 ?_
  refine lv_aload_n C.1 C.2.1 dL_law_1488 rfl (lv_at hl1 0 rfl) ?_
  refine lv_iload_n C.1 C.2.1 dL_law_1489 rfl (lv_at hl1 3 rfl) ?_
  refine lv_iconst (v := 4) C.1 C.2.1 dL_law_1490 (by decide) ?_
  refine lv_iadd C.1 C.2.1 dL_law_1491 ?_
  refine lw_sld C S1 (show vp_in (nI j + 4) L from lw_ix (k := 4) (by omega) hL) dL_law_1492 ?_
  refine lw_callV C S1 (As := [.int (xs (nI j + 1).toNatClampNeg), .int (xs (nI j + 2).toNatClampNeg), .int (xs (nI j + 3).toNatClampNeg), .int (xs (nI j + 4).toNatClampNeg)]) (b0 := 82) (rest := [.int v]) hM ⟨trivial, ⟨trivial, ⟨trivial, ⟨trivial, trivial⟩⟩⟩⟩ rfl Y_X12_drunk (lw_inT l_L_174) in_X12_drunk se_X12_drunk (sh_k hs1 82 12 (by decide) rfl) (by decide) rfl rfl (by decide) hl.1 (show cells + 0 + 0 ≤ 600000 by omega) (show slots + 0 + 0 ≤ 7302250 by omega) (Nat.le_of_ble_eq_true rfl) dL_law_1493 ?_
  rintro _ h2 σ2 H2 locs2 ⟨w, rfl, hvw, hI2⟩ S2 e2 x2
  refine lv_icmp_eq (x := v) (y := w) (tgt := 1606) C.1 C.2.1 dL_law_1496 (by decide) (fun _ => ?_) (fun q => absurd hvw q)
  exact W.widen (k := cells + 40) (n := slots + 11900) (show cells + 0 + 0 ≤ cells + 40 by omega) (show slots + 0 + 0 ≤ slots + 11900 by omega) (kk h2 σ2 H2 locs2 hI2 S2 ((e2 0 (by omega)).trans (e1 0 (by omega))) ((e2 82 (by omega)).trans (e1 82 (by omega))))
set_option maxRecDepth 20000 in
theorem lw_case_39 (C : lw_C p s m meth c g b L xs) (hSh : ∀ h, Inv h → Sh h) (rc : ∀ a0 : Int32, lw_RC Inv J mX11_drawn mX12_drawn [.int a0]) (S : lw_S g s σ H locs h) (hI : Inv h) (hl : lv_has ls 4 [(0, .ref b), (1, .ref (σ 0)), (2, .ref (σ 82)), (3, .int (nI j))]) (hj : j + 6 ≤ L) (hL : L ≤ 3072) (hc : cells + 40 ≤ 600000) (hs : slots + 11900 ≤ 7302250)
    (kk : ∀ (h' : ah_T) (σ' : Nat → Nat) (H' : Heap) (locs' : List Loc), J h' → lw_S g s σ' H' locs' h' → σ' 0 = σ 0 → σ' 82 = σ 82 → W p l e room_1 s m #[Value.ref b] below meth c H' locs' (cells + 40) (slots + 11900) Qz (F0 m 1606 ls [])) : W p l e room_1 s m #[Value.ref b] below meth c H locs cells slots Qz (F0 m 1501 ls []) := by
  refine lv_aload_n C.1 C.2.1 dL_law_1501 rfl (lv_at hl 1 rfl) ?_
  refine lv_aload_n C.1 C.2.1 dL_law_1502 rfl (lv_at hl 0 rfl) ?_
  refine lv_iload_n C.1 C.2.1 dL_law_1503 rfl (lv_at hl 3 rfl) ?_
  refine lv_iconst (v := 1) C.1 C.2.1 dL_law_1504 (by decide) ?_
  refine lv_iadd C.1 C.2.1 dL_law_1505 ?_
  refine lw_sld C S (show vp_in (nI j + 1) L from lw_ix (k := 1) (by omega) hL) dL_law_1506 ?_
  refine lw_callV C S (As := [.int (xs (nI j + 1).toNatClampNeg)]) (b0 := 0) (rest := []) (rc (xs (nI j + 1).toNatClampNeg) h hI) ⟨trivial, trivial⟩ rfl Y_X11_drawn (lw_inT l_L_175) in_X11_drawn se_X11_drawn (sh_k (hSh h hI) 0 11 (by decide) rfl) (by decide) rfl rfl (by decide) hl.1 (show cells + 0 ≤ 600000 by omega) (show slots + 0 ≤ 7302250 by omega) (by decide) dL_law_1507 ?_
  rintro _ h1 σ1 H1 locs1 ⟨v, rfl, hs1, hM⟩ S1 e1 x1
  have hx0 := (hSh h hI).2.2
  have hl1 : lv_has ls 4 [(0, .ref b), (1, .ref (σ1 0)), (2, .ref (σ1 82)), (3, .int (nI j))] := by rw [e1 0 (by omega), e1 82 (by omega)]; exact hl
  refine lv_aload_n C.1 C.2.1 dL_law_1510 rfl (lv_at hl1 2 rfl) ?_
  refine lv_aload_n C.1 C.2.1 dL_law_1511 rfl (lv_at hl1 0 rfl) ?_
  refine lv_iload_n C.1 C.2.1 dL_law_1512 rfl (lv_at hl1 3 rfl) ?_
  refine lv_iconst (v := 1) C.1 C.2.1 dL_law_1513 (by decide) ?_
  refine lv_iadd C.1 C.2.1 dL_law_1514 ?_
  refine lw_sld C S1 (show vp_in (nI j + 1) L from lw_ix (k := 1) (by omega) hL) dL_law_1515 ?_
  refine lw_callV C S1 (As := [.int (xs (nI j + 1).toNatClampNeg)]) (b0 := 82) (rest := [.int v]) hM ⟨trivial, trivial⟩ rfl Y_X12_drawn (lw_inT l_L_178) in_X12_drawn se_X12_drawn (sh_k hs1 82 12 (by decide) rfl) (by decide) rfl rfl (by decide) hl.1 (show cells + 0 + 0 ≤ 600000 by omega) (show slots + 0 + 0 ≤ 7302250 by omega) (Nat.le_of_ble_eq_true rfl) dL_law_1516 ?_
  rintro _ h2 σ2 H2 locs2 ⟨w, rfl, hvw, hI2⟩ S2 e2 x2
  refine lv_icmp_eq (x := v) (y := w) (tgt := 1606) C.1 C.2.1 dL_law_1519 (by decide) (fun _ => ?_) (fun q => absurd hvw q)
  exact W.widen (k := cells + 40) (n := slots + 11900) (show cells + 0 + 0 ≤ cells + 40 by omega) (show slots + 0 + 0 ≤ slots + 11900 by omega) (kk h2 σ2 H2 locs2 hI2 S2 ((e2 0 (by omega)).trans (e1 0 (by omega))) ((e2 82 (by omega)).trans (e1 82 (by omega))))
set_option maxRecDepth 20000 in
theorem lw_case_40 (C : lw_C p s m meth c g b L xs) (hSh : ∀ h, Inv h → Sh h) (rc : ∀ a0 : Int32, lw_RC Inv J mX11_image mX12_image [.int a0]) (S : lw_S g s σ H locs h) (hI : Inv h) (hl : lv_has ls 4 [(0, .ref b), (1, .ref (σ 0)), (2, .ref (σ 82)), (3, .int (nI j))]) (hj : j + 6 ≤ L) (hL : L ≤ 3072) (hc : cells + 40 ≤ 600000) (hs : slots + 11900 ≤ 7302250)
    (kk : ∀ (h' : ah_T) (σ' : Nat → Nat) (H' : Heap) (locs' : List Loc), J h' → lw_S g s σ' H' locs' h' → σ' 0 = σ 0 → σ' 82 = σ 82 → W p l e room_1 s m #[Value.ref b] below meth c H' locs' (cells + 40) (slots + 11900) Qz (F0 m 1606 ls [])) : W p l e room_1 s m #[Value.ref b] below meth c H locs cells slots Qz (F0 m 1524 ls []) := by
  refine lv_aload_n C.1 C.2.1 dL_law_1524 rfl (lv_at hl 1 rfl) ?_
  refine lv_aload_n C.1 C.2.1 dL_law_1525 rfl (lv_at hl 0 rfl) ?_
  refine lv_iload_n C.1 C.2.1 dL_law_1526 rfl (lv_at hl 3 rfl) ?_
  refine lv_iconst (v := 1) C.1 C.2.1 dL_law_1527 (by decide) ?_
  refine lv_iadd C.1 C.2.1 dL_law_1528 ?_
  refine lw_sld C S (show vp_in (nI j + 1) L from lw_ix (k := 1) (by omega) hL) dL_law_1529 ?_
  refine lw_callV C S (As := [.int (xs (nI j + 1).toNatClampNeg)]) (b0 := 0) (rest := []) (rc (xs (nI j + 1).toNatClampNeg) h hI) ⟨trivial, trivial⟩ rfl Y_X11_image (lw_inT l_L_179) in_X11_image se_X11_image (sh_k (hSh h hI) 0 11 (by decide) rfl) (by decide) rfl rfl (by decide) hl.1 (show cells + 16 ≤ 600000 by omega) (show slots + 700 ≤ 7302250 by omega) (by decide) dL_law_1530 ?_
  rintro _ h1 σ1 H1 locs1 ⟨v, rfl, hs1, hM⟩ S1 e1 x1
  have hx0 := (hSh h hI).2.2
  have hl1 : lv_has ls 4 [(0, .ref b), (1, .ref (σ1 0)), (2, .ref (σ1 82)), (3, .int (nI j))] := by rw [e1 0 (by omega), e1 82 (by omega)]; exact hl
  refine lv_aload_n C.1 C.2.1 dL_law_1533 rfl (lv_at hl1 2 rfl) ?_
  refine lv_aload_n C.1 C.2.1 dL_law_1534 rfl (lv_at hl1 0 rfl) ?_
  refine lv_iload_n C.1 C.2.1 dL_law_1535 rfl (lv_at hl1 3 rfl) ?_
  refine lv_iconst (v := 1) C.1 C.2.1 dL_law_1536 (by decide) ?_
  refine lv_iadd C.1 C.2.1 dL_law_1537 ?_
  refine lw_sld C S1 (show vp_in (nI j + 1) L from lw_ix (k := 1) (by omega) hL) dL_law_1538 ?_
  refine lw_callV C S1 (As := [.int (xs (nI j + 1).toNatClampNeg)]) (b0 := 82) (rest := [.int v]) hM ⟨trivial, trivial⟩ rfl Y_X12_image (lw_inT l_L_182) in_X12_image se_X12_image (sh_k hs1 82 12 (by decide) rfl) (by decide) rfl rfl (by decide) hl.1 (show cells + 16 + 0 ≤ 600000 by omega) (show slots + 700 + 0 ≤ 7302250 by omega) (Nat.le_of_ble_eq_true rfl) dL_law_1539 ?_
  rintro _ h2 σ2 H2 locs2 ⟨w, rfl, hvw, hI2⟩ S2 e2 x2
  refine lv_icmp_eq (x := v) (y := w) (tgt := 1606) C.1 C.2.1 dL_law_1542 (by decide) (fun _ => ?_) (fun q => absurd hvw q)
  exact W.widen (k := cells + 40) (n := slots + 11900) (show cells + 16 + 0 ≤ cells + 40 by omega) (show slots + 700 + 0 ≤ slots + 11900 by omega) (kk h2 σ2 H2 locs2 hI2 S2 ((e2 0 (by omega)).trans (e1 0 (by omega))) ((e2 82 (by omega)).trans (e1 82 (by omega))))
set_option maxRecDepth 20000 in
theorem lw_case_41 (C : lw_C p s m meth c g b L xs) (hSh : ∀ h, Inv h → Sh h) (rc : ∀ a0 : Int32, lw_RC Inv J mX11_back mX12_back [.int a0]) (S : lw_S g s σ H locs h) (hI : Inv h) (hl : lv_has ls 4 [(0, .ref b), (1, .ref (σ 0)), (2, .ref (σ 82)), (3, .int (nI j))]) (hj : j + 6 ≤ L) (hL : L ≤ 3072) (hc : cells + 40 ≤ 600000) (hs : slots + 11900 ≤ 7302250)
    (kk : ∀ (h' : ah_T) (σ' : Nat → Nat) (H' : Heap) (locs' : List Loc), J h' → lw_S g s σ' H' locs' h' → σ' 0 = σ 0 → σ' 82 = σ 82 → W p l e room_1 s m #[Value.ref b] below meth c H' locs' (cells + 40) (slots + 11900) Qz (F0 m 1606 ls [])) : W p l e room_1 s m #[Value.ref b] below meth c H locs cells slots Qz (F0 m 1547 ls []) := by
  refine lv_aload_n C.1 C.2.1 dL_law_1547 rfl (lv_at hl 1 rfl) ?_
  refine lv_aload_n C.1 C.2.1 dL_law_1548 rfl (lv_at hl 0 rfl) ?_
  refine lv_iload_n C.1 C.2.1 dL_law_1549 rfl (lv_at hl 3 rfl) ?_
  refine lv_iconst (v := 1) C.1 C.2.1 dL_law_1550 (by decide) ?_
  refine lv_iadd C.1 C.2.1 dL_law_1551 ?_
  refine lw_sld C S (show vp_in (nI j + 1) L from lw_ix (k := 1) (by omega) hL) dL_law_1552 ?_
  refine lw_callV C S (As := [.int (xs (nI j + 1).toNatClampNeg)]) (b0 := 0) (rest := []) (rc (xs (nI j + 1).toNatClampNeg) h hI) ⟨trivial, trivial⟩ rfl Y_X11_back (lw_inT l_L_183) in_X11_back se_X11_back (sh_k (hSh h hI) 0 11 (by decide) rfl) (by decide) rfl rfl (by decide) hl.1 (show cells + 0 ≤ 600000 by omega) (show slots + 0 ≤ 7302250 by omega) (by decide) dL_law_1553 ?_
  rintro _ h1 σ1 H1 locs1 ⟨v, rfl, hs1, hM⟩ S1 e1 x1
  have hx0 := (hSh h hI).2.2
  have hl1 : lv_has ls 4 [(0, .ref b), (1, .ref (σ1 0)), (2, .ref (σ1 82)), (3, .int (nI j))] := by rw [e1 0 (by omega), e1 82 (by omega)]; exact hl
  refine lv_aload_n C.1 C.2.1 dL_law_1556 rfl (lv_at hl1 2 rfl) ?_
  refine lv_aload_n C.1 C.2.1 dL_law_1557 rfl (lv_at hl1 0 rfl) ?_
  refine lv_iload_n C.1 C.2.1 dL_law_1558 rfl (lv_at hl1 3 rfl) ?_
  refine lv_iconst (v := 1) C.1 C.2.1 dL_law_1559 (by decide) ?_
  refine lv_iadd C.1 C.2.1 dL_law_1560 ?_
  refine lw_sld C S1 (show vp_in (nI j + 1) L from lw_ix (k := 1) (by omega) hL) dL_law_1561 ?_
  refine lw_callV C S1 (As := [.int (xs (nI j + 1).toNatClampNeg)]) (b0 := 82) (rest := [.int v]) hM ⟨trivial, trivial⟩ rfl Y_X12_back (lw_inT l_L_186) in_X12_back se_X12_back (sh_k hs1 82 12 (by decide) rfl) (by decide) rfl rfl (by decide) hl.1 (show cells + 0 + 0 ≤ 600000 by omega) (show slots + 0 + 0 ≤ 7302250 by omega) (Nat.le_of_ble_eq_true rfl) dL_law_1562 ?_
  rintro _ h2 σ2 H2 locs2 ⟨w, rfl, hvw, hI2⟩ S2 e2 x2
  refine lv_icmp_eq (x := v) (y := w) (tgt := 1606) C.1 C.2.1 dL_law_1565 (by decide) (fun _ => ?_) (fun q => absurd hvw q)
  exact W.widen (k := cells + 40) (n := slots + 11900) (show cells + 0 + 0 ≤ cells + 40 by omega) (show slots + 0 + 0 ≤ slots + 11900 by omega) (kk h2 σ2 H2 locs2 hI2 S2 ((e2 0 (by omega)).trans (e1 0 (by omega))) ((e2 82 (by omega)).trans (e1 82 (by omega))))
set_option maxRecDepth 20000 in
theorem lw_case_42 (C : lw_C p s m meth c g b L xs) (hSh : ∀ h, Inv h → Sh h) (rc : ∀ a0 : Int32, lw_RC Inv J mX11_count mX12_count [.int a0]) (S : lw_S g s σ H locs h) (hI : Inv h) (hl : lv_has ls 4 [(0, .ref b), (1, .ref (σ 0)), (2, .ref (σ 82)), (3, .int (nI j))]) (hj : j + 6 ≤ L) (hL : L ≤ 3072) (hc : cells + 40 ≤ 600000) (hs : slots + 11900 ≤ 7302250)
    (kk : ∀ (h' : ah_T) (σ' : Nat → Nat) (H' : Heap) (locs' : List Loc), J h' → lw_S g s σ' H' locs' h' → σ' 0 = σ 0 → σ' 82 = σ 82 → W p l e room_1 s m #[Value.ref b] below meth c H' locs' (cells + 40) (slots + 11900) Qz (F0 m 1606 ls [])) : W p l e room_1 s m #[Value.ref b] below meth c H locs cells slots Qz (F0 m 1570 ls []) := by
  refine lv_aload_n C.1 C.2.1 dL_law_1570 rfl (lv_at hl 1 rfl) ?_
  refine lv_aload_n C.1 C.2.1 dL_law_1571 rfl (lv_at hl 0 rfl) ?_
  refine lv_iload_n C.1 C.2.1 dL_law_1572 rfl (lv_at hl 3 rfl) ?_
  refine lv_iconst (v := 1) C.1 C.2.1 dL_law_1573 (by decide) ?_
  refine lv_iadd C.1 C.2.1 dL_law_1574 ?_
  refine lw_sld C S (show vp_in (nI j + 1) L from lw_ix (k := 1) (by omega) hL) dL_law_1575 ?_
  refine lw_callV C S (As := [.int (xs (nI j + 1).toNatClampNeg)]) (b0 := 0) (rest := []) (rc (xs (nI j + 1).toNatClampNeg) h hI) ⟨trivial, trivial⟩ rfl Y_X11_count (lw_inT l_L_187) in_X11_count se_X11_count (sh_k (hSh h hI) 0 11 (by decide) rfl) (by decide) rfl rfl (by decide) hl.1 (show cells + 0 ≤ 600000 by omega) (show slots + 0 ≤ 7302250 by omega) (by decide) dL_law_1576 ?_
  rintro _ h1 σ1 H1 locs1 ⟨v, rfl, hs1, hM⟩ S1 e1 x1
  have hx0 := (hSh h hI).2.2
  have hl1 : lv_has ls 4 [(0, .ref b), (1, .ref (σ1 0)), (2, .ref (σ1 82)), (3, .int (nI j))] := by rw [e1 0 (by omega), e1 82 (by omega)]; exact hl
  refine lv_aload_n C.1 C.2.1 dL_law_1579 rfl (lv_at hl1 2 rfl) ?_
  refine lv_aload_n C.1 C.2.1 dL_law_1580 rfl (lv_at hl1 0 rfl) ?_
  refine lv_iload_n C.1 C.2.1 dL_law_1581 rfl (lv_at hl1 3 rfl) ?_
  refine lv_iconst (v := 1) C.1 C.2.1 dL_law_1582 (by decide) ?_
  refine lv_iadd C.1 C.2.1 dL_law_1583 ?_
  refine lw_sld C S1 (show vp_in (nI j + 1) L from lw_ix (k := 1) (by omega) hL) dL_law_1584 ?_
  refine lw_callV C S1 (As := [.int (xs (nI j + 1).toNatClampNeg)]) (b0 := 82) (rest := [.int v]) hM ⟨trivial, trivial⟩ rfl Y_X12_count (lw_inT l_L_190) in_X12_count se_X12_count (sh_k hs1 82 12 (by decide) rfl) (by decide) rfl rfl (by decide) hl.1 (show cells + 0 + 0 ≤ 600000 by omega) (show slots + 0 + 0 ≤ 7302250 by omega) (Nat.le_of_ble_eq_true rfl) dL_law_1585 ?_
  rintro _ h2 σ2 H2 locs2 ⟨w, rfl, hvw, hI2⟩ S2 e2 x2
  refine lv_icmp_eq (x := v) (y := w) (tgt := 1606) C.1 C.2.1 dL_law_1588 (by decide) (fun _ => ?_) (fun q => absurd hvw q)
  exact W.widen (k := cells + 40) (n := slots + 11900) (show cells + 0 + 0 ≤ cells + 40 by omega) (show slots + 0 + 0 ≤ slots + 11900 by omega) (kk h2 σ2 H2 locs2 hI2 S2 ((e2 0 (by omega)).trans (e1 0 (by omega))) ((e2 82 (by omega)).trans (e1 82 (by omega))))
set_option maxRecDepth 20000 in
theorem lw_case_43 (C : lw_C p s m meth c g b L xs) (hSh : ∀ h, Inv h → Sh h) (rc : lw_RC Inv J mX11_status mX12_status []) (S : lw_S g s σ H locs h) (hI : Inv h) (hl : lv_has ls 4 [(0, .ref b), (1, .ref (σ 0)), (2, .ref (σ 82)), (3, .int (nI j))]) (hj : j + 6 ≤ L) (hL : L ≤ 3072) (hc : cells + 40 ≤ 600000) (hs : slots + 11900 ≤ 7302250)
    (kk : ∀ (h' : ah_T) (σ' : Nat → Nat) (H' : Heap) (locs' : List Loc), J h' → lw_S g s σ' H' locs' h' → σ' 0 = σ 0 → σ' 82 = σ 82 → W p l e room_1 s m #[Value.ref b] below meth c H' locs' (cells + 40) (slots + 11900) Qz (F0 m 1606 ls [])) : W p l e room_1 s m #[Value.ref b] below meth c H locs cells slots Qz (F0 m 1593 ls []) := by
  refine lv_aload_n C.1 C.2.1 dL_law_1593 rfl (lv_at hl 1 rfl) ?_
  refine lw_callV C S (As := []) (b0 := 0) (rest := []) (rc h hI) trivial rfl Y_X11_status (lw_inT l_L_191) in_X11_status se_X11_status (sh_k (hSh h hI) 0 11 (by decide) rfl) (by decide) rfl rfl (by decide) hl.1 (show cells + 0 ≤ 600000 by omega) (show slots + 0 ≤ 7302250 by omega) (by decide) dL_law_1594 ?_
  rintro _ h1 σ1 H1 locs1 ⟨v, rfl, hs1, hM⟩ S1 e1 x1
  have hx0 := (hSh h hI).2.2
  have hl1 : lv_has ls 4 [(0, .ref b), (1, .ref (σ1 0)), (2, .ref (σ1 82)), (3, .int (nI j))] := by rw [e1 0 (by omega), e1 82 (by omega)]; exact hl
  refine lv_aload_n C.1 C.2.1 dL_law_1597 rfl (lv_at hl1 2 rfl) ?_
  refine lw_callV C S1 (As := []) (b0 := 82) (rest := [.int v]) hM trivial rfl Y_X12_status (lw_inT l_L_194) in_X12_status se_X12_status (sh_k hs1 82 12 (by decide) rfl) (by decide) rfl rfl (by decide) hl.1 (show cells + 0 + 0 ≤ 600000 by omega) (show slots + 0 + 0 ≤ 7302250 by omega) (Nat.le_of_ble_eq_true rfl) dL_law_1598 ?_
  rintro _ h2 σ2 H2 locs2 ⟨w, rfl, hvw, hI2⟩ S2 e2 x2
  refine lv_icmp_eq (x := v) (y := w) (tgt := 1606) C.1 C.2.1 dL_law_1601 (by decide) (fun _ => ?_) (fun q => absurd hvw q)
  exact W.widen (k := cells + 40) (n := slots + 11900) (show cells + 0 + 0 ≤ cells + 40 by omega) (show slots + 0 + 0 ≤ slots + 11900 by omega) (kk h2 σ2 H2 locs2 hI2 S2 ((e2 0 (by omega)).trans (e1 0 (by omega))) ((e2 82 (by omega)).trans (e1 82 (by omega))))
end LAWC
/-- every public method of the class beside the model's -/
def lw_All (Inv J : ah_T → Prop) : Prop :=
  (∀ a0 a1 : Int32, lw_RC Inv J mX11_way mX12_way [.int a0, .int a1]) ∧
  (∀ a0 a1 : Int32, lw_RC Inv J mX11_shutter mX12_shutter [.int a0, .int a1]) ∧
  (∀ a0 a1 : Int32, lw_RC Inv J mX11_of mX12_of [.int a0, .int a1]) ∧
  (∀ a0 a1 a2 : Int32, lw_RC Inv J mX11_far mX12_far [.int a0, .int a1, .int a2]) ∧
  (∀ a0 a1 a2 : Int32, lw_RC Inv J mX11_lamp mX12_lamp [.int a0, .int a1, .int a2]) ∧
  (∀ a0 a1 a2 : Int32, lw_RC Inv J mX11_put mX12_put [.int a0, .int a1, .int a2]) ∧
  (∀ a0 a1 : Int32, lw_RC Inv J mX11_fact mX12_fact [.int a0, .int a1]) ∧
  (∀ a0 a1 a2 : Int32, lw_RC Inv J mX11_turn mX12_turn [.int a0, .int a1, .int a2]) ∧
  (lw_RC Inv J mX11_undo mX12_undo []) ∧
  (∀ a0 a1 a2 : Int32, lw_RC Inv J mX11_lantern mX12_lantern [.int a0, .int a1, .int a2]) ∧
  (∀ a0 a1 : Int32, lw_RC Inv J mX11_go mX12_go [.int a0, .int a1]) ∧
  (lw_RC Inv J mX11_doused mX12_doused []) ∧
  (∀ a0 a1 a2 : Int32, lw_RC Inv J mX11_errand mX12_errand [.int a0, .int a1, .int a2]) ∧
  (∀ a0 a1 : Int32, lw_RC Inv J mX11_terms mX12_terms [.int a0, .int a1]) ∧
  (∀ a0 a1 a2 a3 a4 : Int32, lw_RC Inv J mX11_feed mX12_feed [.int a0, .int a1, .int a2, .int a3, .int a4]) ∧
  (∀ a0 : Int32, lw_RC Inv J mX11_end mX12_end [.int a0]) ∧
  (lw_RC Inv J mX11_row mX12_row []) ∧
  (lw_RC Inv J mX11_ash mX12_ash []) ∧
  (lw_RC Inv J mX11_law mX12_law []) ∧
  (lw_RC Inv J mX11_rounds mX12_rounds []) ∧
  (lw_RC Inv J mX11_fault mX12_fault []) ∧
  (lw_RC Inv J mX11_stopped mX12_stopped []) ∧
  (∀ a0 : Int32, lw_RC Inv J mX11_force mX12_force [.int a0]) ∧
  (∀ a0 a1 a2 a3 : Int32, lw_RC Inv J mX11_asks mX12_asks [.int a0, .int a1, .int a2, .int a3]) ∧
  (∀ a0 a1 a2 : Int32, lw_RC Inv J mX11_burns mX12_burns [.int a0, .int a1, .int a2]) ∧
  (∀ a0 : Int32, lw_RC Inv J mX11_bright mX12_bright [.int a0]) ∧
  (∀ a0 a1 : Int32, lw_RC Inv J mX11_night mX12_night [.int a0, .int a1]) ∧
  (∀ a0 : Int32, lw_RC Inv J mX11_judge mX12_judge [.int a0]) ∧
  (∀ a0 a1 : Int32, lw_RC Inv J mX11_round mX12_round [.int a0, .int a1]) ∧
  (∀ a0 a1 a2 a3 a4 : Int32, lw_RC Inv J mX11_walk mX12_walk [.int a0, .int a1, .int a2, .int a3, .int a4]) ∧
  (∀ a0 a1 a2 a3 a4 : Int32, lw_RC Inv J mX11_worst mX12_worst [.int a0, .int a1, .int a2, .int a3, .int a4]) ∧
  (∀ a0 a1 a2 a3 a4 : Int32, lw_RC Inv J mX11_hang mX12_hang [.int a0, .int a1, .int a2, .int a3, .int a4]) ∧
  (∀ a0 : Int32, lw_RC Inv J mX11_shutters mX12_shutters [.int a0]) ∧
  (∀ a0 a1 : Int32, lw_RC Inv J mX11_would mX12_would [.int a0, .int a1]) ∧
  (∀ a0 a1 a2 : Int32, lw_RC Inv J mX11_soot mX12_soot [.int a0, .int a1, .int a2]) ∧
  (lw_RC Inv J mX11_sweep mX12_sweep []) ∧
  (∀ a0 : Int32, lw_RC Inv J mX11_stranger mX12_stranger [.int a0]) ∧
  (∀ a0 : Int32, lw_RC Inv J mX11_changed mX12_changed [.int a0]) ∧
  (∀ a0 a1 a2 a3 : Int32, lw_RC Inv J mX11_drunk mX12_drunk [.int a0, .int a1, .int a2, .int a3]) ∧
  (∀ a0 : Int32, lw_RC Inv J mX11_drawn mX12_drawn [.int a0]) ∧
  (∀ a0 : Int32, lw_RC Inv J mX11_image mX12_image [.int a0]) ∧
  (∀ a0 : Int32, lw_RC Inv J mX11_back mX12_back [.int a0]) ∧
  (∀ a0 : Int32, lw_RC Inv J mX11_count mX12_count [.int a0]) ∧
  (lw_RC Inv J mX11_status mX12_status [])
