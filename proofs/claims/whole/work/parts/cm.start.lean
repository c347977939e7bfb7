/-! ===== the law, from its entry, whole ===== -/
set_option maxHeartbeats 4000000 in
set_option maxRecDepth 100000 in
theorem whole_start {p : Program} {e : Env} {s : State} {m : MethodId} {below : List Frame} {meth : Method} {c : Code} (l : Launch) (hflags : l.flags = flags0) {b L : Nat} {xs : Nat → Int32} (hL : L ≤ 3072) (C0 : lw_At p s m meth c b L xs) : W p l e room_1 s m #[Value.ref b] below meth c s.heap [] 0 0 (lw_Z below #[Value.ref b] s) (entryFrame m ([Value.ref b] : List Value).toArray 4) := by
  obtain ⟨g, C⟩ := ls_C C0
  have hl := lv_entry ([.ref b]) (n := 4) (Nat.le_of_ble_eq_true rfl)
  rw [lg_entry_eq]
  generalize (lg_sl ([.ref b]) ++ List.replicate (4 - (lg_sl ([.ref b])).length) Slot.unset).toArray = ls at hl ⊢
  have hl : lv_has ls 4 [(0, .ref b)] := hl
  refine lw_new C ls_S k_L_7 (Nat.le_of_ble_eq_true rfl) (Nat.le_of_ble_eq_true rfl) dL_law_0 (fun σ1 H1 locs1 S1 _ => ?_)
  rw [dn_nw] at S1
  refine lv_dup C.1 C.2.1 dL_law_3 rfl ?_
  refine lw_callI (b0 := 0) (M' := nX11_init) (Q' := fun r h => r = none ∧ h = dn kC) C S1 (init_c (Q := fun r h => r = none ∧ h = dn kC) ⟨rfl, rfl⟩) Y_X11_init rfl rfl (lw_inT l_L_9) in_X11_init (by decide) (Nat.le_of_ble_eq_true rfl) hl.1 (Nat.le_of_ble_eq_true rfl) (Nat.le_of_ble_eq_true rfl) (Nat.le_of_ble_eq_true rfl) dL_law_4 (fun r h' σ2 H2 locs2 hq S2 e2 x2 => ?_)
  obtain ⟨rfl, rfl⟩ := hq
  have hs1 : σ2 0 = σ1 0 := e2 0 (by decide)
  refine lv_astore_n (lv' := [(1, .ref (σ2 0)), (0, .ref b)]) C.1 C.2.1 dL_law_7 rfl hl (by decide) (by rw [hs1]; rfl) (fun ls1 hl1 => ?_)
  refine lw_new C S2 k_L_10 (Nat.le_of_ble_eq_true rfl) (Nat.le_of_ble_eq_true rfl) dL_law_8 (fun σ3 H3 locs3 S3 e3 => ?_)
  rw [dn_nw] at S3
  have hxc : ah_x (dn kC) = 82 := by decide +kernel
  rw [hxc]
  refine lv_dup C.1 C.2.1 dL_law_11 rfl ?_
  refine lw_callI (b0 := 82) (M' := nX12_init) (Q' := fun r h => r = none ∧ h = dn kM) C S3 (init_m (Q := fun r h => r = none ∧ h = dn kM) ⟨rfl, rfl⟩) Y_X12_init rfl rfl (lw_inT l_L_12) in_X12_init (by decide +kernel) (Nat.le_of_ble_eq_true rfl) hl1.1 (Nat.le_of_ble_eq_true rfl) (Nat.le_of_ble_eq_true rfl) (Nat.le_of_ble_eq_true rfl) dL_law_12 (fun r h' σ4 H4 locs4 hq S4 e4 x4 => ?_)
  obtain ⟨rfl, rfl⟩ := hq
  have hx3 : ah_x (dn (kC ++ [(12, 0, [], [], [])])) = 83 := by decide +kernel
  have hs2 : σ4 82 = σ3 82 := e4 82 (by rw [hx3]; omega)
  have hs3 : σ4 0 = σ2 0 := (e4 0 (by rw [hx3]; omega)).trans (e3 0 (by rw [hxc]; omega))
  refine lv_astore_n (lv' := [(2, .ref (σ4 82)), (1, .ref (σ4 0)), (0, .ref b)]) C.1 C.2.1 dL_law_15 rfl hl1 (by decide) (by rw [hs2, hs3]; rfl) (fun ls2 hl2 => ?_)
  refine lv_iconst (v := 0) C.1 C.2.1 dL_law_16 (by decide) ?_
  refine lv_istore_n (lv' := [(3, .int (nI 0)), (2, .ref (σ4 82)), (1, .ref (σ4 0)), (0, .ref b)]) C.1 C.2.1 dL_law_17 rfl hl2 (by decide) rfl (fun ls3 hl3 => ?_)
  exact lw_loop C (Inv := IV) IV_sh IV_mo all_c hL 513 0 (by omega) σ4 H4 locs4 _ ls3 _ _ (by omega) S4 iv_0 (lv_sub hl3 [3, 2, 1, 0] rfl) (Nat.le_of_ble_eq_true rfl) (Nat.le_of_ble_eq_true rfl)
