/-! ===== blocks of methods (printed by wip/whole/mkall.py) ===== -/
theorem dX12_faults_0 : decode cX12_faults 0 = .ok (.aload_n 0, 1) := by decide +kernel
theorem dX12_faults_1 : decode cX12_faults 1 = .ok (.invokevirtual 236, 3) := by decide +kernel
theorem dX12_faults_4 : decode cX12_faults 4 = .ok (.ifCond .eq 16, 3) := by decide +kernel
theorem dX12_faults_7 : decode cX12_faults 7 = .ok (.aload_n 0, 1) := by decide +kernel
theorem dX12_faults_8 : decode cX12_faults 8 = .ok (.aload_n 0, 1) := by decide +kernel
theorem dX12_faults_9 : decode cX12_faults 9 = .ok (.getfield 49, 3) := by decide +kernel
theorem dX12_faults_12 : decode cX12_faults 12 = .ok (.aload_n 0, 1) := by decide +kernel
theorem dX12_faults_13 : decode cX12_faults 13 = .ok (.getfield 240, 3) := by decide +kernel
theorem dX12_faults_16 : decode cX12_faults 16 = .ok (.iaload, 1) := by decide +kernel
theorem dX12_faults_17 : decode cX12_faults 17 = .ok (.putfield 233, 3) := by decide +kernel
theorem dX12_faults_20 : decode cX12_faults 20 = .ok (.return_, 1) := by decide +kernel
set_option maxRecDepth 20000 in
theorem T_X12_faults {Q : Option Value → ah_T → Prop} {h : ah_T} (hs : Sh h)  (ht : (((f_X12_fine h ) = 0 → Q none h) ∧ (¬ (f_X12_fine h ) = 0 → (vp_in (ah_i h 82 17) (ah_n h 92)) ∧ (∀ h3, h3 = ah_si h 82 19 (ah_i h 92 (Int32.toNatClampNeg (ah_i h 82 17))) → Q none h3)))) : Mt mX12_faults [.ref 82] h Q := by
  refine Mt.ofWp rfl (by exact (Nat.le_of_ble_eq_true rfl)) (Wp.fewer (L' := [some (.ref 82)]) (show ab_leL _ _ from ⟨rfl, trivial⟩) ?_)
  refine ab_aload_n (i := 0) dX12_faults_0 rfl rfl ?_
  refine ab_callV (b := 82) (Q' := fun r h' => r = some (.int (f_X12_fine h )) ∧ h = h') (As := []) (c_X12_fine hs  ⟨rfl, rfl⟩) (Y_X12_fine) l_X12_236 in_X12_fine se_X12_fine (sh_k hs 82 12 (by decide) rfl) (by decide) rfl rfl ⟨(Nat.le_of_ble_eq_true rfl), (Nat.le_of_ble_eq_true rfl), (Nat.le_of_ble_eq_true rfl), (Nat.le_of_ble_eq_true rfl)⟩ dX12_faults_1 ?_
  rintro _ _ ⟨rfl, rfl⟩
  refine ab_if_eq (tgt := 20) dX12_faults_4 (by decide) (fun c1 => ?_) (fun c1 => ?_)
  · have ht := ht.1 c1
    exact ab_vret rfl dX12_faults_20 (Nat.le_of_ble_eq_true rfl) (Nat.le_of_ble_eq_true rfl) ht
  · have ht := ht.2 c1
    refine ab_aload_n (i := 0) dX12_faults_7 rfl rfl ?_
    refine ab_aload_n (i := 0) dX12_faults_8 rfl rfl ?_
    refine ab_getR (b := 92) f_X12_49 rfl (sh_k hs 82 12 (by decide) rfl) (sh_r hs 108 rfl) dX12_faults_9 ?_
    refine ab_aload_n (i := 0) dX12_faults_12 rfl rfl ?_
    refine ab_getI f_X12_240 rfl (sh_k hs 82 12 (by decide) rfl) dX12_faults_13 ?_
    obtain ⟨hc2, ht⟩ := ht
    refine ab_iald (sh_k hs 92 14 (by decide) rfl) hc2 dX12_faults_16 ?_
    refine ab_putI f_X12_233 (Or.inl rfl) rfl (sh_k hs 82 12 (by decide) rfl) rfl rfl dX12_faults_17 ?_
    refine Wp.nm fun h3 e4 => ?_
    have ht := ht h3 e4
    have hs5 : Sh h3 := by rw [e4]; exact sh_si hs
    exact ab_vret rfl dX12_faults_20 (Nat.le_of_ble_eq_true rfl) (Nat.le_of_ble_eq_true rfl) ht
theorem dX12_takes0_0 : decode cX12_takes0 0 = .ok (.aload_n 0, 1) := by decide +kernel
theorem dX12_takes0_1 : decode cX12_takes0 1 = .ok (.invokevirtual 236, 3) := by decide +kernel
theorem dX12_takes0_4 : decode cX12_takes0 4 = .ok (.ifCond .eq 20, 3) := by decide +kernel
theorem dX12_takes0_7 : decode cX12_takes0 7 = .ok (.aload_n 0, 1) := by decide +kernel
theorem dX12_takes0_8 : decode cX12_takes0 8 = .ok (.getfield 43, 3) := by decide +kernel
theorem dX12_takes0_11 : decode cX12_takes0 11 = .ok (.aload_n 0, 1) := by decide +kernel
theorem dX12_takes0_12 : decode cX12_takes0 12 = .ok (.getfield 240, 3) := by decide +kernel
theorem dX12_takes0_15 : decode cX12_takes0 15 = .ok (.iaload, 1) := by decide +kernel
theorem dX12_takes0_16 : decode cX12_takes0 16 = .ok (.iload_n 1, 1) := by decide +kernel
theorem dX12_takes0_17 : decode cX12_takes0 17 = .ok (.if_icmp .ne 7, 3) := by decide +kernel
theorem dX12_takes0_20 : decode cX12_takes0 20 = .ok (.iconst 1, 1) := by decide +kernel
theorem dX12_takes0_21 : decode cX12_takes0 21 = .ok (.goto 4, 3) := by decide +kernel
theorem dX12_takes0_24 : decode cX12_takes0 24 = .ok (.iconst 0, 1) := by decide +kernel
theorem dX12_takes0_25 : decode cX12_takes0 25 = .ok (.istore_n 2, 1) := by decide +kernel
theorem dX12_takes0_26 : decode cX12_takes0 26 = .ok (.iload_n 2, 1) := by decide +kernel
theorem dX12_takes0_27 : decode cX12_takes0 27 = .ok (.ifCond .eq 13, 3) := by decide +kernel
theorem dX12_takes0_30 : decode cX12_takes0 30 = .ok (.aload_n 0, 1) := by decide +kernel
theorem dX12_takes0_31 : decode cX12_takes0 31 = .ok (.dup, 1) := by decide +kernel
theorem dX12_takes0_32 : decode cX12_takes0 32 = .ok (.getfield 240, 3) := by decide +kernel
theorem dX12_takes0_35 : decode cX12_takes0 35 = .ok (.iconst 1, 1) := by decide +kernel
theorem dX12_takes0_36 : decode cX12_takes0 36 = .ok (.iadd, 1) := by decide +kernel
theorem dX12_takes0_37 : decode cX12_takes0 37 = .ok (.putfield 240, 3) := by decide +kernel
theorem dX12_takes0_40 : decode cX12_takes0 40 = .ok (.iload_n 2, 1) := by decide +kernel
theorem dX12_takes0_41 : decode cX12_takes0 41 = .ok (.ireturn, 1) := by decide +kernel
set_option maxRecDepth 20000 in
theorem T_X12_takes0 {Q : Option Value → ah_T → Prop} {h : ah_T} (hs : Sh h) (x1 : Int32) (ht : (((f_X12_fine h ) = 0 → Q (some (.int 0)) h) ∧ (¬ (f_X12_fine h ) = 0 → (vp_in (ah_i h 82 17) (ah_n h 90)) ∧ ((¬ (ah_i h 90 (Int32.toNatClampNeg (ah_i h 82 17))) = x1 → Q (some (.int 0)) h) ∧ ((ah_i h 90 (Int32.toNatClampNeg (ah_i h 82 17))) = x1 → (∀ h4, h4 = ah_si h 82 17 ((ah_i h 82 17) + 1) → Q (some (.int 1)) h4)))))) : Mt mX12_takes0 [.ref 82, .int x1] h Q := by
  refine Mt.ofWp rfl (by exact (Nat.le_of_ble_eq_true rfl)) (Wp.fewer (L' := [some (.ref 82), some (.int x1), none]) (show ab_leL _ _ from ⟨rfl, ⟨rfl, trivial⟩⟩) ?_)
  refine ab_aload_n (i := 0) dX12_takes0_0 rfl rfl ?_
  refine ab_callV (b := 82) (Q' := fun r h' => r = some (.int (f_X12_fine h )) ∧ h = h') (As := []) (c_X12_fine hs  ⟨rfl, rfl⟩) (Y_X12_fine) l_X12_236 in_X12_fine se_X12_fine (sh_k hs 82 12 (by decide) rfl) (by decide) rfl rfl ⟨(Nat.le_of_ble_eq_true rfl), (Nat.le_of_ble_eq_true rfl), (Nat.le_of_ble_eq_true rfl), (Nat.le_of_ble_eq_true rfl)⟩ dX12_takes0_1 ?_
  rintro _ _ ⟨rfl, rfl⟩
  refine ab_if_eq (tgt := 24) dX12_takes0_4 (by decide) (fun c1 => ?_) (fun c1 => ?_)
  · have ht := ht.1 c1
    refine ab_iconst (v := 0) dX12_takes0_24 (by decide) ?_
    refine ab_istore_n (i := 2) (L' := [some (.ref 82), some (.int x1), some (.int 0)]) dX12_takes0_25 rfl (by exact (Nat.le_of_ble_eq_true rfl)) rfl rfl ?_
    refine ab_iload_n (i := 2) dX12_takes0_26 rfl rfl ?_
    refine ab_if_eq (tgt := 40) dX12_takes0_27 (by decide) (fun _ => ?_) (fun q => absurd (by decide) q)
    refine ab_iload_n (i := 2) dX12_takes0_40 rfl rfl ?_
    exact ab_zret rfl rfl dX12_takes0_41 (Nat.le_of_ble_eq_true rfl) (Nat.le_of_ble_eq_true rfl) ht
  · have ht := ht.2 c1
    refine ab_aload_n (i := 0) dX12_takes0_7 rfl rfl ?_
    refine ab_getR (b := 90) f_X12_43 rfl (sh_k hs 82 12 (by decide) rfl) (sh_r hs 106 rfl) dX12_takes0_8 ?_
    refine ab_aload_n (i := 0) dX12_takes0_11 rfl rfl ?_
    refine ab_getI f_X12_240 rfl (sh_k hs 82 12 (by decide) rfl) dX12_takes0_12 ?_
    obtain ⟨hc2, ht⟩ := ht
    refine ab_iald (sh_k hs 90 14 (by decide) rfl) hc2 dX12_takes0_15 ?_
    refine ab_iload_n (i := 1) dX12_takes0_16 rfl rfl ?_
    refine ab_icmp_ne (tgt := 24) dX12_takes0_17 (by decide) (fun c3 => ?_) (fun c3 => ?_)
    · have ht := ht.1 c3
      refine ab_iconst (v := 0) dX12_takes0_24 (by decide) ?_
      refine ab_istore_n (i := 2) (L' := [some (.ref 82), some (.int x1), some (.int 0)]) dX12_takes0_25 rfl (by exact (Nat.le_of_ble_eq_true rfl)) rfl rfl ?_
      refine ab_iload_n (i := 2) dX12_takes0_26 rfl rfl ?_
      refine ab_if_eq (tgt := 40) dX12_takes0_27 (by decide) (fun _ => ?_) (fun q => absurd (by decide) q)
      refine ab_iload_n (i := 2) dX12_takes0_40 rfl rfl ?_
      exact ab_zret rfl rfl dX12_takes0_41 (Nat.le_of_ble_eq_true rfl) (Nat.le_of_ble_eq_true rfl) ht
    · have ht := ht.2 c3
      refine ab_iconst (v := 1) dX12_takes0_20 (by decide) ?_
      refine ab_goto (tgt := 25) dX12_takes0_21 (by decide) ?_
      refine ab_istore_n (i := 2) (L' := [some (.ref 82), some (.int x1), some (.int 1)]) dX12_takes0_25 rfl (by exact (Nat.le_of_ble_eq_true rfl)) rfl rfl ?_
      refine ab_iload_n (i := 2) dX12_takes0_26 rfl rfl ?_
      refine ab_if_eq (tgt := 40) dX12_takes0_27 (by decide) (fun q => absurd q (by decide)) (fun _ => ?_)
      refine ab_aload_n (i := 0) dX12_takes0_30 rfl rfl ?_
      refine ab_dup dX12_takes0_31 rfl ?_
      refine ab_getI f_X12_240 rfl (sh_k hs 82 12 (by decide) rfl) dX12_takes0_32 ?_
      refine ab_iconst (v := 1) dX12_takes0_35 (by decide) ?_
      refine ab_iadd dX12_takes0_36 ?_
      refine ab_putI f_X12_240 (Or.inl rfl) rfl (sh_k hs 82 12 (by decide) rfl) rfl rfl dX12_takes0_37 ?_
      refine Wp.nm fun h4 e5 => ?_
      have ht := ht h4 e5
      have hs6 : Sh h4 := by rw [e5]; exact sh_si hs
      refine ab_iload_n (i := 2) dX12_takes0_40 rfl rfl ?_
      exact ab_zret rfl rfl dX12_takes0_41 (Nat.le_of_ble_eq_true rfl) (Nat.le_of_ble_eq_true rfl) ht
theorem dX12_must_0 : decode cX12_must 0 = .ok (.aload_n 0, 1) := by decide +kernel
theorem dX12_must_1 : decode cX12_must 1 = .ok (.iload_n 1, 1) := by decide +kernel
theorem dX12_must_2 : decode cX12_must 2 = .ok (.invokevirtual 243, 3) := by decide +kernel
theorem dX12_must_5 : decode cX12_must 5 = .ok (.ifCond .ne 7, 3) := by decide +kernel
theorem dX12_must_8 : decode cX12_must 8 = .ok (.aload_n 0, 1) := by decide +kernel
theorem dX12_must_9 : decode cX12_must 9 = .ok (.invokevirtual 246, 3) := by decide +kernel
theorem dX12_must_12 : decode cX12_must 12 = .ok (.return_, 1) := by decide +kernel
set_option maxRecDepth 20000 in
theorem T_X12_must {Q : Option Value → ah_T → Prop} {h : ah_T} (hs : Sh h) (x1 : Int32) (ht : (Mt mX12_takes0 [.ref 82, .int x1] h (ab_qi fun v3 h1 => Sh h1 ∧ ((¬ v3 = 0 → Q none h1) ∧ (v3 = 0 → (Mt mX12_faults [.ref 82] h1 (ab_qv fun h5 => Sh h5 ∧ Q none h5))))))) : Mt mX12_must [.ref 82, .int x1] h Q := by
  refine Mt.ofWp rfl (by exact (Nat.le_of_ble_eq_true rfl)) (Wp.fewer (L' := [some (.ref 82), some (.int x1)]) (show ab_leL _ _ from ⟨rfl, ⟨rfl, trivial⟩⟩) ?_)
  refine ab_aload_n (i := 0) dX12_must_0 rfl rfl ?_
  refine ab_iload_n (i := 1) dX12_must_1 rfl rfl ?_
  refine ab_callV (b := 82) (As := [.int x1]) ht (Y_X12_takes0) l_X12_243 in_X12_takes0 se_X12_takes0 (sh_k hs 82 12 (by decide) rfl) (by decide) rfl rfl ⟨(Nat.le_of_ble_eq_true rfl), (Nat.le_of_ble_eq_true rfl), (Nat.le_of_ble_eq_true rfl), (Nat.le_of_ble_eq_true rfl)⟩ dX12_must_2 ?_
  rintro _ h1 ⟨v3, rfl, hs2, ht⟩
  refine ab_if_ne (tgt := 12) dX12_must_5 (by decide) (fun c4 => ?_) (fun c4 => ?_)
  · have ht := ht.1 c4
    exact ab_vret rfl dX12_must_12 (Nat.le_of_ble_eq_true rfl) (Nat.le_of_ble_eq_true rfl) ht
  · have ht := ht.2 c4
    refine ab_aload_n (i := 0) dX12_must_8 rfl rfl ?_
    refine ab_callV (b := 82) (As := []) ht (Y_X12_faults) l_X12_246 in_X12_faults se_X12_faults (sh_k hs2 82 12 (by decide) rfl) (by decide) rfl rfl ⟨(Nat.le_of_ble_eq_true rfl), (Nat.le_of_ble_eq_true rfl), (Nat.le_of_ble_eq_true rfl), (Nat.le_of_ble_eq_true rfl)⟩ dX12_must_9 ?_
    rintro _ h5 ⟨rfl, hs6, ht⟩
    exact ab_vret rfl dX12_must_12 (Nat.le_of_ble_eq_true rfl) (Nat.le_of_ble_eq_true rfl) ht
theorem dX12_leaf_0 : decode cX12_leaf 0 = .ok (.aload_n 0, 1) := by decide +kernel
theorem dX12_leaf_1 : decode cX12_leaf 1 = .ok (.getfield 249, 3) := by decide +kernel
theorem dX12_leaf_4 : decode cX12_leaf 4 = .ok (.bipush 50, 2) := by decide +kernel
theorem dX12_leaf_6 : decode cX12_leaf 6 = .ok (.if_icmp .ne 7, 3) := by decide +kernel
theorem dX12_leaf_9 : decode cX12_leaf 9 = .ok (.aload_n 0, 1) := by decide +kernel
theorem dX12_leaf_10 : decode cX12_leaf 10 = .ok (.invokevirtual 246, 3) := by decide +kernel
theorem dX12_leaf_13 : decode cX12_leaf 13 = .ok (.aload_n 0, 1) := by decide +kernel
theorem dX12_leaf_14 : decode cX12_leaf 14 = .ok (.dup, 1) := by decide +kernel
theorem dX12_leaf_15 : decode cX12_leaf 15 = .ok (.getfield 249, 3) := by decide +kernel
theorem dX12_leaf_18 : decode cX12_leaf 18 = .ok (.iconst 1, 1) := by decide +kernel
theorem dX12_leaf_19 : decode cX12_leaf 19 = .ok (.iadd, 1) := by decide +kernel
theorem dX12_leaf_20 : decode cX12_leaf 20 = .ok (.putfield 249, 3) := by decide +kernel
theorem dX12_leaf_23 : decode cX12_leaf 23 = .ok (.aload_n 0, 1) := by decide +kernel
theorem dX12_leaf_24 : decode cX12_leaf 24 = .ok (.invokevirtual 236, 3) := by decide +kernel
theorem dX12_leaf_27 : decode cX12_leaf 27 = .ok (.ifCond .eq 13, 3) := by decide +kernel
theorem dX12_leaf_30 : decode cX12_leaf 30 = .ok (.aload_n 0, 1) := by decide +kernel
theorem dX12_leaf_31 : decode cX12_leaf 31 = .ok (.dup, 1) := by decide +kernel
theorem dX12_leaf_32 : decode cX12_leaf 32 = .ok (.getfield 240, 3) := by decide +kernel
theorem dX12_leaf_35 : decode cX12_leaf 35 = .ok (.iconst 1, 1) := by decide +kernel
theorem dX12_leaf_36 : decode cX12_leaf 36 = .ok (.iadd, 1) := by decide +kernel
theorem dX12_leaf_37 : decode cX12_leaf 37 = .ok (.putfield 240, 3) := by decide +kernel
theorem dX12_leaf_40 : decode cX12_leaf 40 = .ok (.return_, 1) := by decide +kernel
set_option maxRecDepth 20000 in
theorem T_X12_leaf {Q : Option Value → ah_T → Prop} {h : ah_T} (hs : Sh h)  (ht : ((¬ (ah_i h 82 18) = 50 → (∀ h2, h2 = ah_si h 82 18 ((ah_i h 82 18) + 1) → (((f_X12_fine h2 ) = 0 → Q none h2) ∧ (¬ (f_X12_fine h2 ) = 0 → (∀ h6, h6 = ah_si h2 82 17 ((ah_i h2 82 17) + 1) → Q none h6))))) ∧ ((ah_i h 82 18) = 50 → (Mt mX12_faults [.ref 82] h (ab_qv fun h9 => Sh h9 ∧ (∀ h12, h12 = ah_si h9 82 18 ((ah_i h9 82 18) + 1) → (((f_X12_fine h12 ) = 0 → Q none h12) ∧ (¬ (f_X12_fine h12 ) = 0 → (∀ h16, h16 = ah_si h12 82 17 ((ah_i h12 82 17) + 1) → Q none h16))))))))) : Mt mX12_leaf [.ref 82] h Q := by
  refine Mt.ofWp rfl (by exact (Nat.le_of_ble_eq_true rfl)) (Wp.fewer (L' := [some (.ref 82)]) (show ab_leL _ _ from ⟨rfl, trivial⟩) ?_)
  refine ab_aload_n (i := 0) dX12_leaf_0 rfl rfl ?_
  refine ab_getI f_X12_249 rfl (sh_k hs 82 12 (by decide) rfl) dX12_leaf_1 ?_
  refine ab_bipush (v := 50) dX12_leaf_4 (by decide) ?_
  refine ab_icmp_ne (tgt := 13) dX12_leaf_6 (by decide) (fun c1 => ?_) (fun c1 => ?_)
  · have ht := ht.1 c1
    refine ab_aload_n (i := 0) dX12_leaf_13 rfl rfl ?_
    refine ab_dup dX12_leaf_14 rfl ?_
    refine ab_getI f_X12_249 rfl (sh_k hs 82 12 (by decide) rfl) dX12_leaf_15 ?_
    refine ab_iconst (v := 1) dX12_leaf_18 (by decide) ?_
    refine ab_iadd dX12_leaf_19 ?_
    refine ab_putI f_X12_249 (Or.inl rfl) rfl (sh_k hs 82 12 (by decide) rfl) rfl rfl dX12_leaf_20 ?_
    refine Wp.nm fun h2 e3 => ?_
    have ht := ht h2 e3
    have hs4 : Sh h2 := by rw [e3]; exact sh_si hs
    refine ab_aload_n (i := 0) dX12_leaf_23 rfl rfl ?_
    refine ab_callV (b := 82) (Q' := fun r h' => r = some (.int (f_X12_fine h2 )) ∧ h2 = h') (As := []) (c_X12_fine hs4  ⟨rfl, rfl⟩) (Y_X12_fine) l_X12_236 in_X12_fine se_X12_fine (sh_k hs4 82 12 (by decide) rfl) (by decide) rfl rfl ⟨(Nat.le_of_ble_eq_true rfl), (Nat.le_of_ble_eq_true rfl), (Nat.le_of_ble_eq_true rfl), (Nat.le_of_ble_eq_true rfl)⟩ dX12_leaf_24 ?_
    rintro _ _ ⟨rfl, rfl⟩
    refine ab_if_eq (tgt := 40) dX12_leaf_27 (by decide) (fun c5 => ?_) (fun c5 => ?_)
    · have ht := ht.1 c5
      exact ab_vret rfl dX12_leaf_40 (Nat.le_of_ble_eq_true rfl) (Nat.le_of_ble_eq_true rfl) ht
    · have ht := ht.2 c5
      refine ab_aload_n (i := 0) dX12_leaf_30 rfl rfl ?_
      refine ab_dup dX12_leaf_31 rfl ?_
      refine ab_getI f_X12_240 rfl (sh_k hs4 82 12 (by decide) rfl) dX12_leaf_32 ?_
      refine ab_iconst (v := 1) dX12_leaf_35 (by decide) ?_
      refine ab_iadd dX12_leaf_36 ?_
      refine ab_putI f_X12_240 (Or.inl rfl) rfl (sh_k hs4 82 12 (by decide) rfl) rfl rfl dX12_leaf_37 ?_
      refine Wp.nm fun h6 e7 => ?_
      have ht := ht h6 e7
      have hs8 : Sh h6 := by rw [e7]; exact sh_si hs4
      exact ab_vret rfl dX12_leaf_40 (Nat.le_of_ble_eq_true rfl) (Nat.le_of_ble_eq_true rfl) ht
  · have ht := ht.2 c1
    refine ab_aload_n (i := 0) dX12_leaf_9 rfl rfl ?_
    refine ab_callV (b := 82) (As := []) ht (Y_X12_faults) l_X12_246 in_X12_faults se_X12_faults (sh_k hs 82 12 (by decide) rfl) (by decide) rfl rfl ⟨(Nat.le_of_ble_eq_true rfl), (Nat.le_of_ble_eq_true rfl), (Nat.le_of_ble_eq_true rfl), (Nat.le_of_ble_eq_true rfl)⟩ dX12_leaf_10 ?_
    rintro _ h9 ⟨rfl, hs10, ht⟩
    refine ab_aload_n (i := 0) dX12_leaf_13 rfl rfl ?_
    refine ab_dup dX12_leaf_14 rfl ?_
    refine ab_getI f_X12_249 rfl (sh_k hs10 82 12 (by decide) rfl) dX12_leaf_15 ?_
    refine ab_iconst (v := 1) dX12_leaf_18 (by decide) ?_
    refine ab_iadd dX12_leaf_19 ?_
    refine ab_putI f_X12_249 (Or.inl rfl) rfl (sh_k hs10 82 12 (by decide) rfl) rfl rfl dX12_leaf_20 ?_
    refine Wp.nm fun h12 e13 => ?_
    have ht := ht h12 e13
    have hs14 : Sh h12 := by rw [e13]; exact sh_si hs10
    refine ab_aload_n (i := 0) dX12_leaf_23 rfl rfl ?_
    refine ab_callV (b := 82) (Q' := fun r h' => r = some (.int (f_X12_fine h12 )) ∧ h12 = h') (As := []) (c_X12_fine hs14  ⟨rfl, rfl⟩) (Y_X12_fine) l_X12_236 in_X12_fine se_X12_fine (sh_k hs14 82 12 (by decide) rfl) (by decide) rfl rfl ⟨(Nat.le_of_ble_eq_true rfl), (Nat.le_of_ble_eq_true rfl), (Nat.le_of_ble_eq_true rfl), (Nat.le_of_ble_eq_true rfl)⟩ dX12_leaf_24 ?_
    rintro _ _ ⟨rfl, rfl⟩
    refine ab_if_eq (tgt := 40) dX12_leaf_27 (by decide) (fun c15 => ?_) (fun c15 => ?_)
    · have ht := ht.1 c15
      exact ab_vret rfl dX12_leaf_40 (Nat.le_of_ble_eq_true rfl) (Nat.le_of_ble_eq_true rfl) ht
    · have ht := ht.2 c15
      refine ab_aload_n (i := 0) dX12_leaf_30 rfl rfl ?_
      refine ab_dup dX12_leaf_31 rfl ?_
      refine ab_getI f_X12_240 rfl (sh_k hs14 82 12 (by decide) rfl) dX12_leaf_32 ?_
      refine ab_iconst (v := 1) dX12_leaf_35 (by decide) ?_
      refine ab_iadd dX12_leaf_36 ?_
      refine ab_putI f_X12_240 (Or.inl rfl) rfl (sh_k hs14 82 12 (by decide) rfl) rfl rfl dX12_leaf_37 ?_
      refine Wp.nm fun h16 e17 => ?_
      have ht := ht h16 e17
      have hs18 : Sh h16 := by rw [e17]; exact sh_si hs14
      exact ab_vret rfl dX12_leaf_40 (Nat.le_of_ble_eq_true rfl) (Nat.le_of_ble_eq_true rfl) ht
theorem dX12_readClause_0 : decode cX12_readClause 0 = .ok (.aload_n 0, 1) := by decide +kernel
theorem dX12_readClause_1 : decode cX12_readClause 1 = .ok (.iconst 2, 1) := by decide +kernel
theorem dX12_readClause_2 : decode cX12_readClause 2 = .ok (.invokevirtual 243, 3) := by decide +kernel
theorem dX12_readClause_5 : decode cX12_readClause 5 = .ok (.ifCond .ne 11, 3) := by decide +kernel
theorem dX12_readClause_8 : decode cX12_readClause 8 = .ok (.aload_n 0, 1) := by decide +kernel
theorem dX12_readClause_9 : decode cX12_readClause 9 = .ok (.iconst 3, 1) := by decide +kernel
theorem dX12_readClause_10 : decode cX12_readClause 10 = .ok (.invokevirtual 243, 3) := by decide +kernel
theorem dX12_readClause_13 : decode cX12_readClause 13 = .ok (.ifCond .eq 11, 3) := by decide +kernel
theorem dX12_readClause_16 : decode cX12_readClause 16 = .ok (.aload_n 0, 1) := by decide +kernel
theorem dX12_readClause_17 : decode cX12_readClause 17 = .ok (.iconst 0, 1) := by decide +kernel
theorem dX12_readClause_18 : decode cX12_readClause 18 = .ok (.invokevirtual 256, 3) := by decide +kernel
theorem dX12_readClause_21 : decode cX12_readClause 21 = .ok (.goto 8, 3) := by decide +kernel
theorem dX12_readClause_24 : decode cX12_readClause 24 = .ok (.aload_n 0, 1) := by decide +kernel
theorem dX12_readClause_25 : decode cX12_readClause 25 = .ok (.iconst 1, 1) := by decide +kernel
theorem dX12_readClause_26 : decode cX12_readClause 26 = .ok (.invokevirtual 260, 3) := by decide +kernel
theorem dX12_readClause_29 : decode cX12_readClause 29 = .ok (.aload_n 0, 1) := by decide +kernel
theorem dX12_readClause_30 : decode cX12_readClause 30 = .ok (.iconst 4, 1) := by decide +kernel
theorem dX12_readClause_31 : decode cX12_readClause 31 = .ok (.invokevirtual 243, 3) := by decide +kernel
theorem dX12_readClause_34 : decode cX12_readClause 34 = .ok (.ifCond .eq 8, 3) := by decide +kernel
theorem dX12_readClause_37 : decode cX12_readClause 37 = .ok (.aload_n 0, 1) := by decide +kernel
theorem dX12_readClause_38 : decode cX12_readClause 38 = .ok (.iconst 0, 1) := by decide +kernel
theorem dX12_readClause_39 : decode cX12_readClause 39 = .ok (.invokevirtual 263, 3) := by decide +kernel
theorem dX12_readClause_42 : decode cX12_readClause 42 = .ok (.return_, 1) := by decide +kernel
set_option maxRecDepth 20000 in
theorem T_X12_readClause {Q : Option Value → ah_T → Prop} {h : ah_T} (hs : Sh h)  (ht : (Mt mX12_takes0 [.ref 82, .int 2] h (ab_qi fun v3 h1 => Sh h1 ∧ ((¬ v3 = 0 → (Mt (mX12_readSum 60) [.ref 82, .int 0] h1 (ab_qv fun h5 => Sh h5 ∧ (Mt mX12_takes0 [.ref 82, .int 4] h5 (ab_qi fun v10 h8 => Sh h8 ∧ ((v10 = 0 → Q none h8) ∧ (¬ v10 = 0 → (Mt (mX12_readTest 60) [.ref 82, .int 0] h8 (ab_qv fun h12 => Sh h12 ∧ Q none h12))))))))) ∧ (v3 = 0 → (Mt mX12_takes0 [.ref 82, .int 3] h1 (ab_qi fun v17 h15 => Sh h15 ∧ ((v17 = 0 → (Mt mX12_must [.ref 82, .int 1] h15 (ab_qv fun h19 => Sh h19 ∧ (Mt mX12_takes0 [.ref 82, .int 4] h19 (ab_qi fun v24 h22 => Sh h22 ∧ ((v24 = 0 → Q none h22) ∧ (¬ v24 = 0 → (Mt (mX12_readTest 60) [.ref 82, .int 0] h22 (ab_qv fun h26 => Sh h26 ∧ Q none h26))))))))) ∧ (¬ v17 = 0 → (Mt (mX12_readSum 60) [.ref 82, .int 0] h15 (ab_qv fun h29 => Sh h29 ∧ (Mt mX12_takes0 [.ref 82, .int 4] h29 (ab_qi fun v34 h32 => Sh h32 ∧ ((v34 = 0 → Q none h32) ∧ (¬ v34 = 0 → (Mt (mX12_readTest 60) [.ref 82, .int 0] h32 (ab_qv fun h36 => Sh h36 ∧ Q none h36))))))))))))))))) : Mt mX12_readClause [.ref 82] h Q := by
  refine Mt.ofWp rfl (by exact (Nat.le_of_ble_eq_true rfl)) (Wp.fewer (L' := [some (.ref 82)]) (show ab_leL _ _ from ⟨rfl, trivial⟩) ?_)
  refine ab_aload_n (i := 0) dX12_readClause_0 rfl rfl ?_
  refine ab_iconst (v := 2) dX12_readClause_1 (by decide) ?_
  refine ab_callV (b := 82) (As := [.int 2]) ht (Y_X12_takes0) l_X12_243 in_X12_takes0 se_X12_takes0 (sh_k hs 82 12 (by decide) rfl) (by decide) rfl rfl ⟨(Nat.le_of_ble_eq_true rfl), (Nat.le_of_ble_eq_true rfl), (Nat.le_of_ble_eq_true rfl), (Nat.le_of_ble_eq_true rfl)⟩ dX12_readClause_2 ?_
  rintro _ h1 ⟨v3, rfl, hs2, ht⟩
  refine ab_if_ne (tgt := 16) dX12_readClause_5 (by decide) (fun c4 => ?_) (fun c4 => ?_)
  · have ht := ht.1 c4
    refine ab_aload_n (i := 0) dX12_readClause_16 rfl rfl ?_
    refine ab_iconst (v := 0) dX12_readClause_17 (by decide) ?_
    refine ab_callV (b := 82) (As := [.int 0]) ht (Y_X12_readSum _) l_X12_256 in_X12_readSum se_X12_readSum (sh_k hs2 82 12 (by decide) rfl) (by decide) rfl rfl ⟨(Nat.le_of_ble_eq_true rfl), (Nat.le_of_ble_eq_true rfl), (Nat.le_of_ble_eq_true rfl), (Nat.le_of_ble_eq_true rfl)⟩ dX12_readClause_18 ?_
    rintro _ h5 ⟨rfl, hs6, ht⟩
    refine ab_goto (tgt := 29) dX12_readClause_21 (by decide) ?_
    refine ab_aload_n (i := 0) dX12_readClause_29 rfl rfl ?_
    refine ab_iconst (v := 4) dX12_readClause_30 (by decide) ?_
    refine ab_callV (b := 82) (As := [.int 4]) ht (Y_X12_takes0) l_X12_243 in_X12_takes0 se_X12_takes0 (sh_k hs6 82 12 (by decide) rfl) (by decide) rfl rfl ⟨(Nat.le_of_ble_eq_true rfl), (Nat.le_of_ble_eq_true rfl), (Nat.le_of_ble_eq_true rfl), (Nat.le_of_ble_eq_true rfl)⟩ dX12_readClause_31 ?_
    rintro _ h8 ⟨v10, rfl, hs9, ht⟩
    refine ab_if_eq (tgt := 42) dX12_readClause_34 (by decide) (fun c11 => ?_) (fun c11 => ?_)
    · have ht := ht.1 c11
      exact ab_vret rfl dX12_readClause_42 (Nat.le_of_ble_eq_true rfl) (Nat.le_of_ble_eq_true rfl) ht
    · have ht := ht.2 c11
      refine ab_aload_n (i := 0) dX12_readClause_37 rfl rfl ?_
      refine ab_iconst (v := 0) dX12_readClause_38 (by decide) ?_
      refine ab_callV (b := 82) (As := [.int 0]) ht (Y_X12_readTest _) l_X12_263 in_X12_readTest se_X12_readTest (sh_k hs9 82 12 (by decide) rfl) (by decide) rfl rfl ⟨(Nat.le_of_ble_eq_true rfl), (Nat.le_of_ble_eq_true rfl), (Nat.le_of_ble_eq_true rfl), (Nat.le_of_ble_eq_true rfl)⟩ dX12_readClause_39 ?_
      rintro _ h12 ⟨rfl, hs13, ht⟩
      exact ab_vret rfl dX12_readClause_42 (Nat.le_of_ble_eq_true rfl) (Nat.le_of_ble_eq_true rfl) ht
  · have ht := ht.2 c4
    refine ab_aload_n (i := 0) dX12_readClause_8 rfl rfl ?_
    refine ab_iconst (v := 3) dX12_readClause_9 (by decide) ?_
    refine ab_callV (b := 82) (As := [.int 3]) ht (Y_X12_takes0) l_X12_243 in_X12_takes0 se_X12_takes0 (sh_k hs2 82 12 (by decide) rfl) (by decide) rfl rfl ⟨(Nat.le_of_ble_eq_true rfl), (Nat.le_of_ble_eq_true rfl), (Nat.le_of_ble_eq_true rfl), (Nat.le_of_ble_eq_true rfl)⟩ dX12_readClause_10 ?_
    rintro _ h15 ⟨v17, rfl, hs16, ht⟩
    refine ab_if_eq (tgt := 24) dX12_readClause_13 (by decide) (fun c18 => ?_) (fun c18 => ?_)
    · have ht := ht.1 c18
      refine ab_aload_n (i := 0) dX12_readClause_24 rfl rfl ?_
      refine ab_iconst (v := 1) dX12_readClause_25 (by decide) ?_
      refine ab_callV (b := 82) (As := [.int 1]) ht (Y_X12_must) l_X12_260 in_X12_must se_X12_must (sh_k hs16 82 12 (by decide) rfl) (by decide) rfl rfl ⟨(Nat.le_of_ble_eq_true rfl), (Nat.le_of_ble_eq_true rfl), (Nat.le_of_ble_eq_true rfl), (Nat.le_of_ble_eq_true rfl)⟩ dX12_readClause_26 ?_
      rintro _ h19 ⟨rfl, hs20, ht⟩
      refine ab_aload_n (i := 0) dX12_readClause_29 rfl rfl ?_
      refine ab_iconst (v := 4) dX12_readClause_30 (by decide) ?_
      refine ab_callV (b := 82) (As := [.int 4]) ht (Y_X12_takes0) l_X12_243 in_X12_takes0 se_X12_takes0 (sh_k hs20 82 12 (by decide) rfl) (by decide) rfl rfl ⟨(Nat.le_of_ble_eq_true rfl), (Nat.le_of_ble_eq_true rfl), (Nat.le_of_ble_eq_true rfl), (Nat.le_of_ble_eq_true rfl)⟩ dX12_readClause_31 ?_
      rintro _ h22 ⟨v24, rfl, hs23, ht⟩
      refine ab_if_eq (tgt := 42) dX12_readClause_34 (by decide) (fun c25 => ?_) (fun c25 => ?_)
      · have ht := ht.1 c25
        exact ab_vret rfl dX12_readClause_42 (Nat.le_of_ble_eq_true rfl) (Nat.le_of_ble_eq_true rfl) ht
      · have ht := ht.2 c25
        refine ab_aload_n (i := 0) dX12_readClause_37 rfl rfl ?_
        refine ab_iconst (v := 0) dX12_readClause_38 (by decide) ?_
        refine ab_callV (b := 82) (As := [.int 0]) ht (Y_X12_readTest _) l_X12_263 in_X12_readTest se_X12_readTest (sh_k hs23 82 12 (by decide) rfl) (by decide) rfl rfl ⟨(Nat.le_of_ble_eq_true rfl), (Nat.le_of_ble_eq_true rfl), (Nat.le_of_ble_eq_true rfl), (Nat.le_of_ble_eq_true rfl)⟩ dX12_readClause_39 ?_
        rintro _ h26 ⟨rfl, hs27, ht⟩
        exact ab_vret rfl dX12_readClause_42 (Nat.le_of_ble_eq_true rfl) (Nat.le_of_ble_eq_true rfl) ht
    · have ht := ht.2 c18
      refine ab_aload_n (i := 0) dX12_readClause_16 rfl rfl ?_
      refine ab_iconst (v := 0) dX12_readClause_17 (by decide) ?_
      refine ab_callV (b := 82) (As := [.int 0]) ht (Y_X12_readSum _) l_X12_256 in_X12_readSum se_X12_readSum (sh_k hs16 82 12 (by decide) rfl) (by decide) rfl rfl ⟨(Nat.le_of_ble_eq_true rfl), (Nat.le_of_ble_eq_true rfl), (Nat.le_of_ble_eq_true rfl), (Nat.le_of_ble_eq_true rfl)⟩ dX12_readClause_18 ?_
      rintro _ h29 ⟨rfl, hs30, ht⟩
      refine ab_goto (tgt := 29) dX12_readClause_21 (by decide) ?_
      refine ab_aload_n (i := 0) dX12_readClause_29 rfl rfl ?_
      refine ab_iconst (v := 4) dX12_readClause_30 (by decide) ?_
      refine ab_callV (b := 82) (As := [.int 4]) ht (Y_X12_takes0) l_X12_243 in_X12_takes0 se_X12_takes0 (sh_k hs30 82 12 (by decide) rfl) (by decide) rfl rfl ⟨(Nat.le_of_ble_eq_true rfl), (Nat.le_of_ble_eq_true rfl), (Nat.le_of_ble_eq_true rfl), (Nat.le_of_ble_eq_true rfl)⟩ dX12_readClause_31 ?_
      rintro _ h32 ⟨v34, rfl, hs33, ht⟩
      refine ab_if_eq (tgt := 42) dX12_readClause_34 (by decide) (fun c35 => ?_) (fun c35 => ?_)
      · have ht := ht.1 c35
        exact ab_vret rfl dX12_readClause_42 (Nat.le_of_ble_eq_true rfl) (Nat.le_of_ble_eq_true rfl) ht
      · have ht := ht.2 c35
        refine ab_aload_n (i := 0) dX12_readClause_37 rfl rfl ?_
        refine ab_iconst (v := 0) dX12_readClause_38 (by decide) ?_
        refine ab_callV (b := 82) (As := [.int 0]) ht (Y_X12_readTest _) l_X12_263 in_X12_readTest se_X12_readTest (sh_k hs33 82 12 (by decide) rfl) (by decide) rfl rfl ⟨(Nat.le_of_ble_eq_true rfl), (Nat.le_of_ble_eq_true rfl), (Nat.le_of_ble_eq_true rfl), (Nat.le_of_ble_eq_true rfl)⟩ dX12_readClause_39 ?_
        rintro _ h36 ⟨rfl, hs37, ht⟩
        exact ab_vret rfl dX12_readClause_42 (Nat.le_of_ble_eq_true rfl) (Nat.le_of_ble_eq_true rfl) ht
theorem dX12_readRound_0 : decode cX12_readRound 0 = .ok (.aload_n 0, 1) := by decide +kernel
theorem dX12_readRound_1 : decode cX12_readRound 1 = .ok (.bipush 21, 2) := by decide +kernel
theorem dX12_readRound_3 : decode cX12_readRound 3 = .ok (.invokevirtual 243, 3) := by decide +kernel
theorem dX12_readRound_6 : decode cX12_readRound 6 = .ok (.ifCond .ne 9, 3) := by decide +kernel
theorem dX12_readRound_9 : decode cX12_readRound 9 = .ok (.aload_n 0, 1) := by decide +kernel
theorem dX12_readRound_10 : decode cX12_readRound 10 = .ok (.bipush 22, 2) := by decide +kernel
theorem dX12_readRound_12 : decode cX12_readRound 12 = .ok (.invokevirtual 260, 3) := by decide +kernel
theorem dX12_readRound_15 : decode cX12_readRound 15 = .ok (.aload_n 0, 1) := by decide +kernel
theorem dX12_readRound_16 : decode cX12_readRound 16 = .ok (.iconst 0, 1) := by decide +kernel
theorem dX12_readRound_17 : decode cX12_readRound 17 = .ok (.invokevirtual 256, 3) := by decide +kernel
theorem dX12_readRound_20 : decode cX12_readRound 20 = .ok (.aload_n 0, 1) := by decide +kernel
theorem dX12_readRound_21 : decode cX12_readRound 21 = .ok (.bipush 23, 2) := by decide +kernel
theorem dX12_readRound_23 : decode cX12_readRound 23 = .ok (.invokevirtual 260, 3) := by decide +kernel
theorem dX12_readRound_26 : decode cX12_readRound 26 = .ok (.aload_n 0, 1) := by decide +kernel
theorem dX12_readRound_27 : decode cX12_readRound 27 = .ok (.iconst 0, 1) := by decide +kernel
theorem dX12_readRound_28 : decode cX12_readRound 28 = .ok (.invokevirtual 256, 3) := by decide +kernel
theorem dX12_readRound_31 : decode cX12_readRound 31 = .ok (.aload_n 0, 1) := by decide +kernel
theorem dX12_readRound_32 : decode cX12_readRound 32 = .ok (.bipush 24, 2) := by decide +kernel
theorem dX12_readRound_34 : decode cX12_readRound 34 = .ok (.invokevirtual 243, 3) := by decide +kernel
theorem dX12_readRound_37 : decode cX12_readRound 37 = .ok (.ifCond .eq 8, 3) := by decide +kernel
theorem dX12_readRound_40 : decode cX12_readRound 40 = .ok (.aload_n 0, 1) := by decide +kernel
theorem dX12_readRound_41 : decode cX12_readRound 41 = .ok (.iconst 0, 1) := by decide +kernel
theorem dX12_readRound_42 : decode cX12_readRound 42 = .ok (.invokevirtual 256, 3) := by decide +kernel
theorem dX12_readRound_45 : decode cX12_readRound 45 = .ok (.aload_n 0, 1) := by decide +kernel
theorem dX12_readRound_46 : decode cX12_readRound 46 = .ok (.bipush 25, 2) := by decide +kernel
theorem dX12_readRound_48 : decode cX12_readRound 48 = .ok (.invokevirtual 243, 3) := by decide +kernel
theorem dX12_readRound_51 : decode cX12_readRound 51 = .ok (.ifCond .eq 56, 3) := by decide +kernel
theorem dX12_readRound_54 : decode cX12_readRound 54 = .ok (.aload_n 0, 1) := by decide +kernel
theorem dX12_readRound_55 : decode cX12_readRound 55 = .ok (.getfield 43, 3) := by decide +kernel
theorem dX12_readRound_58 : decode cX12_readRound 58 = .ok (.aload_n 0, 1) := by decide +kernel
theorem dX12_readRound_59 : decode cX12_readRound 59 = .ok (.getfield 240, 3) := by decide +kernel
theorem dX12_readRound_62 : decode cX12_readRound 62 = .ok (.iaload, 1) := by decide +kernel
theorem dX12_readRound_63 : decode cX12_readRound 63 = .ok (.bipush 50, 2) := by decide +kernel
theorem dX12_readRound_65 : decode cX12_readRound 65 = .ok (.if_icmp .ne 21, 3) := by decide +kernel
theorem dX12_readRound_68 : decode cX12_readRound 68 = .ok (.aload_n 0, 1) := by decide +kernel
theorem dX12_readRound_69 : decode cX12_readRound 69 = .ok (.getfield 46, 3) := by decide +kernel
theorem dX12_readRound_72 : decode cX12_readRound 72 = .ok (.aload_n 0, 1) := by decide +kernel
theorem dX12_readRound_73 : decode cX12_readRound 73 = .ok (.getfield 240, 3) := by decide +kernel
theorem dX12_readRound_76 : decode cX12_readRound 76 = .ok (.iaload, 1) := by decide +kernel
theorem dX12_readRound_77 : decode cX12_readRound 77 = .ok (.iconst 1, 1) := by decide +kernel
theorem dX12_readRound_78 : decode cX12_readRound 78 = .ok (.bipush 20, 2) := by decide +kernel
theorem dX12_readRound_80 : decode cX12_readRound 80 = .ok (.invokestatic 156, 3) := by decide +kernel
theorem dX12_readRound_83 : decode cX12_readRound 83 = .ok (.ifCond .ne 7, 3) := by decide +kernel
theorem dX12_readRound_86 : decode cX12_readRound 86 = .ok (.aload_n 0, 1) := by decide +kernel
theorem dX12_readRound_87 : decode cX12_readRound 87 = .ok (.invokevirtual 246, 3) := by decide +kernel
theorem dX12_readRound_90 : decode cX12_readRound 90 = .ok (.aload_n 0, 1) := by decide +kernel
theorem dX12_readRound_91 : decode cX12_readRound 91 = .ok (.invokevirtual 236, 3) := by decide +kernel
theorem dX12_readRound_94 : decode cX12_readRound 94 = .ok (.ifCond .eq 13, 3) := by decide +kernel
theorem dX12_readRound_97 : decode cX12_readRound 97 = .ok (.aload_n 0, 1) := by decide +kernel
theorem dX12_readRound_98 : decode cX12_readRound 98 = .ok (.dup, 1) := by decide +kernel
theorem dX12_readRound_99 : decode cX12_readRound 99 = .ok (.getfield 240, 3) := by decide +kernel
theorem dX12_readRound_102 : decode cX12_readRound 102 = .ok (.iconst 1, 1) := by decide +kernel
theorem dX12_readRound_103 : decode cX12_readRound 103 = .ok (.iadd, 1) := by decide +kernel
theorem dX12_readRound_104 : decode cX12_readRound 104 = .ok (.putfield 240, 3) := by decide +kernel
theorem dX12_readRound_107 : decode cX12_readRound 107 = .ok (.aload_n 0, 1) := by decide +kernel
theorem dX12_readRound_108 : decode cX12_readRound 108 = .ok (.iconst 4, 1) := by decide +kernel
theorem dX12_readRound_109 : decode cX12_readRound 109 = .ok (.invokevirtual 243, 3) := by decide +kernel
theorem dX12_readRound_112 : decode cX12_readRound 112 = .ok (.ifCond .eq 8, 3) := by decide +kernel
theorem dX12_readRound_115 : decode cX12_readRound 115 = .ok (.aload_n 0, 1) := by decide +kernel
theorem dX12_readRound_116 : decode cX12_readRound 116 = .ok (.iconst 0, 1) := by decide +kernel
theorem dX12_readRound_117 : decode cX12_readRound 117 = .ok (.invokevirtual 263, 3) := by decide +kernel
theorem dX12_readRound_120 : decode cX12_readRound 120 = .ok (.return_, 1) := by decide +kernel
set_option maxRecDepth 20000 in
theorem T_X12_readRound_15 {Q : Option Value → ah_T → Prop} {h : ah_T} (hs : Sh h)  (ht : (Mt (mX12_readSum 60) [.ref 82, .int 0] h (ab_qv fun h8 => Sh h8 ∧ (Mt mX12_must [.ref 82, .int 23] h8 (ab_qv fun h11 => Sh h11 ∧ (Mt (mX12_readSum 60) [.ref 82, .int 0] h11 (ab_qv fun h14 => Sh h14 ∧ (Mt mX12_takes0 [.ref 82, .int 24] h14 (ab_qi fun v19 h17 => Sh h17 ∧ ((v19 = 0 → Wp mX12_readRound Q 0 0 45 [some (.ref 82)] [] h17) ∧ (¬ v19 = 0 → (Mt (mX12_readSum 60) [.ref 82, .int 0] h17 (ab_qv fun h21 => Sh h21 ∧ Wp mX12_readRound Q 0 0 45 [some (.ref 82)] [] h21))))))))))))) : Wp mX12_readRound Q 0 0 15 [some (.ref 82)] [] h := by
  refine ab_aload_n (i := 0) dX12_readRound_15 rfl rfl ?_
  refine ab_iconst (v := 0) dX12_readRound_16 (by decide) ?_
  refine ab_callV (b := 82) (As := [.int 0]) ht (Y_X12_readSum _) l_X12_256 in_X12_readSum se_X12_readSum (sh_k hs 82 12 (by decide) rfl) (by decide) rfl rfl ⟨(Nat.le_of_ble_eq_true rfl), (Nat.le_of_ble_eq_true rfl), (Nat.le_of_ble_eq_true rfl), (Nat.le_of_ble_eq_true rfl)⟩ dX12_readRound_17 ?_
  rintro _ h8 ⟨rfl, hs9, ht⟩
  refine ab_aload_n (i := 0) dX12_readRound_20 rfl rfl ?_
  refine ab_bipush (v := 23) dX12_readRound_21 (by decide) ?_
  refine ab_callV (b := 82) (As := [.int 23]) ht (Y_X12_must) l_X12_260 in_X12_must se_X12_must (sh_k hs9 82 12 (by decide) rfl) (by decide) rfl rfl ⟨(Nat.le_of_ble_eq_true rfl), (Nat.le_of_ble_eq_true rfl), (Nat.le_of_ble_eq_true rfl), (Nat.le_of_ble_eq_true rfl)⟩ dX12_readRound_23 ?_
  rintro _ h11 ⟨rfl, hs12, ht⟩
  refine ab_aload_n (i := 0) dX12_readRound_26 rfl rfl ?_
  refine ab_iconst (v := 0) dX12_readRound_27 (by decide) ?_
  refine ab_callV (b := 82) (As := [.int 0]) ht (Y_X12_readSum _) l_X12_256 in_X12_readSum se_X12_readSum (sh_k hs12 82 12 (by decide) rfl) (by decide) rfl rfl ⟨(Nat.le_of_ble_eq_true rfl), (Nat.le_of_ble_eq_true rfl), (Nat.le_of_ble_eq_true rfl), (Nat.le_of_ble_eq_true rfl)⟩ dX12_readRound_28 ?_
  rintro _ h14 ⟨rfl, hs15, ht⟩
  refine ab_aload_n (i := 0) dX12_readRound_31 rfl rfl ?_
  refine ab_bipush (v := 24) dX12_readRound_32 (by decide) ?_
  refine ab_callV (b := 82) (As := [.int 24]) ht (Y_X12_takes0) l_X12_243 in_X12_takes0 se_X12_takes0 (sh_k hs15 82 12 (by decide) rfl) (by decide) rfl rfl ⟨(Nat.le_of_ble_eq_true rfl), (Nat.le_of_ble_eq_true rfl), (Nat.le_of_ble_eq_true rfl), (Nat.le_of_ble_eq_true rfl)⟩ dX12_readRound_34 ?_
  rintro _ h17 ⟨v19, rfl, hs18, ht⟩
  refine ab_if_eq (tgt := 45) dX12_readRound_37 (by decide) (fun c20 => ?_) (fun c20 => ?_)
  · have ht := ht.1 c20
    exact Wp.fewer (L' := [some (.ref 82)]) (show ab_leL _ _ from ⟨rfl, trivial⟩) ht
  · have ht := ht.2 c20
    refine ab_aload_n (i := 0) dX12_readRound_40 rfl rfl ?_
    refine ab_iconst (v := 0) dX12_readRound_41 (by decide) ?_
    refine ab_callV (b := 82) (As := [.int 0]) ht (Y_X12_readSum _) l_X12_256 in_X12_readSum se_X12_readSum (sh_k hs18 82 12 (by decide) rfl) (by decide) rfl rfl ⟨(Nat.le_of_ble_eq_true rfl), (Nat.le_of_ble_eq_true rfl), (Nat.le_of_ble_eq_true rfl), (Nat.le_of_ble_eq_true rfl)⟩ dX12_readRound_42 ?_
    rintro _ h21 ⟨rfl, hs22, ht⟩
    exact Wp.fewer (L' := [some (.ref 82)]) (show ab_leL _ _ from ⟨rfl, trivial⟩) ht
set_option maxRecDepth 20000 in
theorem T_X12_readRound_45 {Q : Option Value → ah_T → Prop} {h : ah_T} (hs : Sh h)  (ht : (Mt mX12_takes0 [.ref 82, .int 25] h (ab_qi fun v26 h24 => Sh h24 ∧ ((v26 = 0 → Wp mX12_readRound Q 0 0 107 [some (.ref 82)] [] h24) ∧ (¬ v26 = 0 → (vp_in (ah_i h24 82 17) (ah_n h24 90)) ∧ ((¬ (ah_i h24 90 (Int32.toNatClampNeg (ah_i h24 82 17))) = 50 → Wp mX12_readRound Q 0 0 86 [some (.ref 82)] [] h24) ∧ ((ah_i h24 90 (Int32.toNatClampNeg (ah_i h24 82 17))) = 50 → (vp_in (ah_i h24 82 17) (ah_n h24 91)) ∧ ((¬ (f_X12_lies (ah_i h24 91 (Int32.toNatClampNeg (ah_i h24 82 17))) 1 20) = 0 → Wp mX12_readRound Q 0 0 90 [some (.ref 82)] [] h24) ∧ ((f_X12_lies (ah_i h24 91 (Int32.toNatClampNeg (ah_i h24 82 17))) 1 20) = 0 → Wp mX12_readRound Q 0 0 86 [some (.ref 82)] [] h24))))))))) : Wp mX12_readRound Q 0 0 45 [some (.ref 82)] [] h := by
  refine ab_aload_n (i := 0) dX12_readRound_45 rfl rfl ?_
  refine ab_bipush (v := 25) dX12_readRound_46 (by decide) ?_
  refine ab_callV (b := 82) (As := [.int 25]) ht (Y_X12_takes0) l_X12_243 in_X12_takes0 se_X12_takes0 (sh_k hs 82 12 (by decide) rfl) (by decide) rfl rfl ⟨(Nat.le_of_ble_eq_true rfl), (Nat.le_of_ble_eq_true rfl), (Nat.le_of_ble_eq_true rfl), (Nat.le_of_ble_eq_true rfl)⟩ dX12_readRound_48 ?_
  rintro _ h24 ⟨v26, rfl, hs25, ht⟩
  refine ab_if_eq (tgt := 107) dX12_readRound_51 (by decide) (fun c27 => ?_) (fun c27 => ?_)
  · have ht := ht.1 c27
    exact Wp.fewer (L' := [some (.ref 82)]) (show ab_leL _ _ from ⟨rfl, trivial⟩) ht
  · have ht := ht.2 c27
    refine ab_aload_n (i := 0) dX12_readRound_54 rfl rfl ?_
    refine ab_getR (b := 90) f_X12_43 rfl (sh_k hs25 82 12 (by decide) rfl) (sh_r hs25 106 rfl) dX12_readRound_55 ?_
    refine ab_aload_n (i := 0) dX12_readRound_58 rfl rfl ?_
    refine ab_getI f_X12_240 rfl (sh_k hs25 82 12 (by decide) rfl) dX12_readRound_59 ?_
    obtain ⟨hc28, ht⟩ := ht
    refine ab_iald (sh_k hs25 90 14 (by decide) rfl) hc28 dX12_readRound_62 ?_
    refine ab_bipush (v := 50) dX12_readRound_63 (by decide) ?_
    refine ab_icmp_ne (tgt := 86) dX12_readRound_65 (by decide) (fun c29 => ?_) (fun c29 => ?_)
    · have ht := ht.1 c29
      exact Wp.fewer (L' := [some (.ref 82)]) (show ab_leL _ _ from ⟨rfl, trivial⟩) ht
    · have ht := ht.2 c29
      refine ab_aload_n (i := 0) dX12_readRound_68 rfl rfl ?_
      refine ab_getR (b := 91) f_X12_46 rfl (sh_k hs25 82 12 (by decide) rfl) (sh_r hs25 107 rfl) dX12_readRound_69 ?_
      refine ab_aload_n (i := 0) dX12_readRound_72 rfl rfl ?_
      refine ab_getI f_X12_240 rfl (sh_k hs25 82 12 (by decide) rfl) dX12_readRound_73 ?_
      obtain ⟨hc30, ht⟩ := ht
      refine ab_iald (sh_k hs25 91 14 (by decide) rfl) hc30 dX12_readRound_76 ?_
      refine ab_iconst (v := 1) dX12_readRound_77 (by decide) ?_
      refine ab_bipush (v := 20) dX12_readRound_78 (by decide) ?_
      refine ab_callS (Q' := fun r h' => r = some (.int (f_X12_lies (ah_i h24 91 (Int32.toNatClampNeg (ah_i h24 82 17))) 1 20)) ∧ h24 = h') (As := [.int (ah_i h24 91 (Int32.toNatClampNeg (ah_i h24 82 17))), .int 1, .int 20]) (c_X12_lies hs25 (ah_i h24 91 (Int32.toNatClampNeg (ah_i h24 82 17))) 1 20 ⟨rfl, rfl⟩) (Y_X12_lies) l_X12_156 st_X12_lies rfl ⟨(Nat.le_of_ble_eq_true rfl), (Nat.le_of_ble_eq_true rfl), (Nat.le_of_ble_eq_true rfl), (Nat.le_of_ble_eq_true rfl)⟩ dX12_readRound_80 ?_
      rintro _ _ ⟨rfl, rfl⟩
      refine ab_if_ne (tgt := 90) dX12_readRound_83 (by decide) (fun c31 => ?_) (fun c31 => ?_)
      · have ht := ht.1 c31
        exact Wp.fewer (L' := [some (.ref 82)]) (show ab_leL _ _ from ⟨rfl, trivial⟩) ht
      · have ht := ht.2 c31
        exact Wp.fewer (L' := [some (.ref 82)]) (show ab_leL _ _ from ⟨rfl, trivial⟩) ht
set_option maxRecDepth 20000 in
theorem T_X12_readRound_107 {Q : Option Value → ah_T → Prop} {h : ah_T} (hs : Sh h)  (ht : (Mt mX12_takes0 [.ref 82, .int 4] h (ab_qi fun v34 h32 => Sh h32 ∧ ((v34 = 0 → Wp mX12_readRound Q 0 0 120 [none] [] h32) ∧ (¬ v34 = 0 → (Mt (mX12_readTest 60) [.ref 82, .int 0] h32 (ab_qv fun h36 => Sh h36 ∧ Wp mX12_readRound Q 0 0 120 [none] [] h36))))))) : Wp mX12_readRound Q 0 0 107 [some (.ref 82)] [] h := by
  refine ab_aload_n (i := 0) dX12_readRound_107 rfl rfl ?_
  refine ab_iconst (v := 4) dX12_readRound_108 (by decide) ?_
  refine ab_callV (b := 82) (As := [.int 4]) ht (Y_X12_takes0) l_X12_243 in_X12_takes0 se_X12_takes0 (sh_k hs 82 12 (by decide) rfl) (by decide) rfl rfl ⟨(Nat.le_of_ble_eq_true rfl), (Nat.le_of_ble_eq_true rfl), (Nat.le_of_ble_eq_true rfl), (Nat.le_of_ble_eq_true rfl)⟩ dX12_readRound_109 ?_
  rintro _ h32 ⟨v34, rfl, hs33, ht⟩
  refine ab_if_eq (tgt := 120) dX12_readRound_112 (by decide) (fun c35 => ?_) (fun c35 => ?_)
  · have ht := ht.1 c35
    exact Wp.fewer (L' := [none]) (show ab_leL _ _ from trivial) ht
  · have ht := ht.2 c35
    refine ab_aload_n (i := 0) dX12_readRound_115 rfl rfl ?_
    refine ab_iconst (v := 0) dX12_readRound_116 (by decide) ?_
    refine ab_callV (b := 82) (As := [.int 0]) ht (Y_X12_readTest _) l_X12_263 in_X12_readTest se_X12_readTest (sh_k hs33 82 12 (by decide) rfl) (by decide) rfl rfl ⟨(Nat.le_of_ble_eq_true rfl), (Nat.le_of_ble_eq_true rfl), (Nat.le_of_ble_eq_true rfl), (Nat.le_of_ble_eq_true rfl)⟩ dX12_readRound_117 ?_
    rintro _ h36 ⟨rfl, hs37, ht⟩
    exact Wp.fewer (L' := [none]) (show ab_leL _ _ from trivial) ht
set_option maxRecDepth 20000 in
theorem T_X12_readRound_86 {Q : Option Value → ah_T → Prop} {h : ah_T} (hs : Sh h)  (ht : (Mt mX12_faults [.ref 82] h (ab_qv fun h39 => Sh h39 ∧ Wp mX12_readRound Q 0 0 90 [some (.ref 82)] [] h39))) : Wp mX12_readRound Q 0 0 86 [some (.ref 82)] [] h := by
  refine ab_aload_n (i := 0) dX12_readRound_86 rfl rfl ?_
  refine ab_callV (b := 82) (As := []) ht (Y_X12_faults) l_X12_246 in_X12_faults se_X12_faults (sh_k hs 82 12 (by decide) rfl) (by decide) rfl rfl ⟨(Nat.le_of_ble_eq_true rfl), (Nat.le_of_ble_eq_true rfl), (Nat.le_of_ble_eq_true rfl), (Nat.le_of_ble_eq_true rfl)⟩ dX12_readRound_87 ?_
  rintro _ h39 ⟨rfl, hs40, ht⟩
  exact Wp.fewer (L' := [some (.ref 82)]) (show ab_leL _ _ from ⟨rfl, trivial⟩) ht
set_option maxRecDepth 20000 in
theorem T_X12_readRound_90 {Q : Option Value → ah_T → Prop} {h : ah_T} (hs : Sh h)  (ht : (((f_X12_fine h ) = 0 → Wp mX12_readRound Q 0 0 107 [some (.ref 82)] [] h) ∧ (¬ (f_X12_fine h ) = 0 → (∀ h43, h43 = ah_si h 82 17 ((ah_i h 82 17) + 1) → Wp mX12_readRound Q 0 0 107 [some (.ref 82)] [] h43)))) : Wp mX12_readRound Q 0 0 90 [some (.ref 82)] [] h := by
  refine ab_aload_n (i := 0) dX12_readRound_90 rfl rfl ?_
  refine ab_callV (b := 82) (Q' := fun r h' => r = some (.int (f_X12_fine h )) ∧ h = h') (As := []) (c_X12_fine hs  ⟨rfl, rfl⟩) (Y_X12_fine) l_X12_236 in_X12_fine se_X12_fine (sh_k hs 82 12 (by decide) rfl) (by decide) rfl rfl ⟨(Nat.le_of_ble_eq_true rfl), (Nat.le_of_ble_eq_true rfl), (Nat.le_of_ble_eq_true rfl), (Nat.le_of_ble_eq_true rfl)⟩ dX12_readRound_91 ?_
  rintro _ _ ⟨rfl, rfl⟩
  refine ab_if_eq (tgt := 107) dX12_readRound_94 (by decide) (fun c42 => ?_) (fun c42 => ?_)
  · have ht := ht.1 c42
    exact Wp.fewer (L' := [some (.ref 82)]) (show ab_leL _ _ from ⟨rfl, trivial⟩) ht
  · have ht := ht.2 c42
    refine ab_aload_n (i := 0) dX12_readRound_97 rfl rfl ?_
    refine ab_dup dX12_readRound_98 rfl ?_
    refine ab_getI f_X12_240 rfl (sh_k hs 82 12 (by decide) rfl) dX12_readRound_99 ?_
    refine ab_iconst (v := 1) dX12_readRound_102 (by decide) ?_
    refine ab_iadd dX12_readRound_103 ?_
    refine ab_putI f_X12_240 (Or.inl rfl) rfl (sh_k hs 82 12 (by decide) rfl) rfl rfl dX12_readRound_104 ?_
    refine Wp.nm fun h43 e44 => ?_
    have ht := ht h43 e44
    have hs45 : Sh h43 := by rw [e44]; exact sh_si hs
    exact Wp.fewer (L' := [some (.ref 82)]) (show ab_leL _ _ from ⟨rfl, trivial⟩) ht
set_option maxRecDepth 20000 in
theorem T_X12_readRound_120 {Q : Option Value → ah_T → Prop} {h : ah_T} (hs : Sh h)  (ht : Q none h) : Wp mX12_readRound Q 0 0 120 [none] [] h := by
  exact ab_vret rfl dX12_readRound_120 (Nat.le_of_ble_eq_true rfl) (Nat.le_of_ble_eq_true rfl) ht
set_option maxRecDepth 20000 in
theorem T_X12_readRound {Q : Option Value → ah_T → Prop} {h : ah_T} (hs : Sh h)  (ht : (Mt mX12_takes0 [.ref 82, .int 21] h (ab_qi fun v3 h1 => Sh h1 ∧ ((¬ v3 = 0 → Wp mX12_readRound Q 0 0 15 [some (.ref 82)] [] h1) ∧ (v3 = 0 → (Mt mX12_must [.ref 82, .int 22] h1 (ab_qv fun h5 => Sh h5 ∧ Wp mX12_readRound Q 0 0 15 [some (.ref 82)] [] h5))))))) : Mt mX12_readRound [.ref 82] h Q := by
  refine Mt.ofWp rfl (by exact (Nat.le_of_ble_eq_true rfl)) (Wp.fewer (L' := [some (.ref 82)]) (show ab_leL _ _ from ⟨rfl, trivial⟩) ?_)
  refine ab_aload_n (i := 0) dX12_readRound_0 rfl rfl ?_
  refine ab_bipush (v := 21) dX12_readRound_1 (by decide) ?_
  refine ab_callV (b := 82) (As := [.int 21]) ht (Y_X12_takes0) l_X12_243 in_X12_takes0 se_X12_takes0 (sh_k hs 82 12 (by decide) rfl) (by decide) rfl rfl ⟨(Nat.le_of_ble_eq_true rfl), (Nat.le_of_ble_eq_true rfl), (Nat.le_of_ble_eq_true rfl), (Nat.le_of_ble_eq_true rfl)⟩ dX12_readRound_3 ?_
  rintro _ h1 ⟨v3, rfl, hs2, ht⟩
  refine ab_if_ne (tgt := 15) dX12_readRound_6 (by decide) (fun c4 => ?_) (fun c4 => ?_)
  · have ht := ht.1 c4
    exact Wp.fewer (L' := [some (.ref 82)]) (show ab_leL _ _ from ⟨rfl, trivial⟩) ht
  · have ht := ht.2 c4
    refine ab_aload_n (i := 0) dX12_readRound_9 rfl rfl ?_
    refine ab_bipush (v := 22) dX12_readRound_10 (by decide) ?_
    refine ab_callV (b := 82) (As := [.int 22]) ht (Y_X12_must) l_X12_260 in_X12_must se_X12_must (sh_k hs2 82 12 (by decide) rfl) (by decide) rfl rfl ⟨(Nat.le_of_ble_eq_true rfl), (Nat.le_of_ble_eq_true rfl), (Nat.le_of_ble_eq_true rfl), (Nat.le_of_ble_eq_true rfl)⟩ dX12_readRound_12 ?_
    rintro _ h5 ⟨rfl, hs6, ht⟩
    exact Wp.fewer (L' := [some (.ref 82)]) (show ab_leL _ _ from ⟨rfl, trivial⟩) ht
theorem dX12_readOne_0 : decode cX12_readOne 0 = .ok (.aload_n 0, 1) := by decide +kernel
theorem dX12_readOne_1 : decode cX12_readOne 1 = .ok (.getfield 252, 3) := by decide +kernel
theorem dX12_readOne_4 : decode cX12_readOne 4 = .ok (.ifCond .eq 10, 3) := by decide +kernel
theorem dX12_readOne_7 : decode cX12_readOne 7 = .ok (.aload_n 0, 1) := by decide +kernel
theorem dX12_readOne_8 : decode cX12_readOne 8 = .ok (.invokevirtual 266, 3) := by decide +kernel
theorem dX12_readOne_11 : decode cX12_readOne 11 = .ok (.goto 7, 3) := by decide +kernel
theorem dX12_readOne_14 : decode cX12_readOne 14 = .ok (.aload_n 0, 1) := by decide +kernel
theorem dX12_readOne_15 : decode cX12_readOne 15 = .ok (.invokevirtual 269, 3) := by decide +kernel
theorem dX12_readOne_18 : decode cX12_readOne 18 = .ok (.return_, 1) := by decide +kernel
set_option maxRecDepth 20000 in
theorem T_X12_readOne {Q : Option Value → ah_T → Prop} {h : ah_T} (hs : Sh h)  (ht : (((ah_i h 82 8) = 0 → (Mt mX12_readClause [.ref 82] h (ab_qv fun h2 => Sh h2 ∧ Q none h2))) ∧ (¬ (ah_i h 82 8) = 0 → (Mt mX12_readRound [.ref 82] h (ab_qv fun h5 => Sh h5 ∧ Q none h5))))) : Mt mX12_readOne [.ref 82] h Q := by
  refine Mt.ofWp rfl (by exact (Nat.le_of_ble_eq_true rfl)) (Wp.fewer (L' := [some (.ref 82)]) (show ab_leL _ _ from ⟨rfl, trivial⟩) ?_)
  refine ab_aload_n (i := 0) dX12_readOne_0 rfl rfl ?_
  refine ab_getI f_X12_252 rfl (sh_k hs 82 12 (by decide) rfl) dX12_readOne_1 ?_
  refine ab_if_eq (tgt := 14) dX12_readOne_4 (by decide) (fun c1 => ?_) (fun c1 => ?_)
  · have ht := ht.1 c1
    refine ab_aload_n (i := 0) dX12_readOne_14 rfl rfl ?_
    refine ab_callV (b := 82) (As := []) ht (Y_X12_readClause) l_X12_269 in_X12_readClause se_X12_readClause (sh_k hs 82 12 (by decide) rfl) (by decide) rfl rfl ⟨(Nat.le_of_ble_eq_true rfl), (Nat.le_of_ble_eq_true rfl), (Nat.le_of_ble_eq_true rfl), (Nat.le_of_ble_eq_true rfl)⟩ dX12_readOne_15 ?_
    rintro _ h2 ⟨rfl, hs3, ht⟩
    exact ab_vret rfl dX12_readOne_18 (Nat.le_of_ble_eq_true rfl) (Nat.le_of_ble_eq_true rfl) ht
  · have ht := ht.2 c1
    refine ab_aload_n (i := 0) dX12_readOne_7 rfl rfl ?_
    refine ab_callV (b := 82) (As := []) ht (Y_X12_readRound) l_X12_266 in_X12_readRound se_X12_readRound (sh_k hs 82 12 (by decide) rfl) (by decide) rfl rfl ⟨(Nat.le_of_ble_eq_true rfl), (Nat.le_of_ble_eq_true rfl), (Nat.le_of_ble_eq_true rfl), (Nat.le_of_ble_eq_true rfl)⟩ dX12_readOne_8 ?_
    rintro _ h5 ⟨rfl, hs6, ht⟩
    refine ab_goto (tgt := 18) dX12_readOne_11 (by decide) ?_
    exact ab_vret rfl dX12_readOne_18 (Nat.le_of_ble_eq_true rfl) (Nat.le_of_ble_eq_true rfl) ht
theorem dX12_readTest_0 : decode cX12_readTest 0 = .ok (.aload_n 0, 1) := by decide +kernel
theorem dX12_readTest_1 : decode cX12_readTest 1 = .ok (.iload_n 1, 1) := by decide +kernel
theorem dX12_readTest_2 : decode cX12_readTest 2 = .ok (.invokevirtual 272, 3) := by decide +kernel
theorem dX12_readTest_5 : decode cX12_readTest 5 = .ok (.aload_n 0, 1) := by decide +kernel
theorem dX12_readTest_6 : decode cX12_readTest 6 = .ok (.iconst 5, 1) := by decide +kernel
theorem dX12_readTest_7 : decode cX12_readTest 7 = .ok (.invokevirtual 243, 3) := by decide +kernel
theorem dX12_readTest_10 : decode cX12_readTest 10 = .ok (.ifCond .eq 11, 3) := by decide +kernel
theorem dX12_readTest_13 : decode cX12_readTest 13 = .ok (.aload_n 0, 1) := by decide +kernel
theorem dX12_readTest_14 : decode cX12_readTest 14 = .ok (.iload_n 1, 1) := by decide +kernel
theorem dX12_readTest_15 : decode cX12_readTest 15 = .ok (.invokevirtual 272, 3) := by decide +kernel
theorem dX12_readTest_18 : decode cX12_readTest 18 = .ok (.goto (-13), 3) := by decide +kernel
theorem dX12_readTest_21 : decode cX12_readTest 21 = .ok (.return_, 1) := by decide +kernel
set_option maxRecDepth 20000 in
theorem T_X12_readTest_5 {d : Nat} (hd : 8 ≤ d) {Q : Option Value → ah_T → Prop} {h : ah_T} (hs : Sh h) (x1 : Int32) (ht : (Mt mX12_takes0 [.ref 82, .int 5] h (ab_qi fun v6 h4 => Sh h4 ∧ ((v6 = 0 → Q none h4) ∧ (¬ v6 = 0 → (Mt (mX12_readBoth (d - 1)) [.ref 82, .int x1] h4 (ab_qv fun h8 => Sh h8 ∧ Wp (mX12_readTest d) Q 0 0 5 [some (.ref 82), some (.int x1)] [] h8))))))) : Wp (mX12_readTest d) Q 0 0 5 [some (.ref 82), some (.int x1)] [] h := by
  refine ab_aload_n (i := 0) dX12_readTest_5 rfl rfl ?_
  refine ab_iconst (v := 5) dX12_readTest_6 (by decide) ?_
  refine ab_callV (b := 82) (As := [.int 5]) ht (Y_X12_takes0) l_X12_243 in_X12_takes0 se_X12_takes0 (sh_k hs 82 12 (by decide) rfl) (by decide) rfl rfl ⟨(show 2 + 1 ≤ d by omega), (Nat.le_of_ble_eq_true rfl), (Nat.le_of_ble_eq_true rfl), (Nat.le_of_ble_eq_true rfl)⟩ dX12_readTest_7 ?_
  rintro _ h4 ⟨v6, rfl, hs5, ht⟩
  refine ab_if_eq (tgt := 21) dX12_readTest_10 (by decide) (fun c7 => ?_) (fun c7 => ?_)
  · have ht := ht.1 c7
    exact ab_vret rfl dX12_readTest_21 (Nat.le_of_ble_eq_true rfl) (Nat.le_of_ble_eq_true rfl) ht
  · have ht := ht.2 c7
    refine ab_aload_n (i := 0) dX12_readTest_13 rfl rfl ?_
    refine ab_iload_n (i := 1) dX12_readTest_14 rfl rfl ?_
    refine ab_callV (b := 82) (As := [.int x1]) ht (Y_X12_readBoth _) l_X12_272 in_X12_readBoth se_X12_readBoth (sh_k hs5 82 12 (by decide) rfl) (by decide) rfl rfl ⟨(show d - 1 + 1 ≤ d by omega), (Nat.le_of_ble_eq_true rfl), (Nat.le_of_ble_eq_true rfl), (Nat.le_of_ble_eq_true rfl)⟩ dX12_readTest_15 ?_
    rintro _ h8 ⟨rfl, hs9, ht⟩
    refine ab_goto (tgt := 5) dX12_readTest_18 (by decide) ?_
    exact Wp.fewer (L' := [some (.ref 82), some (.int x1)]) (show ab_leL _ _ from ⟨rfl, ⟨rfl, trivial⟩⟩) ht
set_option maxRecDepth 20000 in
theorem T_X12_readTest {d : Nat} (hd : 8 ≤ d) {Q : Option Value → ah_T → Prop} {h : ah_T} (hs : Sh h) (x1 : Int32) (ht : (Mt (mX12_readBoth (d - 1)) [.ref 82, .int x1] h (ab_qv fun h1 => Sh h1 ∧ Wp (mX12_readTest d) Q 0 0 5 [some (.ref 82), some (.int x1)] [] h1))) : Mt (mX12_readTest d) [.ref 82, .int x1] h Q := by
  refine Mt.ofWp rfl (by exact (Nat.le_of_ble_eq_true rfl)) (Wp.fewer (L' := [some (.ref 82), some (.int x1)]) (show ab_leL _ _ from ⟨rfl, ⟨rfl, trivial⟩⟩) ?_)
  refine ab_aload_n (i := 0) dX12_readTest_0 rfl rfl ?_
  refine ab_iload_n (i := 1) dX12_readTest_1 rfl rfl ?_
  refine ab_callV (b := 82) (As := [.int x1]) ht (Y_X12_readBoth _) l_X12_272 in_X12_readBoth se_X12_readBoth (sh_k hs 82 12 (by decide) rfl) (by decide) rfl rfl ⟨(show d - 1 + 1 ≤ d by omega), (Nat.le_of_ble_eq_true rfl), (Nat.le_of_ble_eq_true rfl), (Nat.le_of_ble_eq_true rfl)⟩ dX12_readTest_2 ?_
  rintro _ h1 ⟨rfl, hs2, ht⟩
  exact Wp.fewer (L' := [some (.ref 82), some (.int x1)]) (show ab_leL _ _ from ⟨rfl, ⟨rfl, trivial⟩⟩) ht
theorem dX12_readBoth_0 : decode cX12_readBoth 0 = .ok (.aload_n 0, 1) := by decide +kernel
theorem dX12_readBoth_1 : decode cX12_readBoth 1 = .ok (.iload_n 1, 1) := by decide +kernel
theorem dX12_readBoth_2 : decode cX12_readBoth 2 = .ok (.invokevirtual 275, 3) := by decide +kernel
theorem dX12_readBoth_5 : decode cX12_readBoth 5 = .ok (.aload_n 0, 1) := by decide +kernel
theorem dX12_readBoth_6 : decode cX12_readBoth 6 = .ok (.bipush 6, 2) := by decide +kernel
theorem dX12_readBoth_8 : decode cX12_readBoth 8 = .ok (.invokevirtual 243, 3) := by decide +kernel
theorem dX12_readBoth_11 : decode cX12_readBoth 11 = .ok (.ifCond .eq 11, 3) := by decide +kernel
theorem dX12_readBoth_14 : decode cX12_readBoth 14 = .ok (.aload_n 0, 1) := by decide +kernel
theorem dX12_readBoth_15 : decode cX12_readBoth 15 = .ok (.iload_n 1, 1) := by decide +kernel
theorem dX12_readBoth_16 : decode cX12_readBoth 16 = .ok (.invokevirtual 275, 3) := by decide +kernel
theorem dX12_readBoth_19 : decode cX12_readBoth 19 = .ok (.goto (-14), 3) := by decide +kernel
theorem dX12_readBoth_22 : decode cX12_readBoth 22 = .ok (.return_, 1) := by decide +kernel
set_option maxRecDepth 20000 in
theorem T_X12_readBoth_5 {d : Nat} (hd : 8 ≤ d) {Q : Option Value → ah_T → Prop} {h : ah_T} (hs : Sh h) (x1 : Int32) (ht : (Mt mX12_takes0 [.ref 82, .int 6] h (ab_qi fun v6 h4 => Sh h4 ∧ ((v6 = 0 → Q none h4) ∧ (¬ v6 = 0 → (Mt (mX12_readPlain (d - 1)) [.ref 82, .int x1] h4 (ab_qv fun h8 => Sh h8 ∧ Wp (mX12_readBoth d) Q 0 0 5 [some (.ref 82), some (.int x1)] [] h8))))))) : Wp (mX12_readBoth d) Q 0 0 5 [some (.ref 82), some (.int x1)] [] h := by
  refine ab_aload_n (i := 0) dX12_readBoth_5 rfl rfl ?_
  refine ab_bipush (v := 6) dX12_readBoth_6 (by decide) ?_
  refine ab_callV (b := 82) (As := [.int 6]) ht (Y_X12_takes0) l_X12_243 in_X12_takes0 se_X12_takes0 (sh_k hs 82 12 (by decide) rfl) (by decide) rfl rfl ⟨(show 2 + 1 ≤ d by omega), (Nat.le_of_ble_eq_true rfl), (Nat.le_of_ble_eq_true rfl), (Nat.le_of_ble_eq_true rfl)⟩ dX12_readBoth_8 ?_
  rintro _ h4 ⟨v6, rfl, hs5, ht⟩
  refine ab_if_eq (tgt := 22) dX12_readBoth_11 (by decide) (fun c7 => ?_) (fun c7 => ?_)
  · have ht := ht.1 c7
    exact ab_vret rfl dX12_readBoth_22 (Nat.le_of_ble_eq_true rfl) (Nat.le_of_ble_eq_true rfl) ht
  · have ht := ht.2 c7
    refine ab_aload_n (i := 0) dX12_readBoth_14 rfl rfl ?_
    refine ab_iload_n (i := 1) dX12_readBoth_15 rfl rfl ?_
    refine ab_callV (b := 82) (As := [.int x1]) ht (Y_X12_readPlain _) l_X12_275 in_X12_readPlain se_X12_readPlain (sh_k hs5 82 12 (by decide) rfl) (by decide) rfl rfl ⟨(show d - 1 + 1 ≤ d by omega), (Nat.le_of_ble_eq_true rfl), (Nat.le_of_ble_eq_true rfl), (Nat.le_of_ble_eq_true rfl)⟩ dX12_readBoth_16 ?_
    rintro _ h8 ⟨rfl, hs9, ht⟩
    refine ab_goto (tgt := 5) dX12_readBoth_19 (by decide) ?_
    exact Wp.fewer (L' := [some (.ref 82), some (.int x1)]) (show ab_leL _ _ from ⟨rfl, ⟨rfl, trivial⟩⟩) ht
set_option maxRecDepth 20000 in
theorem T_X12_readBoth {d : Nat} (hd : 8 ≤ d) {Q : Option Value → ah_T → Prop} {h : ah_T} (hs : Sh h) (x1 : Int32) (ht : (Mt (mX12_readPlain (d - 1)) [.ref 82, .int x1] h (ab_qv fun h1 => Sh h1 ∧ Wp (mX12_readBoth d) Q 0 0 5 [some (.ref 82), some (.int x1)] [] h1))) : Mt (mX12_readBoth d) [.ref 82, .int x1] h Q := by
  refine Mt.ofWp rfl (by exact (Nat.le_of_ble_eq_true rfl)) (Wp.fewer (L' := [some (.ref 82), some (.int x1)]) (show ab_leL _ _ from ⟨rfl, ⟨rfl, trivial⟩⟩) ?_)
  refine ab_aload_n (i := 0) dX12_readBoth_0 rfl rfl ?_
  refine ab_iload_n (i := 1) dX12_readBoth_1 rfl rfl ?_
  refine ab_callV (b := 82) (As := [.int x1]) ht (Y_X12_readPlain _) l_X12_275 in_X12_readPlain se_X12_readPlain (sh_k hs 82 12 (by decide) rfl) (by decide) rfl rfl ⟨(show d - 1 + 1 ≤ d by omega), (Nat.le_of_ble_eq_true rfl), (Nat.le_of_ble_eq_true rfl), (Nat.le_of_ble_eq_true rfl)⟩ dX12_readBoth_2 ?_
  rintro _ h1 ⟨rfl, hs2, ht⟩
  exact Wp.fewer (L' := [some (.ref 82), some (.int x1)]) (show ab_leL _ _ from ⟨rfl, ⟨rfl, trivial⟩⟩) ht
theorem dX12_readPlain_0 : decode cX12_readPlain 0 = .ok (.iconst 1, 1) := by decide +kernel
theorem dX12_readPlain_1 : decode cX12_readPlain 1 = .ok (.istore_n 2, 1) := by decide +kernel
theorem dX12_readPlain_2 : decode cX12_readPlain 2 = .ok (.iload_n 2, 1) := by decide +kernel
theorem dX12_readPlain_3 : decode cX12_readPlain 3 = .ok (.ifCond .eq 13, 3) := by decide +kernel
theorem dX12_readPlain_6 : decode cX12_readPlain 6 = .ok (.aload_n 0, 1) := by decide +kernel
theorem dX12_readPlain_7 : decode cX12_readPlain 7 = .ok (.bipush 7, 2) := by decide +kernel
theorem dX12_readPlain_9 : decode cX12_readPlain 9 = .ok (.invokevirtual 243, 3) := by decide +kernel
theorem dX12_readPlain_12 : decode cX12_readPlain 12 = .ok (.istore_n 2, 1) := by decide +kernel
theorem dX12_readPlain_13 : decode cX12_readPlain 13 = .ok (.goto (-11), 3) := by decide +kernel
theorem dX12_readPlain_16 : decode cX12_readPlain 16 = .ok (.aload_n 0, 1) := by decide +kernel
theorem dX12_readPlain_17 : decode cX12_readPlain 17 = .ok (.invokevirtual 236, 3) := by decide +kernel
theorem dX12_readPlain_20 : decode cX12_readPlain 20 = .ok (.ifCond .ne 4, 3) := by decide +kernel
theorem dX12_readPlain_23 : decode cX12_readPlain 23 = .ok (.return_, 1) := by decide +kernel
theorem dX12_readPlain_24 : decode cX12_readPlain 24 = .ok (.aload_n 0, 1) := by decide +kernel
theorem dX12_readPlain_25 : decode cX12_readPlain 25 = .ok (.getfield 43, 3) := by decide +kernel
theorem dX12_readPlain_28 : decode cX12_readPlain 28 = .ok (.aload_n 0, 1) := by decide +kernel
theorem dX12_readPlain_29 : decode cX12_readPlain 29 = .ok (.getfield 240, 3) := by decide +kernel
theorem dX12_readPlain_32 : decode cX12_readPlain 32 = .ok (.iaload, 1) := by decide +kernel
theorem dX12_readPlain_33 : decode cX12_readPlain 33 = .ok (.istore_n 3, 1) := by decide +kernel
theorem dX12_readPlain_34 : decode cX12_readPlain 34 = .ok (.iload_n 3, 1) := by decide +kernel
theorem dX12_readPlain_35 : decode cX12_readPlain 35 = .ok (.bipush 40, 2) := by decide +kernel
theorem dX12_readPlain_37 : decode cX12_readPlain 37 = .ok (.invokestatic 278, 3) := by decide +kernel
theorem dX12_readPlain_40 : decode cX12_readPlain 40 = .ok (.if_icmp .ne 50, 3) := by decide +kernel
theorem dX12_readPlain_43 : decode cX12_readPlain 43 = .ok (.iload_n 1, 1) := by decide +kernel
theorem dX12_readPlain_44 : decode cX12_readPlain 44 = .ok (.bipush 8, 2) := by decide +kernel
theorem dX12_readPlain_46 : decode cX12_readPlain 46 = .ok (.if_icmp .ne 7, 3) := by decide +kernel
theorem dX12_readPlain_49 : decode cX12_readPlain 49 = .ok (.aload_n 0, 1) := by decide +kernel
theorem dX12_readPlain_50 : decode cX12_readPlain 50 = .ok (.invokevirtual 246, 3) := by decide +kernel
theorem dX12_readPlain_53 : decode cX12_readPlain 53 = .ok (.aload_n 0, 1) := by decide +kernel
theorem dX12_readPlain_54 : decode cX12_readPlain 54 = .ok (.invokevirtual 236, 3) := by decide +kernel
theorem dX12_readPlain_57 : decode cX12_readPlain 57 = .ok (.ifCond .ne 4, 3) := by decide +kernel
theorem dX12_readPlain_60 : decode cX12_readPlain 60 = .ok (.return_, 1) := by decide +kernel
theorem dX12_readPlain_61 : decode cX12_readPlain 61 = .ok (.aload_n 0, 1) := by decide +kernel
theorem dX12_readPlain_62 : decode cX12_readPlain 62 = .ok (.dup, 1) := by decide +kernel
theorem dX12_readPlain_63 : decode cX12_readPlain 63 = .ok (.getfield 240, 3) := by decide +kernel
theorem dX12_readPlain_66 : decode cX12_readPlain 66 = .ok (.iconst 1, 1) := by decide +kernel
theorem dX12_readPlain_67 : decode cX12_readPlain 67 = .ok (.iadd, 1) := by decide +kernel
theorem dX12_readPlain_68 : decode cX12_readPlain 68 = .ok (.putfield 240, 3) := by decide +kernel
theorem dX12_readPlain_71 : decode cX12_readPlain 71 = .ok (.aload_n 0, 1) := by decide +kernel
theorem dX12_readPlain_72 : decode cX12_readPlain 72 = .ok (.iload_n 1, 1) := by decide +kernel
theorem dX12_readPlain_73 : decode cX12_readPlain 73 = .ok (.iconst 1, 1) := by decide +kernel
theorem dX12_readPlain_74 : decode cX12_readPlain 74 = .ok (.iadd, 1) := by decide +kernel
theorem dX12_readPlain_75 : decode cX12_readPlain 75 = .ok (.invokevirtual 263, 3) := by decide +kernel
theorem dX12_readPlain_78 : decode cX12_readPlain 78 = .ok (.aload_n 0, 1) := by decide +kernel
theorem dX12_readPlain_79 : decode cX12_readPlain 79 = .ok (.bipush 41, 2) := by decide +kernel
theorem dX12_readPlain_81 : decode cX12_readPlain 81 = .ok (.invokestatic 278, 3) := by decide +kernel
theorem dX12_readPlain_84 : decode cX12_readPlain 84 = .ok (.invokevirtual 260, 3) := by decide +kernel
theorem dX12_readPlain_87 : decode cX12_readPlain 87 = .ok (.goto 46, 3) := by decide +kernel
theorem dX12_readPlain_90 : decode cX12_readPlain 90 = .ok (.aload_n 0, 1) := by decide +kernel
theorem dX12_readPlain_91 : decode cX12_readPlain 91 = .ok (.iload_n 1, 1) := by decide +kernel
theorem dX12_readPlain_92 : decode cX12_readPlain 92 = .ok (.invokevirtual 256, 3) := by decide +kernel
theorem dX12_readPlain_95 : decode cX12_readPlain 95 = .ok (.aload_n 0, 1) := by decide +kernel
theorem dX12_readPlain_96 : decode cX12_readPlain 96 = .ok (.bipush 60, 2) := by decide +kernel
theorem dX12_readPlain_98 : decode cX12_readPlain 98 = .ok (.invokestatic 278, 3) := by decide +kernel
theorem dX12_readPlain_101 : decode cX12_readPlain 101 = .ok (.invokevirtual 243, 3) := by decide +kernel
theorem dX12_readPlain_104 : decode cX12_readPlain 104 = .ok (.ifCond .ne 24, 3) := by decide +kernel
theorem dX12_readPlain_107 : decode cX12_readPlain 107 = .ok (.aload_n 0, 1) := by decide +kernel
theorem dX12_readPlain_108 : decode cX12_readPlain 108 = .ok (.bipush 62, 2) := by decide +kernel
theorem dX12_readPlain_110 : decode cX12_readPlain 110 = .ok (.invokestatic 278, 3) := by decide +kernel
theorem dX12_readPlain_113 : decode cX12_readPlain 113 = .ok (.invokevirtual 243, 3) := by decide +kernel
theorem dX12_readPlain_116 : decode cX12_readPlain 116 = .ok (.ifCond .ne 12, 3) := by decide +kernel
theorem dX12_readPlain_119 : decode cX12_readPlain 119 = .ok (.aload_n 0, 1) := by decide +kernel
theorem dX12_readPlain_120 : decode cX12_readPlain 120 = .ok (.bipush 61, 2) := by decide +kernel
theorem dX12_readPlain_122 : decode cX12_readPlain 122 = .ok (.invokestatic 278, 3) := by decide +kernel
theorem dX12_readPlain_125 : decode cX12_readPlain 125 = .ok (.invokevirtual 260, 3) := by decide +kernel
theorem dX12_readPlain_128 : decode cX12_readPlain 128 = .ok (.aload_n 0, 1) := by decide +kernel
theorem dX12_readPlain_129 : decode cX12_readPlain 129 = .ok (.iload_n 1, 1) := by decide +kernel
theorem dX12_readPlain_130 : decode cX12_readPlain 130 = .ok (.invokevirtual 256, 3) := by decide +kernel
theorem dX12_readPlain_133 : decode cX12_readPlain 133 = .ok (.return_, 1) := by decide +kernel
set_option maxRecDepth 20000 in
theorem T_X12_readPlain_2 {d : Nat} (hd : 8 ≤ d) {Q : Option Value → ah_T → Prop} {h : ah_T} (hs : Sh h) (x1 : Int32) (x2 : Int32) (ht : ((x2 = 0 → ((¬ (f_X12_fine h ) = 0 → (vp_in (ah_i h 82 17) (ah_n h 90)) ∧ ((¬ (ah_i h 90 (Int32.toNatClampNeg (ah_i h 82 17))) = (f_X12_sign 40) → (Mt (mX12_readSum (d - 1)) [.ref 82, .int x1] h (ab_qv fun h5 => Sh h5 ∧ (Mt mX12_takes0 [.ref 82, .int (f_X12_sign 60)] h5 (ab_qi fun v10 h8 => Sh h8 ∧ ((¬ v10 = 0 → (Mt (mX12_readSum (d - 1)) [.ref 82, .int x1] h8 (ab_qv fun h12 => Sh h12 ∧ Q none h12))) ∧ (v10 = 0 → (Mt mX12_takes0 [.ref 82, .int (f_X12_sign 62)] h8 (ab_qi fun v17 h15 => Sh h15 ∧ ((¬ v17 = 0 → (Mt (mX12_readSum (d - 1)) [.ref 82, .int x1] h15 (ab_qv fun h19 => Sh h19 ∧ Q none h19))) ∧ (v17 = 0 → (Mt mX12_must [.ref 82, .int (f_X12_sign 61)] h15 (ab_qv fun h22 => Sh h22 ∧ (Mt (mX12_readSum (d - 1)) [.ref 82, .int x1] h22 (ab_qv fun h25 => Sh h25 ∧ Q none h25))))))))))))))) ∧ ((ah_i h 90 (Int32.toNatClampNeg (ah_i h 82 17))) = (f_X12_sign 40) → ((¬ x1 = 8 → ((¬ (f_X12_fine h ) = 0 → (∀ h30, h30 = ah_si h 82 17 ((ah_i h 82 17) + 1) → (Mt (mX12_readTest (d - 1)) [.ref 82, .int (x1 + 1)] h30 (ab_qv fun h33 => Sh h33 ∧ (Mt mX12_must [.ref 82, .int (f_X12_sign 41)] h33 (ab_qv fun h36 => Sh h36 ∧ Q none h36)))))) ∧ ((f_X12_fine h ) = 0 → Q none h))) ∧ (x1 = 8 → (Mt mX12_faults [.ref 82] h (ab_qv fun h39 => Sh h39 ∧ ((¬ (f_X12_fine h39 ) = 0 → (∀ h43, h43 = ah_si h39 82 17 ((ah_i h39 82 17) + 1) → (Mt (mX12_readTest (d - 1)) [.ref 82, .int (x1 + 1)] h43 (ab_qv fun h46 => Sh h46 ∧ (Mt mX12_must [.ref 82, .int (f_X12_sign 41)] h46 (ab_qv fun h49 => Sh h49 ∧ Q none h49)))))) ∧ ((f_X12_fine h39 ) = 0 → Q none h39))))))))) ∧ ((f_X12_fine h ) = 0 → Q none h))) ∧ (¬ x2 = 0 → (Mt mX12_takes0 [.ref 82, .int 7] h (ab_qi fun v54 h52 => Sh h52 ∧ Wp (mX12_readPlain d) Q 0 0 2 [some (.ref 82), some (.int x1), some (.int v54), none] [] h52))))) : Wp (mX12_readPlain d) Q 0 0 2 [some (.ref 82), some (.int x1), some (.int x2), none] [] h := by
  refine ab_iload_n (i := 2) dX12_readPlain_2 rfl rfl ?_
  refine ab_if_eq (tgt := 16) dX12_readPlain_3 (by decide) (fun c1 => ?_) (fun c1 => ?_)
  · have ht := ht.1 c1
    refine ab_aload_n (i := 0) dX12_readPlain_16 rfl rfl ?_
    refine ab_callV (b := 82) (Q' := fun r h' => r = some (.int (f_X12_fine h )) ∧ h = h') (As := []) (c_X12_fine hs  ⟨rfl, rfl⟩) (Y_X12_fine) l_X12_236 in_X12_fine se_X12_fine (sh_k hs 82 12 (by decide) rfl) (by decide) rfl rfl ⟨(show 1 + 1 ≤ d by omega), (Nat.le_of_ble_eq_true rfl), (Nat.le_of_ble_eq_true rfl), (Nat.le_of_ble_eq_true rfl)⟩ dX12_readPlain_17 ?_
    rintro _ _ ⟨rfl, rfl⟩
    refine ab_if_ne (tgt := 24) dX12_readPlain_20 (by decide) (fun c2 => ?_) (fun c2 => ?_)
    · have ht := ht.1 c2
      refine ab_aload_n (i := 0) dX12_readPlain_24 rfl rfl ?_
      refine ab_getR (b := 90) f_X12_43 rfl (sh_k hs 82 12 (by decide) rfl) (sh_r hs 106 rfl) dX12_readPlain_25 ?_
      refine ab_aload_n (i := 0) dX12_readPlain_28 rfl rfl ?_
      refine ab_getI f_X12_240 rfl (sh_k hs 82 12 (by decide) rfl) dX12_readPlain_29 ?_
      obtain ⟨hc3, ht⟩ := ht
      refine ab_iald (sh_k hs 90 14 (by decide) rfl) hc3 dX12_readPlain_32 ?_
      refine ab_istore_n (i := 3) (L' := [some (.ref 82), some (.int x1), some (.int x2), some (.int (ah_i h 90 (Int32.toNatClampNeg (ah_i h 82 17))))]) dX12_readPlain_33 rfl (by exact (Nat.le_of_ble_eq_true rfl)) rfl rfl ?_
      refine ab_iload_n (i := 3) dX12_readPlain_34 rfl rfl ?_
      refine ab_bipush (v := 40) dX12_readPlain_35 (by decide) ?_
      refine ab_callS (Q' := fun r h' => r = some (.int (f_X12_sign 40)) ∧ h = h') (As := [.int 40]) (c_X12_sign hs 40 ⟨rfl, rfl⟩) (Y_X12_sign) l_X12_278 st_X12_sign rfl ⟨(show 1 + 1 ≤ d by omega), (Nat.le_of_ble_eq_true rfl), (Nat.le_of_ble_eq_true rfl), (Nat.le_of_ble_eq_true rfl)⟩ dX12_readPlain_37 ?_
      rintro _ _ ⟨rfl, rfl⟩
      refine ab_icmp_ne (tgt := 90) dX12_readPlain_40 (by decide) (fun c4 => ?_) (fun c4 => ?_)
      · have ht := ht.1 c4
        refine ab_aload_n (i := 0) dX12_readPlain_90 rfl rfl ?_
        refine ab_iload_n (i := 1) dX12_readPlain_91 rfl rfl ?_
        refine ab_callV (b := 82) (As := [.int x1]) ht (Y_X12_readSum _) l_X12_256 in_X12_readSum se_X12_readSum (sh_k hs 82 12 (by decide) rfl) (by decide) rfl rfl ⟨(show d - 1 + 1 ≤ d by omega), (Nat.le_of_ble_eq_true rfl), (Nat.le_of_ble_eq_true rfl), (Nat.le_of_ble_eq_true rfl)⟩ dX12_readPlain_92 ?_
        rintro _ h5 ⟨rfl, hs6, ht⟩
        refine ab_aload_n (i := 0) dX12_readPlain_95 rfl rfl ?_
        refine ab_bipush (v := 60) dX12_readPlain_96 (by decide) ?_
        refine ab_callS (Q' := fun r h' => r = some (.int (f_X12_sign 60)) ∧ h5 = h') (As := [.int 60]) (c_X12_sign hs6 60 ⟨rfl, rfl⟩) (Y_X12_sign) l_X12_278 st_X12_sign rfl ⟨(show 1 + 1 ≤ d by omega), (Nat.le_of_ble_eq_true rfl), (Nat.le_of_ble_eq_true rfl), (Nat.le_of_ble_eq_true rfl)⟩ dX12_readPlain_98 ?_
        rintro _ _ ⟨rfl, rfl⟩
        refine ab_callV (b := 82) (As := [.int (f_X12_sign 60)]) ht (Y_X12_takes0) l_X12_243 in_X12_takes0 se_X12_takes0 (sh_k hs6 82 12 (by decide) rfl) (by decide) rfl rfl ⟨(show 2 + 1 ≤ d by omega), (Nat.le_of_ble_eq_true rfl), (Nat.le_of_ble_eq_true rfl), (Nat.le_of_ble_eq_true rfl)⟩ dX12_readPlain_101 ?_
        rintro _ h8 ⟨v10, rfl, hs9, ht⟩
        refine ab_if_ne (tgt := 128) dX12_readPlain_104 (by decide) (fun c11 => ?_) (fun c11 => ?_)
        · have ht := ht.1 c11
          refine ab_aload_n (i := 0) dX12_readPlain_128 rfl rfl ?_
          refine ab_iload_n (i := 1) dX12_readPlain_129 rfl rfl ?_
          refine ab_callV (b := 82) (As := [.int x1]) ht (Y_X12_readSum _) l_X12_256 in_X12_readSum se_X12_readSum (sh_k hs9 82 12 (by decide) rfl) (by decide) rfl rfl ⟨(show d - 1 + 1 ≤ d by omega), (Nat.le_of_ble_eq_true rfl), (Nat.le_of_ble_eq_true rfl), (Nat.le_of_ble_eq_true rfl)⟩ dX12_readPlain_130 ?_
          rintro _ h12 ⟨rfl, hs13, ht⟩
          exact ab_vret rfl dX12_readPlain_133 (Nat.le_of_ble_eq_true rfl) (Nat.le_of_ble_eq_true rfl) ht
        · have ht := ht.2 c11
          refine ab_aload_n (i := 0) dX12_readPlain_107 rfl rfl ?_
          refine ab_bipush (v := 62) dX12_readPlain_108 (by decide) ?_
          refine ab_callS (Q' := fun r h' => r = some (.int (f_X12_sign 62)) ∧ h8 = h') (As := [.int 62]) (c_X12_sign hs9 62 ⟨rfl, rfl⟩) (Y_X12_sign) l_X12_278 st_X12_sign rfl ⟨(show 1 + 1 ≤ d by omega), (Nat.le_of_ble_eq_true rfl), (Nat.le_of_ble_eq_true rfl), (Nat.le_of_ble_eq_true rfl)⟩ dX12_readPlain_110 ?_
          rintro _ _ ⟨rfl, rfl⟩
          refine ab_callV (b := 82) (As := [.int (f_X12_sign 62)]) ht (Y_X12_takes0) l_X12_243 in_X12_takes0 se_X12_takes0 (sh_k hs9 82 12 (by decide) rfl) (by decide) rfl rfl ⟨(show 2 + 1 ≤ d by omega), (Nat.le_of_ble_eq_true rfl), (Nat.le_of_ble_eq_true rfl), (Nat.le_of_ble_eq_true rfl)⟩ dX12_readPlain_113 ?_
          rintro _ h15 ⟨v17, rfl, hs16, ht⟩
          refine ab_if_ne (tgt := 128) dX12_readPlain_116 (by decide) (fun c18 => ?_) (fun c18 => ?_)
          · have ht := ht.1 c18
            refine ab_aload_n (i := 0) dX12_readPlain_128 rfl rfl ?_
            refine ab_iload_n (i := 1) dX12_readPlain_129 rfl rfl ?_
            refine ab_callV (b := 82) (As := [.int x1]) ht (Y_X12_readSum _) l_X12_256 in_X12_readSum se_X12_readSum (sh_k hs16 82 12 (by decide) rfl) (by decide) rfl rfl ⟨(show d - 1 + 1 ≤ d by omega), (Nat.le_of_ble_eq_true rfl), (Nat.le_of_ble_eq_true rfl), (Nat.le_of_ble_eq_true rfl)⟩ dX12_readPlain_130 ?_
            rintro _ h19 ⟨rfl, hs20, ht⟩
            exact ab_vret rfl dX12_readPlain_133 (Nat.le_of_ble_eq_true rfl) (Nat.le_of_ble_eq_true rfl) ht
          · have ht := ht.2 c18
            refine ab_aload_n (i := 0) dX12_readPlain_119 rfl rfl ?_
            refine ab_bipush (v := 61) dX12_readPlain_120 (by decide) ?_
            refine ab_callS (Q' := fun r h' => r = some (.int (f_X12_sign 61)) ∧ h15 = h') (As := [.int 61]) (c_X12_sign hs16 61 ⟨rfl, rfl⟩) (Y_X12_sign) l_X12_278 st_X12_sign rfl ⟨(show 1 + 1 ≤ d by omega), (Nat.le_of_ble_eq_true rfl), (Nat.le_of_ble_eq_true rfl), (Nat.le_of_ble_eq_true rfl)⟩ dX12_readPlain_122 ?_
            rintro _ _ ⟨rfl, rfl⟩
            refine ab_callV (b := 82) (As := [.int (f_X12_sign 61)]) ht (Y_X12_must) l_X12_260 in_X12_must se_X12_must (sh_k hs16 82 12 (by decide) rfl) (by decide) rfl rfl ⟨(show 3 + 1 ≤ d by omega), (Nat.le_of_ble_eq_true rfl), (Nat.le_of_ble_eq_true rfl), (Nat.le_of_ble_eq_true rfl)⟩ dX12_readPlain_125 ?_
            rintro _ h22 ⟨rfl, hs23, ht⟩
            refine ab_aload_n (i := 0) dX12_readPlain_128 rfl rfl ?_
            refine ab_iload_n (i := 1) dX12_readPlain_129 rfl rfl ?_
            refine ab_callV (b := 82) (As := [.int x1]) ht (Y_X12_readSum _) l_X12_256 in_X12_readSum se_X12_readSum (sh_k hs23 82 12 (by decide) rfl) (by decide) rfl rfl ⟨(show d - 1 + 1 ≤ d by omega), (Nat.le_of_ble_eq_true rfl), (Nat.le_of_ble_eq_true rfl), (Nat.le_of_ble_eq_true rfl)⟩ dX12_readPlain_130 ?_
            rintro _ h25 ⟨rfl, hs26, ht⟩
            exact ab_vret rfl dX12_readPlain_133 (Nat.le_of_ble_eq_true rfl) (Nat.le_of_ble_eq_true rfl) ht
      · have ht := ht.2 c4
        refine ab_iload_n (i := 1) dX12_readPlain_43 rfl rfl ?_
        refine ab_bipush (v := 8) dX12_readPlain_44 (by decide) ?_
        refine ab_icmp_ne (tgt := 53) dX12_readPlain_46 (by decide) (fun c28 => ?_) (fun c28 => ?_)
        · have ht := ht.1 c28
          refine ab_aload_n (i := 0) dX12_readPlain_53 rfl rfl ?_
          refine ab_callV (b := 82) (Q' := fun r h' => r = some (.int (f_X12_fine h )) ∧ h = h') (As := []) (c_X12_fine hs  ⟨rfl, rfl⟩) (Y_X12_fine) l_X12_236 in_X12_fine se_X12_fine (sh_k hs 82 12 (by decide) rfl) (by decide) rfl rfl ⟨(show 1 + 1 ≤ d by omega), (Nat.le_of_ble_eq_true rfl), (Nat.le_of_ble_eq_true rfl), (Nat.le_of_ble_eq_true rfl)⟩ dX12_readPlain_54 ?_
          rintro _ _ ⟨rfl, rfl⟩
          refine ab_if_ne (tgt := 61) dX12_readPlain_57 (by decide) (fun c29 => ?_) (fun c29 => ?_)
          · have ht := ht.1 c29
            refine ab_aload_n (i := 0) dX12_readPlain_61 rfl rfl ?_
            refine ab_dup dX12_readPlain_62 rfl ?_
            refine ab_getI f_X12_240 rfl (sh_k hs 82 12 (by decide) rfl) dX12_readPlain_63 ?_
            refine ab_iconst (v := 1) dX12_readPlain_66 (by decide) ?_
            refine ab_iadd dX12_readPlain_67 ?_
            refine ab_putI f_X12_240 (Or.inl rfl) rfl (sh_k hs 82 12 (by decide) rfl) rfl rfl dX12_readPlain_68 ?_
            refine Wp.nm fun h30 e31 => ?_
            have ht := ht h30 e31
            have hs32 : Sh h30 := by rw [e31]; exact sh_si hs
            refine ab_aload_n (i := 0) dX12_readPlain_71 rfl rfl ?_
            refine ab_iload_n (i := 1) dX12_readPlain_72 rfl rfl ?_
            refine ab_iconst (v := 1) dX12_readPlain_73 (by decide) ?_
            refine ab_iadd dX12_readPlain_74 ?_
            refine ab_callV (b := 82) (As := [.int (x1 + 1)]) ht (Y_X12_readTest _) l_X12_263 in_X12_readTest se_X12_readTest (sh_k hs32 82 12 (by decide) rfl) (by decide) rfl rfl ⟨(show d - 1 + 1 ≤ d by omega), (Nat.le_of_ble_eq_true rfl), (Nat.le_of_ble_eq_true rfl), (Nat.le_of_ble_eq_true rfl)⟩ dX12_readPlain_75 ?_
            rintro _ h33 ⟨rfl, hs34, ht⟩
            refine ab_aload_n (i := 0) dX12_readPlain_78 rfl rfl ?_
            refine ab_bipush (v := 41) dX12_readPlain_79 (by decide) ?_
            refine ab_callS (Q' := fun r h' => r = some (.int (f_X12_sign 41)) ∧ h33 = h') (As := [.int 41]) (c_X12_sign hs34 41 ⟨rfl, rfl⟩) (Y_X12_sign) l_X12_278 st_X12_sign rfl ⟨(show 1 + 1 ≤ d by omega), (Nat.le_of_ble_eq_true rfl), (Nat.le_of_ble_eq_true rfl), (Nat.le_of_ble_eq_true rfl)⟩ dX12_readPlain_81 ?_
            rintro _ _ ⟨rfl, rfl⟩
            refine ab_callV (b := 82) (As := [.int (f_X12_sign 41)]) ht (Y_X12_must) l_X12_260 in_X12_must se_X12_must (sh_k hs34 82 12 (by decide) rfl) (by decide) rfl rfl ⟨(show 3 + 1 ≤ d by omega), (Nat.le_of_ble_eq_true rfl), (Nat.le_of_ble_eq_true rfl), (Nat.le_of_ble_eq_true rfl)⟩ dX12_readPlain_84 ?_
            rintro _ h36 ⟨rfl, hs37, ht⟩
            refine ab_goto (tgt := 133) dX12_readPlain_87 (by decide) ?_
            exact ab_vret rfl dX12_readPlain_133 (Nat.le_of_ble_eq_true rfl) (Nat.le_of_ble_eq_true rfl) ht
          · have ht := ht.2 c29
            exact ab_vret rfl dX12_readPlain_60 (Nat.le_of_ble_eq_true rfl) (Nat.le_of_ble_eq_true rfl) ht
        · have ht := ht.2 c28
          refine ab_aload_n (i := 0) dX12_readPlain_49 rfl rfl ?_
          refine ab_callV (b := 82) (As := []) ht (Y_X12_faults) l_X12_246 in_X12_faults se_X12_faults (sh_k hs 82 12 (by decide) rfl) (by decide) rfl rfl ⟨(show 2 + 1 ≤ d by omega), (Nat.le_of_ble_eq_true rfl), (Nat.le_of_ble_eq_true rfl), (Nat.le_of_ble_eq_true rfl)⟩ dX12_readPlain_50 ?_
          rintro _ h39 ⟨rfl, hs40, ht⟩
          refine ab_aload_n (i := 0) dX12_readPlain_53 rfl rfl ?_
          refine ab_callV (b := 82) (Q' := fun r h' => r = some (.int (f_X12_fine h39 )) ∧ h39 = h') (As := []) (c_X12_fine hs40  ⟨rfl, rfl⟩) (Y_X12_fine) l_X12_236 in_X12_fine se_X12_fine (sh_k hs40 82 12 (by decide) rfl) (by decide) rfl rfl ⟨(show 1 + 1 ≤ d by omega), (Nat.le_of_ble_eq_true rfl), (Nat.le_of_ble_eq_true rfl), (Nat.le_of_ble_eq_true rfl)⟩ dX12_readPlain_54 ?_
          rintro _ _ ⟨rfl, rfl⟩
          refine ab_if_ne (tgt := 61) dX12_readPlain_57 (by decide) (fun c42 => ?_) (fun c42 => ?_)
          · have ht := ht.1 c42
            refine ab_aload_n (i := 0) dX12_readPlain_61 rfl rfl ?_
            refine ab_dup dX12_readPlain_62 rfl ?_
            refine ab_getI f_X12_240 rfl (sh_k hs40 82 12 (by decide) rfl) dX12_readPlain_63 ?_
            refine ab_iconst (v := 1) dX12_readPlain_66 (by decide) ?_
            refine ab_iadd dX12_readPlain_67 ?_
            refine ab_putI f_X12_240 (Or.inl rfl) rfl (sh_k hs40 82 12 (by decide) rfl) rfl rfl dX12_readPlain_68 ?_
            refine Wp.nm fun h43 e44 => ?_
            have ht := ht h43 e44
            have hs45 : Sh h43 := by rw [e44]; exact sh_si hs40
            refine ab_aload_n (i := 0) dX12_readPlain_71 rfl rfl ?_
            refine ab_iload_n (i := 1) dX12_readPlain_72 rfl rfl ?_
            refine ab_iconst (v := 1) dX12_readPlain_73 (by decide) ?_
            refine ab_iadd dX12_readPlain_74 ?_
            refine ab_callV (b := 82) (As := [.int (x1 + 1)]) ht (Y_X12_readTest _) l_X12_263 in_X12_readTest se_X12_readTest (sh_k hs45 82 12 (by decide) rfl) (by decide) rfl rfl ⟨(show d - 1 + 1 ≤ d by omega), (Nat.le_of_ble_eq_true rfl), (Nat.le_of_ble_eq_true rfl), (Nat.le_of_ble_eq_true rfl)⟩ dX12_readPlain_75 ?_
            rintro _ h46 ⟨rfl, hs47, ht⟩
            refine ab_aload_n (i := 0) dX12_readPlain_78 rfl rfl ?_
            refine ab_bipush (v := 41) dX12_readPlain_79 (by decide) ?_
            refine ab_callS (Q' := fun r h' => r = some (.int (f_X12_sign 41)) ∧ h46 = h') (As := [.int 41]) (c_X12_sign hs47 41 ⟨rfl, rfl⟩) (Y_X12_sign) l_X12_278 st_X12_sign rfl ⟨(show 1 + 1 ≤ d by omega), (Nat.le_of_ble_eq_true rfl), (Nat.le_of_ble_eq_true rfl), (Nat.le_of_ble_eq_true rfl)⟩ dX12_readPlain_81 ?_
            rintro _ _ ⟨rfl, rfl⟩
            refine ab_callV (b := 82) (As := [.int (f_X12_sign 41)]) ht (Y_X12_must) l_X12_260 in_X12_must se_X12_must (sh_k hs47 82 12 (by decide) rfl) (by decide) rfl rfl ⟨(show 3 + 1 ≤ d by omega), (Nat.le_of_ble_eq_true rfl), (Nat.le_of_ble_eq_true rfl), (Nat.le_of_ble_eq_true rfl)⟩ dX12_readPlain_84 ?_
            rintro _ h49 ⟨rfl, hs50, ht⟩
            refine ab_goto (tgt := 133) dX12_readPlain_87 (by decide) ?_
            exact ab_vret rfl dX12_readPlain_133 (Nat.le_of_ble_eq_true rfl) (Nat.le_of_ble_eq_true rfl) ht
          · have ht := ht.2 c42
            exact ab_vret rfl dX12_readPlain_60 (Nat.le_of_ble_eq_true rfl) (Nat.le_of_ble_eq_true rfl) ht
    · have ht := ht.2 c2
      exact ab_vret rfl dX12_readPlain_23 (Nat.le_of_ble_eq_true rfl) (Nat.le_of_ble_eq_true rfl) ht
  · have ht := ht.2 c1
    refine ab_aload_n (i := 0) dX12_readPlain_6 rfl rfl ?_
    refine ab_bipush (v := 7) dX12_readPlain_7 (by decide) ?_
    refine ab_callV (b := 82) (As := [.int 7]) ht (Y_X12_takes0) l_X12_243 in_X12_takes0 se_X12_takes0 (sh_k hs 82 12 (by decide) rfl) (by decide) rfl rfl ⟨(show 2 + 1 ≤ d by omega), (Nat.le_of_ble_eq_true rfl), (Nat.le_of_ble_eq_true rfl), (Nat.le_of_ble_eq_true rfl)⟩ dX12_readPlain_9 ?_
    rintro _ h52 ⟨v54, rfl, hs53, ht⟩
    refine ab_istore_n (i := 2) (L' := [some (.ref 82), some (.int x1), some (.int v54), none]) dX12_readPlain_12 rfl (by exact (Nat.le_of_ble_eq_true rfl)) rfl rfl ?_
    refine ab_goto (tgt := 2) dX12_readPlain_13 (by decide) ?_
    exact Wp.fewer (L' := [some (.ref 82), some (.int x1), some (.int v54), none]) (show ab_leL _ _ from ⟨rfl, ⟨rfl, ⟨rfl, trivial⟩⟩⟩) ht
set_option maxRecDepth 20000 in
theorem T_X12_readPlain {d : Nat} (hd : 8 ≤ d) {Q : Option Value → ah_T → Prop} {h : ah_T} (hs : Sh h) (x1 : Int32) (ht : Wp (mX12_readPlain d) Q 0 0 2 [some (.ref 82), some (.int x1), some (.int 1), none] [] h) : Mt (mX12_readPlain d) [.ref 82, .int x1] h Q := by
  refine Mt.ofWp rfl (by exact (Nat.le_of_ble_eq_true rfl)) (Wp.fewer (L' := [some (.ref 82), some (.int x1), none, none]) (show ab_leL _ _ from ⟨rfl, ⟨rfl, trivial⟩⟩) ?_)
  refine ab_iconst (v := 1) dX12_readPlain_0 (by decide) ?_
  refine ab_istore_n (i := 2) (L' := [some (.ref 82), some (.int x1), some (.int 1), none]) dX12_readPlain_1 rfl (by exact (Nat.le_of_ble_eq_true rfl)) rfl rfl ?_
  exact Wp.fewer (L' := [some (.ref 82), some (.int x1), some (.int 1), none]) (show ab_leL _ _ from ⟨rfl, ⟨rfl, ⟨rfl, trivial⟩⟩⟩) ht
theorem dX12_readSum_0 : decode cX12_readSum 0 = .ok (.aload_n 0, 1) := by decide +kernel
theorem dX12_readSum_1 : decode cX12_readSum 1 = .ok (.iload_n 1, 1) := by decide +kernel
theorem dX12_readSum_2 : decode cX12_readSum 2 = .ok (.invokevirtual 282, 3) := by decide +kernel
theorem dX12_readSum_5 : decode cX12_readSum 5 = .ok (.aload_n 0, 1) := by decide +kernel
theorem dX12_readSum_6 : decode cX12_readSum 6 = .ok (.bipush 43, 2) := by decide +kernel
theorem dX12_readSum_8 : decode cX12_readSum 8 = .ok (.invokestatic 278, 3) := by decide +kernel
theorem dX12_readSum_11 : decode cX12_readSum 11 = .ok (.invokevirtual 243, 3) := by decide +kernel
theorem dX12_readSum_14 : decode cX12_readSum 14 = .ok (.ifCond .ne 15, 3) := by decide +kernel
theorem dX12_readSum_17 : decode cX12_readSum 17 = .ok (.aload_n 0, 1) := by decide +kernel
theorem dX12_readSum_18 : decode cX12_readSum 18 = .ok (.bipush 45, 2) := by decide +kernel
theorem dX12_readSum_20 : decode cX12_readSum 20 = .ok (.invokestatic 278, 3) := by decide +kernel
theorem dX12_readSum_23 : decode cX12_readSum 23 = .ok (.invokevirtual 243, 3) := by decide +kernel
theorem dX12_readSum_26 : decode cX12_readSum 26 = .ok (.ifCond .eq 11, 3) := by decide +kernel
theorem dX12_readSum_29 : decode cX12_readSum 29 = .ok (.aload_n 0, 1) := by decide +kernel
theorem dX12_readSum_30 : decode cX12_readSum 30 = .ok (.iload_n 1, 1) := by decide +kernel
theorem dX12_readSum_31 : decode cX12_readSum 31 = .ok (.invokevirtual 282, 3) := by decide +kernel
theorem dX12_readSum_34 : decode cX12_readSum 34 = .ok (.goto (-29), 3) := by decide +kernel
theorem dX12_readSum_37 : decode cX12_readSum 37 = .ok (.return_, 1) := by decide +kernel
set_option maxRecDepth 20000 in
theorem T_X12_readSum_5 {d : Nat} (hd : 8 ≤ d) {Q : Option Value → ah_T → Prop} {h : ah_T} (hs : Sh h) (x1 : Int32) (ht : (Mt mX12_takes0 [.ref 82, .int (f_X12_sign 43)] h (ab_qi fun v6 h4 => Sh h4 ∧ ((¬ v6 = 0 → (Mt (mX12_readTerm (d - 1)) [.ref 82, .int x1] h4 (ab_qv fun h8 => Sh h8 ∧ Wp (mX12_readSum d) Q 0 0 5 [some (.ref 82), some (.int x1)] [] h8))) ∧ (v6 = 0 → (Mt mX12_takes0 [.ref 82, .int (f_X12_sign 45)] h4 (ab_qi fun v13 h11 => Sh h11 ∧ ((v13 = 0 → Q none h11) ∧ (¬ v13 = 0 → (Mt (mX12_readTerm (d - 1)) [.ref 82, .int x1] h11 (ab_qv fun h15 => Sh h15 ∧ Wp (mX12_readSum d) Q 0 0 5 [some (.ref 82), some (.int x1)] [] h15))))))))))) : Wp (mX12_readSum d) Q 0 0 5 [some (.ref 82), some (.int x1)] [] h := by
  refine ab_aload_n (i := 0) dX12_readSum_5 rfl rfl ?_
  refine ab_bipush (v := 43) dX12_readSum_6 (by decide) ?_
  refine ab_callS (Q' := fun r h' => r = some (.int (f_X12_sign 43)) ∧ h = h') (As := [.int 43]) (c_X12_sign hs 43 ⟨rfl, rfl⟩) (Y_X12_sign) l_X12_278 st_X12_sign rfl ⟨(show 1 + 1 ≤ d by omega), (Nat.le_of_ble_eq_true rfl), (Nat.le_of_ble_eq_true rfl), (Nat.le_of_ble_eq_true rfl)⟩ dX12_readSum_8 ?_
  rintro _ _ ⟨rfl, rfl⟩
  refine ab_callV (b := 82) (As := [.int (f_X12_sign 43)]) ht (Y_X12_takes0) l_X12_243 in_X12_takes0 se_X12_takes0 (sh_k hs 82 12 (by decide) rfl) (by decide) rfl rfl ⟨(show 2 + 1 ≤ d by omega), (Nat.le_of_ble_eq_true rfl), (Nat.le_of_ble_eq_true rfl), (Nat.le_of_ble_eq_true rfl)⟩ dX12_readSum_11 ?_
  rintro _ h4 ⟨v6, rfl, hs5, ht⟩
  refine ab_if_ne (tgt := 29) dX12_readSum_14 (by decide) (fun c7 => ?_) (fun c7 => ?_)
  · have ht := ht.1 c7
    refine ab_aload_n (i := 0) dX12_readSum_29 rfl rfl ?_
    refine ab_iload_n (i := 1) dX12_readSum_30 rfl rfl ?_
    refine ab_callV (b := 82) (As := [.int x1]) ht (Y_X12_readTerm _) l_X12_282 in_X12_readTerm se_X12_readTerm (sh_k hs5 82 12 (by decide) rfl) (by decide) rfl rfl ⟨(show d - 1 + 1 ≤ d by omega), (Nat.le_of_ble_eq_true rfl), (Nat.le_of_ble_eq_true rfl), (Nat.le_of_ble_eq_true rfl)⟩ dX12_readSum_31 ?_
    rintro _ h8 ⟨rfl, hs9, ht⟩
    refine ab_goto (tgt := 5) dX12_readSum_34 (by decide) ?_
    exact Wp.fewer (L' := [some (.ref 82), some (.int x1)]) (show ab_leL _ _ from ⟨rfl, ⟨rfl, trivial⟩⟩) ht
  · have ht := ht.2 c7
    refine ab_aload_n (i := 0) dX12_readSum_17 rfl rfl ?_
    refine ab_bipush (v := 45) dX12_readSum_18 (by decide) ?_
    refine ab_callS (Q' := fun r h' => r = some (.int (f_X12_sign 45)) ∧ h4 = h') (As := [.int 45]) (c_X12_sign hs5 45 ⟨rfl, rfl⟩) (Y_X12_sign) l_X12_278 st_X12_sign rfl ⟨(show 1 + 1 ≤ d by omega), (Nat.le_of_ble_eq_true rfl), (Nat.le_of_ble_eq_true rfl), (Nat.le_of_ble_eq_true rfl)⟩ dX12_readSum_20 ?_
    rintro _ _ ⟨rfl, rfl⟩
    refine ab_callV (b := 82) (As := [.int (f_X12_sign 45)]) ht (Y_X12_takes0) l_X12_243 in_X12_takes0 se_X12_takes0 (sh_k hs5 82 12 (by decide) rfl) (by decide) rfl rfl ⟨(show 2 + 1 ≤ d by omega), (Nat.le_of_ble_eq_true rfl), (Nat.le_of_ble_eq_true rfl), (Nat.le_of_ble_eq_true rfl)⟩ dX12_readSum_23 ?_
    rintro _ h11 ⟨v13, rfl, hs12, ht⟩
    refine ab_if_eq (tgt := 37) dX12_readSum_26 (by decide) (fun c14 => ?_) (fun c14 => ?_)
    · have ht := ht.1 c14
      exact ab_vret rfl dX12_readSum_37 (Nat.le_of_ble_eq_true rfl) (Nat.le_of_ble_eq_true rfl) ht
    · have ht := ht.2 c14
      refine ab_aload_n (i := 0) dX12_readSum_29 rfl rfl ?_
      refine ab_iload_n (i := 1) dX12_readSum_30 rfl rfl ?_
      refine ab_callV (b := 82) (As := [.int x1]) ht (Y_X12_readTerm _) l_X12_282 in_X12_readTerm se_X12_readTerm (sh_k hs12 82 12 (by decide) rfl) (by decide) rfl rfl ⟨(show d - 1 + 1 ≤ d by omega), (Nat.le_of_ble_eq_true rfl), (Nat.le_of_ble_eq_true rfl), (Nat.le_of_ble_eq_true rfl)⟩ dX12_readSum_31 ?_
      rintro _ h15 ⟨rfl, hs16, ht⟩
      refine ab_goto (tgt := 5) dX12_readSum_34 (by decide) ?_
      exact Wp.fewer (L' := [some (.ref 82), some (.int x1)]) (show ab_leL _ _ from ⟨rfl, ⟨rfl, trivial⟩⟩) ht
set_option maxRecDepth 20000 in
theorem T_X12_readSum {d : Nat} (hd : 8 ≤ d) {Q : Option Value → ah_T → Prop} {h : ah_T} (hs : Sh h) (x1 : Int32) (ht : (Mt (mX12_readTerm (d - 1)) [.ref 82, .int x1] h (ab_qv fun h1 => Sh h1 ∧ Wp (mX12_readSum d) Q 0 0 5 [some (.ref 82), some (.int x1)] [] h1))) : Mt (mX12_readSum d) [.ref 82, .int x1] h Q := by
  refine Mt.ofWp rfl (by exact (Nat.le_of_ble_eq_true rfl)) (Wp.fewer (L' := [some (.ref 82), some (.int x1)]) (show ab_leL _ _ from ⟨rfl, ⟨rfl, trivial⟩⟩) ?_)
  refine ab_aload_n (i := 0) dX12_readSum_0 rfl rfl ?_
  refine ab_iload_n (i := 1) dX12_readSum_1 rfl rfl ?_
  refine ab_callV (b := 82) (As := [.int x1]) ht (Y_X12_readTerm _) l_X12_282 in_X12_readTerm se_X12_readTerm (sh_k hs 82 12 (by decide) rfl) (by decide) rfl rfl ⟨(show d - 1 + 1 ≤ d by omega), (Nat.le_of_ble_eq_true rfl), (Nat.le_of_ble_eq_true rfl), (Nat.le_of_ble_eq_true rfl)⟩ dX12_readSum_2 ?_
  rintro _ h1 ⟨rfl, hs2, ht⟩
  exact Wp.fewer (L' := [some (.ref 82), some (.int x1)]) (show ab_leL _ _ from ⟨rfl, ⟨rfl, trivial⟩⟩) ht
theorem dX12_readTerm_0 : decode cX12_readTerm 0 = .ok (.aload_n 0, 1) := by decide +kernel
theorem dX12_readTerm_1 : decode cX12_readTerm 1 = .ok (.iload_n 1, 1) := by decide +kernel
theorem dX12_readTerm_2 : decode cX12_readTerm 2 = .ok (.invokevirtual 285, 3) := by decide +kernel
theorem dX12_readTerm_5 : decode cX12_readTerm 5 = .ok (.aload_n 0, 1) := by decide +kernel
theorem dX12_readTerm_6 : decode cX12_readTerm 6 = .ok (.bipush 42, 2) := by decide +kernel
theorem dX12_readTerm_8 : decode cX12_readTerm 8 = .ok (.invokestatic 278, 3) := by decide +kernel
theorem dX12_readTerm_11 : decode cX12_readTerm 11 = .ok (.invokevirtual 243, 3) := by decide +kernel
theorem dX12_readTerm_14 : decode cX12_readTerm 14 = .ok (.ifCond .ne 27, 3) := by decide +kernel
theorem dX12_readTerm_17 : decode cX12_readTerm 17 = .ok (.aload_n 0, 1) := by decide +kernel
theorem dX12_readTerm_18 : decode cX12_readTerm 18 = .ok (.bipush 47, 2) := by decide +kernel
theorem dX12_readTerm_20 : decode cX12_readTerm 20 = .ok (.invokestatic 278, 3) := by decide +kernel
theorem dX12_readTerm_23 : decode cX12_readTerm 23 = .ok (.invokevirtual 243, 3) := by decide +kernel
theorem dX12_readTerm_26 : decode cX12_readTerm 26 = .ok (.ifCond .ne 15, 3) := by decide +kernel
theorem dX12_readTerm_29 : decode cX12_readTerm 29 = .ok (.aload_n 0, 1) := by decide +kernel
theorem dX12_readTerm_30 : decode cX12_readTerm 30 = .ok (.bipush 37, 2) := by decide +kernel
theorem dX12_readTerm_32 : decode cX12_readTerm 32 = .ok (.invokestatic 278, 3) := by decide +kernel
theorem dX12_readTerm_35 : decode cX12_readTerm 35 = .ok (.invokevirtual 243, 3) := by decide +kernel
theorem dX12_readTerm_38 : decode cX12_readTerm 38 = .ok (.ifCond .eq 11, 3) := by decide +kernel
theorem dX12_readTerm_41 : decode cX12_readTerm 41 = .ok (.aload_n 0, 1) := by decide +kernel
theorem dX12_readTerm_42 : decode cX12_readTerm 42 = .ok (.iload_n 1, 1) := by decide +kernel
theorem dX12_readTerm_43 : decode cX12_readTerm 43 = .ok (.invokevirtual 285, 3) := by decide +kernel
theorem dX12_readTerm_46 : decode cX12_readTerm 46 = .ok (.goto (-41), 3) := by decide +kernel
theorem dX12_readTerm_49 : decode cX12_readTerm 49 = .ok (.return_, 1) := by decide +kernel
set_option maxRecDepth 20000 in
theorem T_X12_readTerm_5 {d : Nat} (hd : 8 ≤ d) {Q : Option Value → ah_T → Prop} {h : ah_T} (hs : Sh h) (x1 : Int32) (ht : (Mt mX12_takes0 [.ref 82, .int (f_X12_sign 42)] h (ab_qi fun v6 h4 => Sh h4 ∧ ((¬ v6 = 0 → (Mt (mX12_readPart (d - 1)) [.ref 82, .int x1] h4 (ab_qv fun h8 => Sh h8 ∧ Wp (mX12_readTerm d) Q 0 0 5 [some (.ref 82), some (.int x1)] [] h8))) ∧ (v6 = 0 → (Mt mX12_takes0 [.ref 82, .int (f_X12_sign 47)] h4 (ab_qi fun v13 h11 => Sh h11 ∧ ((¬ v13 = 0 → (Mt (mX12_readPart (d - 1)) [.ref 82, .int x1] h11 (ab_qv fun h15 => Sh h15 ∧ Wp (mX12_readTerm d) Q 0 0 5 [some (.ref 82), some (.int x1)] [] h15))) ∧ (v13 = 0 → (Mt mX12_takes0 [.ref 82, .int (f_X12_sign 37)] h11 (ab_qi fun v20 h18 => Sh h18 ∧ ((v20 = 0 → Q none h18) ∧ (¬ v20 = 0 → (Mt (mX12_readPart (d - 1)) [.ref 82, .int x1] h18 (ab_qv fun h22 => Sh h22 ∧ Wp (mX12_readTerm d) Q 0 0 5 [some (.ref 82), some (.int x1)] [] h22))))))))))))))) : Wp (mX12_readTerm d) Q 0 0 5 [some (.ref 82), some (.int x1)] [] h := by
  refine ab_aload_n (i := 0) dX12_readTerm_5 rfl rfl ?_
  refine ab_bipush (v := 42) dX12_readTerm_6 (by decide) ?_
  refine ab_callS (Q' := fun r h' => r = some (.int (f_X12_sign 42)) ∧ h = h') (As := [.int 42]) (c_X12_sign hs 42 ⟨rfl, rfl⟩) (Y_X12_sign) l_X12_278 st_X12_sign rfl ⟨(show 1 + 1 ≤ d by omega), (Nat.le_of_ble_eq_true rfl), (Nat.le_of_ble_eq_true rfl), (Nat.le_of_ble_eq_true rfl)⟩ dX12_readTerm_8 ?_
  rintro _ _ ⟨rfl, rfl⟩
  refine ab_callV (b := 82) (As := [.int (f_X12_sign 42)]) ht (Y_X12_takes0) l_X12_243 in_X12_takes0 se_X12_takes0 (sh_k hs 82 12 (by decide) rfl) (by decide) rfl rfl ⟨(show 2 + 1 ≤ d by omega), (Nat.le_of_ble_eq_true rfl), (Nat.le_of_ble_eq_true rfl), (Nat.le_of_ble_eq_true rfl)⟩ dX12_readTerm_11 ?_
  rintro _ h4 ⟨v6, rfl, hs5, ht⟩
  refine ab_if_ne (tgt := 41) dX12_readTerm_14 (by decide) (fun c7 => ?_) (fun c7 => ?_)
  · have ht := ht.1 c7
    refine ab_aload_n (i := 0) dX12_readTerm_41 rfl rfl ?_
    refine ab_iload_n (i := 1) dX12_readTerm_42 rfl rfl ?_
    refine ab_callV (b := 82) (As := [.int x1]) ht (Y_X12_readPart _) l_X12_285 in_X12_readPart se_X12_readPart (sh_k hs5 82 12 (by decide) rfl) (by decide) rfl rfl ⟨(show d - 1 + 1 ≤ d by omega), (Nat.le_of_ble_eq_true rfl), (Nat.le_of_ble_eq_true rfl), (Nat.le_of_ble_eq_true rfl)⟩ dX12_readTerm_43 ?_
    rintro _ h8 ⟨rfl, hs9, ht⟩
    refine ab_goto (tgt := 5) dX12_readTerm_46 (by decide) ?_
    exact Wp.fewer (L' := [some (.ref 82), some (.int x1)]) (show ab_leL _ _ from ⟨rfl, ⟨rfl, trivial⟩⟩) ht
  · have ht := ht.2 c7
    refine ab_aload_n (i := 0) dX12_readTerm_17 rfl rfl ?_
    refine ab_bipush (v := 47) dX12_readTerm_18 (by decide) ?_
    refine ab_callS (Q' := fun r h' => r = some (.int (f_X12_sign 47)) ∧ h4 = h') (As := [.int 47]) (c_X12_sign hs5 47 ⟨rfl, rfl⟩) (Y_X12_sign) l_X12_278 st_X12_sign rfl ⟨(show 1 + 1 ≤ d by omega), (Nat.le_of_ble_eq_true rfl), (Nat.le_of_ble_eq_true rfl), (Nat.le_of_ble_eq_true rfl)⟩ dX12_readTerm_20 ?_
    rintro _ _ ⟨rfl, rfl⟩
    refine ab_callV (b := 82) (As := [.int (f_X12_sign 47)]) ht (Y_X12_takes0) l_X12_243 in_X12_takes0 se_X12_takes0 (sh_k hs5 82 12 (by decide) rfl) (by decide) rfl rfl ⟨(show 2 + 1 ≤ d by omega), (Nat.le_of_ble_eq_true rfl), (Nat.le_of_ble_eq_true rfl), (Nat.le_of_ble_eq_true rfl)⟩ dX12_readTerm_23 ?_
    rintro _ h11 ⟨v13, rfl, hs12, ht⟩
    refine ab_if_ne (tgt := 41) dX12_readTerm_26 (by decide) (fun c14 => ?_) (fun c14 => ?_)
    · have ht := ht.1 c14
      refine ab_aload_n (i := 0) dX12_readTerm_41 rfl rfl ?_
      refine ab_iload_n (i := 1) dX12_readTerm_42 rfl rfl ?_
      refine ab_callV (b := 82) (As := [.int x1]) ht (Y_X12_readPart _) l_X12_285 in_X12_readPart se_X12_readPart (sh_k hs12 82 12 (by decide) rfl) (by decide) rfl rfl ⟨(show d - 1 + 1 ≤ d by omega), (Nat.le_of_ble_eq_true rfl), (Nat.le_of_ble_eq_true rfl), (Nat.le_of_ble_eq_true rfl)⟩ dX12_readTerm_43 ?_
      rintro _ h15 ⟨rfl, hs16, ht⟩
      refine ab_goto (tgt := 5) dX12_readTerm_46 (by decide) ?_
      exact Wp.fewer (L' := [some (.ref 82), some (.int x1)]) (show ab_leL _ _ from ⟨rfl, ⟨rfl, trivial⟩⟩) ht
    · have ht := ht.2 c14
      refine ab_aload_n (i := 0) dX12_readTerm_29 rfl rfl ?_
      refine ab_bipush (v := 37) dX12_readTerm_30 (by decide) ?_
      refine ab_callS (Q' := fun r h' => r = some (.int (f_X12_sign 37)) ∧ h11 = h') (As := [.int 37]) (c_X12_sign hs12 37 ⟨rfl, rfl⟩) (Y_X12_sign) l_X12_278 st_X12_sign rfl ⟨(show 1 + 1 ≤ d by omega), (Nat.le_of_ble_eq_true rfl), (Nat.le_of_ble_eq_true rfl), (Nat.le_of_ble_eq_true rfl)⟩ dX12_readTerm_32 ?_
      rintro _ _ ⟨rfl, rfl⟩
      refine ab_callV (b := 82) (As := [.int (f_X12_sign 37)]) ht (Y_X12_takes0) l_X12_243 in_X12_takes0 se_X12_takes0 (sh_k hs12 82 12 (by decide) rfl) (by decide) rfl rfl ⟨(show 2 + 1 ≤ d by omega), (Nat.le_of_ble_eq_true rfl), (Nat.le_of_ble_eq_true rfl), (Nat.le_of_ble_eq_true rfl)⟩ dX12_readTerm_35 ?_
      rintro _ h18 ⟨v20, rfl, hs19, ht⟩
      refine ab_if_eq (tgt := 49) dX12_readTerm_38 (by decide) (fun c21 => ?_) (fun c21 => ?_)
      · have ht := ht.1 c21
        exact ab_vret rfl dX12_readTerm_49 (Nat.le_of_ble_eq_true rfl) (Nat.le_of_ble_eq_true rfl) ht
      · have ht := ht.2 c21
        refine ab_aload_n (i := 0) dX12_readTerm_41 rfl rfl ?_
        refine ab_iload_n (i := 1) dX12_readTerm_42 rfl rfl ?_
        refine ab_callV (b := 82) (As := [.int x1]) ht (Y_X12_readPart _) l_X12_285 in_X12_readPart se_X12_readPart (sh_k hs19 82 12 (by decide) rfl) (by decide) rfl rfl ⟨(show d - 1 + 1 ≤ d by omega), (Nat.le_of_ble_eq_true rfl), (Nat.le_of_ble_eq_true rfl), (Nat.le_of_ble_eq_true rfl)⟩ dX12_readTerm_43 ?_
        rintro _ h22 ⟨rfl, hs23, ht⟩
        refine ab_goto (tgt := 5) dX12_readTerm_46 (by decide) ?_
        exact Wp.fewer (L' := [some (.ref 82), some (.int x1)]) (show ab_leL _ _ from ⟨rfl, ⟨rfl, trivial⟩⟩) ht
set_option maxRecDepth 20000 in
theorem T_X12_readTerm {d : Nat} (hd : 8 ≤ d) {Q : Option Value → ah_T → Prop} {h : ah_T} (hs : Sh h) (x1 : Int32) (ht : (Mt (mX12_readPart (d - 1)) [.ref 82, .int x1] h (ab_qv fun h1 => Sh h1 ∧ Wp (mX12_readTerm d) Q 0 0 5 [some (.ref 82), some (.int x1)] [] h1))) : Mt (mX12_readTerm d) [.ref 82, .int x1] h Q := by
  refine Mt.ofWp rfl (by exact (Nat.le_of_ble_eq_true rfl)) (Wp.fewer (L' := [some (.ref 82), some (.int x1)]) (show ab_leL _ _ from ⟨rfl, ⟨rfl, trivial⟩⟩) ?_)
  refine ab_aload_n (i := 0) dX12_readTerm_0 rfl rfl ?_
  refine ab_iload_n (i := 1) dX12_readTerm_1 rfl rfl ?_
  refine ab_callV (b := 82) (As := [.int x1]) ht (Y_X12_readPart _) l_X12_285 in_X12_readPart se_X12_readPart (sh_k hs 82 12 (by decide) rfl) (by decide) rfl rfl ⟨(show d - 1 + 1 ≤ d by omega), (Nat.le_of_ble_eq_true rfl), (Nat.le_of_ble_eq_true rfl), (Nat.le_of_ble_eq_true rfl)⟩ dX12_readTerm_2 ?_
  rintro _ h1 ⟨rfl, hs2, ht⟩
  exact Wp.fewer (L' := [some (.ref 82), some (.int x1)]) (show ab_leL _ _ from ⟨rfl, ⟨rfl, trivial⟩⟩) ht
theorem dX12_readPart_0 : decode cX12_readPart 0 = .ok (.aload_n 0, 1) := by decide +kernel
theorem dX12_readPart_1 : decode cX12_readPart 1 = .ok (.invokevirtual 236, 3) := by decide +kernel
theorem dX12_readPart_4 : decode cX12_readPart 4 = .ok (.ifCond .ne 4, 3) := by decide +kernel
theorem dX12_readPart_7 : decode cX12_readPart 7 = .ok (.return_, 1) := by decide +kernel
theorem dX12_readPart_8 : decode cX12_readPart 8 = .ok (.aload_n 0, 1) := by decide +kernel
theorem dX12_readPart_9 : decode cX12_readPart 9 = .ok (.getfield 43, 3) := by decide +kernel
theorem dX12_readPart_12 : decode cX12_readPart 12 = .ok (.aload_n 0, 1) := by decide +kernel
theorem dX12_readPart_13 : decode cX12_readPart 13 = .ok (.getfield 240, 3) := by decide +kernel
theorem dX12_readPart_16 : decode cX12_readPart 16 = .ok (.iaload, 1) := by decide +kernel
theorem dX12_readPart_17 : decode cX12_readPart 17 = .ok (.istore_n 2, 1) := by decide +kernel
theorem dX12_readPart_18 : decode cX12_readPart 18 = .ok (.iload_n 2, 1) := by decide +kernel
theorem dX12_readPart_19 : decode cX12_readPart 19 = .ok (.bipush 91, 2) := by decide +kernel
theorem dX12_readPart_21 : decode cX12_readPart 21 = .ok (.invokestatic 278, 3) := by decide +kernel
theorem dX12_readPart_24 : decode cX12_readPart 24 = .ok (.if_icmp .ne 50, 3) := by decide +kernel
theorem dX12_readPart_27 : decode cX12_readPart 27 = .ok (.iload_n 1, 1) := by decide +kernel
theorem dX12_readPart_28 : decode cX12_readPart 28 = .ok (.bipush 8, 2) := by decide +kernel
theorem dX12_readPart_30 : decode cX12_readPart 30 = .ok (.if_icmp .ne 7, 3) := by decide +kernel
theorem dX12_readPart_33 : decode cX12_readPart 33 = .ok (.aload_n 0, 1) := by decide +kernel
theorem dX12_readPart_34 : decode cX12_readPart 34 = .ok (.invokevirtual 246, 3) := by decide +kernel
theorem dX12_readPart_37 : decode cX12_readPart 37 = .ok (.aload_n 0, 1) := by decide +kernel
theorem dX12_readPart_38 : decode cX12_readPart 38 = .ok (.invokevirtual 236, 3) := by decide +kernel
theorem dX12_readPart_41 : decode cX12_readPart 41 = .ok (.ifCond .ne 4, 3) := by decide +kernel
theorem dX12_readPart_44 : decode cX12_readPart 44 = .ok (.return_, 1) := by decide +kernel
theorem dX12_readPart_45 : decode cX12_readPart 45 = .ok (.aload_n 0, 1) := by decide +kernel
theorem dX12_readPart_46 : decode cX12_readPart 46 = .ok (.dup, 1) := by decide +kernel
theorem dX12_readPart_47 : decode cX12_readPart 47 = .ok (.getfield 240, 3) := by decide +kernel
theorem dX12_readPart_50 : decode cX12_readPart 50 = .ok (.iconst 1, 1) := by decide +kernel
theorem dX12_readPart_51 : decode cX12_readPart 51 = .ok (.iadd, 1) := by decide +kernel
theorem dX12_readPart_52 : decode cX12_readPart 52 = .ok (.putfield 240, 3) := by decide +kernel
theorem dX12_readPart_55 : decode cX12_readPart 55 = .ok (.aload_n 0, 1) := by decide +kernel
theorem dX12_readPart_56 : decode cX12_readPart 56 = .ok (.iload_n 1, 1) := by decide +kernel
theorem dX12_readPart_57 : decode cX12_readPart 57 = .ok (.iconst 1, 1) := by decide +kernel
theorem dX12_readPart_58 : decode cX12_readPart 58 = .ok (.iadd, 1) := by decide +kernel
theorem dX12_readPart_59 : decode cX12_readPart 59 = .ok (.invokevirtual 256, 3) := by decide +kernel
theorem dX12_readPart_62 : decode cX12_readPart 62 = .ok (.aload_n 0, 1) := by decide +kernel
theorem dX12_readPart_63 : decode cX12_readPart 63 = .ok (.bipush 93, 2) := by decide +kernel
theorem dX12_readPart_65 : decode cX12_readPart 65 = .ok (.invokestatic 278, 3) := by decide +kernel
theorem dX12_readPart_68 : decode cX12_readPart 68 = .ok (.invokevirtual 260, 3) := by decide +kernel
theorem dX12_readPart_71 : decode cX12_readPart 71 = .ok (.goto 43, 3) := by decide +kernel
theorem dX12_readPart_74 : decode cX12_readPart 74 = .ok (.iload_n 2, 1) := by decide +kernel
theorem dX12_readPart_75 : decode cX12_readPart 75 = .ok (.bipush 50, 2) := by decide +kernel
theorem dX12_readPart_77 : decode cX12_readPart 77 = .ok (.if_icmp .ne 18, 3) := by decide +kernel
theorem dX12_readPart_80 : decode cX12_readPart 80 = .ok (.aload_n 0, 1) := by decide +kernel
theorem dX12_readPart_81 : decode cX12_readPart 81 = .ok (.getfield 46, 3) := by decide +kernel
theorem dX12_readPart_84 : decode cX12_readPart 84 = .ok (.aload_n 0, 1) := by decide +kernel
theorem dX12_readPart_85 : decode cX12_readPart 85 = .ok (.getfield 240, 3) := by decide +kernel
theorem dX12_readPart_88 : decode cX12_readPart 88 = .ok (.iaload, 1) := by decide +kernel
theorem dX12_readPart_89 : decode cX12_readPart 89 = .ok (.sipush 1000, 3) := by decide +kernel
theorem dX12_readPart_92 : decode cX12_readPart 92 = .ok (.if_icmp .le 11, 3) := by decide +kernel
theorem dX12_readPart_95 : decode cX12_readPart 95 = .ok (.aload_n 0, 1) := by decide +kernel
theorem dX12_readPart_96 : decode cX12_readPart 96 = .ok (.iload_n 2, 1) := by decide +kernel
theorem dX12_readPart_97 : decode cX12_readPart 97 = .ok (.invokevirtual 288, 3) := by decide +kernel
theorem dX12_readPart_100 : decode cX12_readPart 100 = .ok (.ifCond .eq 10, 3) := by decide +kernel
theorem dX12_readPart_103 : decode cX12_readPart 103 = .ok (.aload_n 0, 1) := by decide +kernel
theorem dX12_readPart_104 : decode cX12_readPart 104 = .ok (.invokevirtual 291, 3) := by decide +kernel
theorem dX12_readPart_107 : decode cX12_readPart 107 = .ok (.goto 7, 3) := by decide +kernel
theorem dX12_readPart_110 : decode cX12_readPart 110 = .ok (.aload_n 0, 1) := by decide +kernel
theorem dX12_readPart_111 : decode cX12_readPart 111 = .ok (.invokevirtual 246, 3) := by decide +kernel
theorem dX12_readPart_114 : decode cX12_readPart 114 = .ok (.return_, 1) := by decide +kernel
set_option maxRecDepth 20000 in
theorem T_X12_readPart {d : Nat} (hd : 8 ≤ d) {Q : Option Value → ah_T → Prop} {h : ah_T} (hs : Sh h) (x1 : Int32) (ht : ((¬ (f_X12_fine h ) = 0 → (vp_in (ah_i h 82 17) (ah_n h 90)) ∧ ((¬ (ah_i h 90 (Int32.toNatClampNeg (ah_i h 82 17))) = (f_X12_sign 91) → ((¬ (ah_i h 90 (Int32.toNatClampNeg (ah_i h 82 17))) = 50 → (((f_X12_isValue h (ah_i h 90 (Int32.toNatClampNeg (ah_i h 82 17)))) = 0 → (Mt mX12_faults [.ref 82] h (ab_qv fun h6 => Sh h6 ∧ Q none h6))) ∧ (¬ (f_X12_isValue h (ah_i h 90 (Int32.toNatClampNeg (ah_i h 82 17)))) = 0 → (Mt mX12_leaf [.ref 82] h (ab_qv fun h9 => Sh h9 ∧ Q none h9))))) ∧ ((ah_i h 90 (Int32.toNatClampNeg (ah_i h 82 17))) = 50 → (vp_in (ah_i h 82 17) (ah_n h 91)) ∧ (((ah_i h 91 (Int32.toNatClampNeg (ah_i h 82 17))) ≤ 1000 → (Mt mX12_leaf [.ref 82] h (ab_qv fun h14 => Sh h14 ∧ Q none h14))) ∧ (¬ (ah_i h 91 (Int32.toNatClampNeg (ah_i h 82 17))) ≤ 1000 → (((f_X12_isValue h (ah_i h 90 (Int32.toNatClampNeg (ah_i h 82 17)))) = 0 → (Mt mX12_faults [.ref 82] h (ab_qv fun h18 => Sh h18 ∧ Q none h18))) ∧ (¬ (f_X12_isValue h (ah_i h 90 (Int32.toNatClampNeg (ah_i h 82 17)))) = 0 → (Mt mX12_leaf [.ref 82] h (ab_qv fun h21 => Sh h21 ∧ Q none h21))))))))) ∧ ((ah_i h 90 (Int32.toNatClampNeg (ah_i h 82 17))) = (f_X12_sign 91) → ((¬ x1 = 8 → ((¬ (f_X12_fine h ) = 0 → (∀ h26, h26 = ah_si h 82 17 ((ah_i h 82 17) + 1) → (Mt (mX12_readSum (d - 1)) [.ref 82, .int (x1 + 1)] h26 (ab_qv fun h29 => Sh h29 ∧ (Mt mX12_must [.ref 82, .int (f_X12_sign 93)] h29 (ab_qv fun h32 => Sh h32 ∧ Q none h32)))))) ∧ ((f_X12_fine h ) = 0 → Q none h))) ∧ (x1 = 8 → (Mt mX12_faults [.ref 82] h (ab_qv fun h35 => Sh h35 ∧ ((¬ (f_X12_fine h35 ) = 0 → (∀ h39, h39 = ah_si h35 82 17 ((ah_i h35 82 17) + 1) → (Mt (mX12_readSum (d - 1)) [.ref 82, .int (x1 + 1)] h39 (ab_qv fun h42 => Sh h42 ∧ (Mt mX12_must [.ref 82, .int (f_X12_sign 93)] h42 (ab_qv fun h45 => Sh h45 ∧ Q none h45)))))) ∧ ((f_X12_fine h35 ) = 0 → Q none h35))))))))) ∧ ((f_X12_fine h ) = 0 → Q none h))) : Mt (mX12_readPart d) [.ref 82, .int x1] h Q := by
  refine Mt.ofWp rfl (by exact (Nat.le_of_ble_eq_true rfl)) (Wp.fewer (L' := [some (.ref 82), some (.int x1), none]) (show ab_leL _ _ from ⟨rfl, ⟨rfl, trivial⟩⟩) ?_)
  refine ab_aload_n (i := 0) dX12_readPart_0 rfl rfl ?_
  refine ab_callV (b := 82) (Q' := fun r h' => r = some (.int (f_X12_fine h )) ∧ h = h') (As := []) (c_X12_fine hs  ⟨rfl, rfl⟩) (Y_X12_fine) l_X12_236 in_X12_fine se_X12_fine (sh_k hs 82 12 (by decide) rfl) (by decide) rfl rfl ⟨(show 1 + 1 ≤ d by omega), (Nat.le_of_ble_eq_true rfl), (Nat.le_of_ble_eq_true rfl), (Nat.le_of_ble_eq_true rfl)⟩ dX12_readPart_1 ?_
  rintro _ _ ⟨rfl, rfl⟩
  refine ab_if_ne (tgt := 8) dX12_readPart_4 (by decide) (fun c1 => ?_) (fun c1 => ?_)
  · have ht := ht.1 c1
    refine ab_aload_n (i := 0) dX12_readPart_8 rfl rfl ?_
    refine ab_getR (b := 90) f_X12_43 rfl (sh_k hs 82 12 (by decide) rfl) (sh_r hs 106 rfl) dX12_readPart_9 ?_
    refine ab_aload_n (i := 0) dX12_readPart_12 rfl rfl ?_
    refine ab_getI f_X12_240 rfl (sh_k hs 82 12 (by decide) rfl) dX12_readPart_13 ?_
    obtain ⟨hc2, ht⟩ := ht
    refine ab_iald (sh_k hs 90 14 (by decide) rfl) hc2 dX12_readPart_16 ?_
    refine ab_istore_n (i := 2) (L' := [some (.ref 82), some (.int x1), some (.int (ah_i h 90 (Int32.toNatClampNeg (ah_i h 82 17))))]) dX12_readPart_17 rfl (by exact (Nat.le_of_ble_eq_true rfl)) rfl rfl ?_
    refine ab_iload_n (i := 2) dX12_readPart_18 rfl rfl ?_
    refine ab_bipush (v := 91) dX12_readPart_19 (by decide) ?_
    refine ab_callS (Q' := fun r h' => r = some (.int (f_X12_sign 91)) ∧ h = h') (As := [.int 91]) (c_X12_sign hs 91 ⟨rfl, rfl⟩) (Y_X12_sign) l_X12_278 st_X12_sign rfl ⟨(show 1 + 1 ≤ d by omega), (Nat.le_of_ble_eq_true rfl), (Nat.le_of_ble_eq_true rfl), (Nat.le_of_ble_eq_true rfl)⟩ dX12_readPart_21 ?_
    rintro _ _ ⟨rfl, rfl⟩
    refine ab_icmp_ne (tgt := 74) dX12_readPart_24 (by decide) (fun c3 => ?_) (fun c3 => ?_)
    · have ht := ht.1 c3
      refine ab_iload_n (i := 2) dX12_readPart_74 rfl rfl ?_
      refine ab_bipush (v := 50) dX12_readPart_75 (by decide) ?_
      refine ab_icmp_ne (tgt := 95) dX12_readPart_77 (by decide) (fun c4 => ?_) (fun c4 => ?_)
      · have ht := ht.1 c4
        refine ab_aload_n (i := 0) dX12_readPart_95 rfl rfl ?_
        refine ab_iload_n (i := 2) dX12_readPart_96 rfl rfl ?_
        refine ab_callV (b := 82) (Q' := fun r h' => r = some (.int (f_X12_isValue h (ah_i h 90 (Int32.toNatClampNeg (ah_i h 82 17))))) ∧ h = h') (As := [.int (ah_i h 90 (Int32.toNatClampNeg (ah_i h 82 17)))]) (c_X12_isValue hs (ah_i h 90 (Int32.toNatClampNeg (ah_i h 82 17))) ⟨rfl, rfl⟩) (Y_X12_isValue) l_X12_288 in_X12_isValue se_X12_isValue (sh_k hs 82 12 (by decide) rfl) (by decide) rfl rfl ⟨(show 2 + 1 ≤ d by omega), (Nat.le_of_ble_eq_true rfl), (Nat.le_of_ble_eq_true rfl), (Nat.le_of_ble_eq_true rfl)⟩ dX12_readPart_97 ?_
        rintro _ _ ⟨rfl, rfl⟩
        refine ab_if_eq (tgt := 110) dX12_readPart_100 (by decide) (fun c5 => ?_) (fun c5 => ?_)
        · have ht := ht.1 c5
          refine ab_aload_n (i := 0) dX12_readPart_110 rfl rfl ?_
          refine ab_callV (b := 82) (As := []) ht (Y_X12_faults) l_X12_246 in_X12_faults se_X12_faults (sh_k hs 82 12 (by decide) rfl) (by decide) rfl rfl ⟨(show 2 + 1 ≤ d by omega), (Nat.le_of_ble_eq_true rfl), (Nat.le_of_ble_eq_true rfl), (Nat.le_of_ble_eq_true rfl)⟩ dX12_readPart_111 ?_
          rintro _ h6 ⟨rfl, hs7, ht⟩
          exact ab_vret rfl dX12_readPart_114 (Nat.le_of_ble_eq_true rfl) (Nat.le_of_ble_eq_true rfl) ht
        · have ht := ht.2 c5
          refine ab_aload_n (i := 0) dX12_readPart_103 rfl rfl ?_
          refine ab_callV (b := 82) (As := []) ht (Y_X12_leaf) l_X12_291 in_X12_leaf se_X12_leaf (sh_k hs 82 12 (by decide) rfl) (by decide) rfl rfl ⟨(show 3 + 1 ≤ d by omega), (Nat.le_of_ble_eq_true rfl), (Nat.le_of_ble_eq_true rfl), (Nat.le_of_ble_eq_true rfl)⟩ dX12_readPart_104 ?_
          rintro _ h9 ⟨rfl, hs10, ht⟩
          refine ab_goto (tgt := 114) dX12_readPart_107 (by decide) ?_
          exact ab_vret rfl dX12_readPart_114 (Nat.le_of_ble_eq_true rfl) (Nat.le_of_ble_eq_true rfl) ht
      · have ht := ht.2 c4
        refine ab_aload_n (i := 0) dX12_readPart_80 rfl rfl ?_
        refine ab_getR (b := 91) f_X12_46 rfl (sh_k hs 82 12 (by decide) rfl) (sh_r hs 107 rfl) dX12_readPart_81 ?_
        refine ab_aload_n (i := 0) dX12_readPart_84 rfl rfl ?_
        refine ab_getI f_X12_240 rfl (sh_k hs 82 12 (by decide) rfl) dX12_readPart_85 ?_
        obtain ⟨hc12, ht⟩ := ht
        refine ab_iald (sh_k hs 91 14 (by decide) rfl) hc12 dX12_readPart_88 ?_
        refine ab_sipush (v := 1000) dX12_readPart_89 (by decide) ?_
        refine ab_icmp_le (tgt := 103) dX12_readPart_92 (by decide) (fun c13 => ?_) (fun c13 => ?_)
        · have ht := ht.1 c13
          refine ab_aload_n (i := 0) dX12_readPart_103 rfl rfl ?_
          refine ab_callV (b := 82) (As := []) ht (Y_X12_leaf) l_X12_291 in_X12_leaf se_X12_leaf (sh_k hs 82 12 (by decide) rfl) (by decide) rfl rfl ⟨(show 3 + 1 ≤ d by omega), (Nat.le_of_ble_eq_true rfl), (Nat.le_of_ble_eq_true rfl), (Nat.le_of_ble_eq_true rfl)⟩ dX12_readPart_104 ?_
          rintro _ h14 ⟨rfl, hs15, ht⟩
          refine ab_goto (tgt := 114) dX12_readPart_107 (by decide) ?_
          exact ab_vret rfl dX12_readPart_114 (Nat.le_of_ble_eq_true rfl) (Nat.le_of_ble_eq_true rfl) ht
        · have ht := ht.2 c13
          refine ab_aload_n (i := 0) dX12_readPart_95 rfl rfl ?_
          refine ab_iload_n (i := 2) dX12_readPart_96 rfl rfl ?_
          refine ab_callV (b := 82) (Q' := fun r h' => r = some (.int (f_X12_isValue h (ah_i h 90 (Int32.toNatClampNeg (ah_i h 82 17))))) ∧ h = h') (As := [.int (ah_i h 90 (Int32.toNatClampNeg (ah_i h 82 17)))]) (c_X12_isValue hs (ah_i h 90 (Int32.toNatClampNeg (ah_i h 82 17))) ⟨rfl, rfl⟩) (Y_X12_isValue) l_X12_288 in_X12_isValue se_X12_isValue (sh_k hs 82 12 (by decide) rfl) (by decide) rfl rfl ⟨(show 2 + 1 ≤ d by omega), (Nat.le_of_ble_eq_true rfl), (Nat.le_of_ble_eq_true rfl), (Nat.le_of_ble_eq_true rfl)⟩ dX12_readPart_97 ?_
          rintro _ _ ⟨rfl, rfl⟩
          refine ab_if_eq (tgt := 110) dX12_readPart_100 (by decide) (fun c17 => ?_) (fun c17 => ?_)
          · have ht := ht.1 c17
            refine ab_aload_n (i := 0) dX12_readPart_110 rfl rfl ?_
            refine ab_callV (b := 82) (As := []) ht (Y_X12_faults) l_X12_246 in_X12_faults se_X12_faults (sh_k hs 82 12 (by decide) rfl) (by decide) rfl rfl ⟨(show 2 + 1 ≤ d by omega), (Nat.le_of_ble_eq_true rfl), (Nat.le_of_ble_eq_true rfl), (Nat.le_of_ble_eq_true rfl)⟩ dX12_readPart_111 ?_
            rintro _ h18 ⟨rfl, hs19, ht⟩
            exact ab_vret rfl dX12_readPart_114 (Nat.le_of_ble_eq_true rfl) (Nat.le_of_ble_eq_true rfl) ht
          · have ht := ht.2 c17
            refine ab_aload_n (i := 0) dX12_readPart_103 rfl rfl ?_
            refine ab_callV (b := 82) (As := []) ht (Y_X12_leaf) l_X12_291 in_X12_leaf se_X12_leaf (sh_k hs 82 12 (by decide) rfl) (by decide) rfl rfl ⟨(show 3 + 1 ≤ d by omega), (Nat.le_of_ble_eq_true rfl), (Nat.le_of_ble_eq_true rfl), (Nat.le_of_ble_eq_true rfl)⟩ dX12_readPart_104 ?_
            rintro _ h21 ⟨rfl, hs22, ht⟩
            refine ab_goto (tgt := 114) dX12_readPart_107 (by decide) ?_
            exact ab_vret rfl dX12_readPart_114 (Nat.le_of_ble_eq_true rfl) (Nat.le_of_ble_eq_true rfl) ht
    · have ht := ht.2 c3
      refine ab_iload_n (i := 1) dX12_readPart_27 rfl rfl ?_
      refine ab_bipush (v := 8) dX12_readPart_28 (by decide) ?_
      refine ab_icmp_ne (tgt := 37) dX12_readPart_30 (by decide) (fun c24 => ?_) (fun c24 => ?_)
      · have ht := ht.1 c24
        refine ab_aload_n (i := 0) dX12_readPart_37 rfl rfl ?_
        refine ab_callV (b := 82) (Q' := fun r h' => r = some (.int (f_X12_fine h )) ∧ h = h') (As := []) (c_X12_fine hs  ⟨rfl, rfl⟩) (Y_X12_fine) l_X12_236 in_X12_fine se_X12_fine (sh_k hs 82 12 (by decide) rfl) (by decide) rfl rfl ⟨(show 1 + 1 ≤ d by omega), (Nat.le_of_ble_eq_true rfl), (Nat.le_of_ble_eq_true rfl), (Nat.le_of_ble_eq_true rfl)⟩ dX12_readPart_38 ?_
        rintro _ _ ⟨rfl, rfl⟩
        refine ab_if_ne (tgt := 45) dX12_readPart_41 (by decide) (fun c25 => ?_) (fun c25 => ?_)
        · have ht := ht.1 c25
          refine ab_aload_n (i := 0) dX12_readPart_45 rfl rfl ?_
          refine ab_dup dX12_readPart_46 rfl ?_
          refine ab_getI f_X12_240 rfl (sh_k hs 82 12 (by decide) rfl) dX12_readPart_47 ?_
          refine ab_iconst (v := 1) dX12_readPart_50 (by decide) ?_
          refine ab_iadd dX12_readPart_51 ?_
          refine ab_putI f_X12_240 (Or.inl rfl) rfl (sh_k hs 82 12 (by decide) rfl) rfl rfl dX12_readPart_52 ?_
          refine Wp.nm fun h26 e27 => ?_
          have ht := ht h26 e27
          have hs28 : Sh h26 := by rw [e27]; exact sh_si hs
          refine ab_aload_n (i := 0) dX12_readPart_55 rfl rfl ?_
          refine ab_iload_n (i := 1) dX12_readPart_56 rfl rfl ?_
          refine ab_iconst (v := 1) dX12_readPart_57 (by decide) ?_
          refine ab_iadd dX12_readPart_58 ?_
          refine ab_callV (b := 82) (As := [.int (x1 + 1)]) ht (Y_X12_readSum _) l_X12_256 in_X12_readSum se_X12_readSum (sh_k hs28 82 12 (by decide) rfl) (by decide) rfl rfl ⟨(show d - 1 + 1 ≤ d by omega), (Nat.le_of_ble_eq_true rfl), (Nat.le_of_ble_eq_true rfl), (Nat.le_of_ble_eq_true rfl)⟩ dX12_readPart_59 ?_
          rintro _ h29 ⟨rfl, hs30, ht⟩
          refine ab_aload_n (i := 0) dX12_readPart_62 rfl rfl ?_
          refine ab_bipush (v := 93) dX12_readPart_63 (by decide) ?_
          refine ab_callS (Q' := fun r h' => r = some (.int (f_X12_sign 93)) ∧ h29 = h') (As := [.int 93]) (c_X12_sign hs30 93 ⟨rfl, rfl⟩) (Y_X12_sign) l_X12_278 st_X12_sign rfl ⟨(show 1 + 1 ≤ d by omega), (Nat.le_of_ble_eq_true rfl), (Nat.le_of_ble_eq_true rfl), (Nat.le_of_ble_eq_true rfl)⟩ dX12_readPart_65 ?_
          rintro _ _ ⟨rfl, rfl⟩
          refine ab_callV (b := 82) (As := [.int (f_X12_sign 93)]) ht (Y_X12_must) l_X12_260 in_X12_must se_X12_must (sh_k hs30 82 12 (by decide) rfl) (by decide) rfl rfl ⟨(show 3 + 1 ≤ d by omega), (Nat.le_of_ble_eq_true rfl), (Nat.le_of_ble_eq_true rfl), (Nat.le_of_ble_eq_true rfl)⟩ dX12_readPart_68 ?_
          rintro _ h32 ⟨rfl, hs33, ht⟩
          refine ab_goto (tgt := 114) dX12_readPart_71 (by decide) ?_
          exact ab_vret rfl dX12_readPart_114 (Nat.le_of_ble_eq_true rfl) (Nat.le_of_ble_eq_true rfl) ht
        · have ht := ht.2 c25
          exact ab_vret rfl dX12_readPart_44 (Nat.le_of_ble_eq_true rfl) (Nat.le_of_ble_eq_true rfl) ht
      · have ht := ht.2 c24
        refine ab_aload_n (i := 0) dX12_readPart_33 rfl rfl ?_
        refine ab_callV (b := 82) (As := []) ht (Y_X12_faults) l_X12_246 in_X12_faults se_X12_faults (sh_k hs 82 12 (by decide) rfl) (by decide) rfl rfl ⟨(show 2 + 1 ≤ d by omega), (Nat.le_of_ble_eq_true rfl), (Nat.le_of_ble_eq_true rfl), (Nat.le_of_ble_eq_true rfl)⟩ dX12_readPart_34 ?_
        rintro _ h35 ⟨rfl, hs36, ht⟩
        refine ab_aload_n (i := 0) dX12_readPart_37 rfl rfl ?_
        refine ab_callV (b := 82) (Q' := fun r h' => r = some (.int (f_X12_fine h35 )) ∧ h35 = h') (As := []) (c_X12_fine hs36  ⟨rfl, rfl⟩) (Y_X12_fine) l_X12_236 in_X12_fine se_X12_fine (sh_k hs36 82 12 (by decide) rfl) (by decide) rfl rfl ⟨(show 1 + 1 ≤ d by omega), (Nat.le_of_ble_eq_true rfl), (Nat.le_of_ble_eq_true rfl), (Nat.le_of_ble_eq_true rfl)⟩ dX12_readPart_38 ?_
        rintro _ _ ⟨rfl, rfl⟩
        refine ab_if_ne (tgt := 45) dX12_readPart_41 (by decide) (fun c38 => ?_) (fun c38 => ?_)
        · have ht := ht.1 c38
          refine ab_aload_n (i := 0) dX12_readPart_45 rfl rfl ?_
          refine ab_dup dX12_readPart_46 rfl ?_
          refine ab_getI f_X12_240 rfl (sh_k hs36 82 12 (by decide) rfl) dX12_readPart_47 ?_
          refine ab_iconst (v := 1) dX12_readPart_50 (by decide) ?_
          refine ab_iadd dX12_readPart_51 ?_
          refine ab_putI f_X12_240 (Or.inl rfl) rfl (sh_k hs36 82 12 (by decide) rfl) rfl rfl dX12_readPart_52 ?_
          refine Wp.nm fun h39 e40 => ?_
          have ht := ht h39 e40
          have hs41 : Sh h39 := by rw [e40]; exact sh_si hs36
          refine ab_aload_n (i := 0) dX12_readPart_55 rfl rfl ?_
          refine ab_iload_n (i := 1) dX12_readPart_56 rfl rfl ?_
          refine ab_iconst (v := 1) dX12_readPart_57 (by decide) ?_
          refine ab_iadd dX12_readPart_58 ?_
          refine ab_callV (b := 82) (As := [.int (x1 + 1)]) ht (Y_X12_readSum _) l_X12_256 in_X12_readSum se_X12_readSum (sh_k hs41 82 12 (by decide) rfl) (by decide) rfl rfl ⟨(show d - 1 + 1 ≤ d by omega), (Nat.le_of_ble_eq_true rfl), (Nat.le_of_ble_eq_true rfl), (Nat.le_of_ble_eq_true rfl)⟩ dX12_readPart_59 ?_
          rintro _ h42 ⟨rfl, hs43, ht⟩
          refine ab_aload_n (i := 0) dX12_readPart_62 rfl rfl ?_
          refine ab_bipush (v := 93) dX12_readPart_63 (by decide) ?_
          refine ab_callS (Q' := fun r h' => r = some (.int (f_X12_sign 93)) ∧ h42 = h') (As := [.int 93]) (c_X12_sign hs43 93 ⟨rfl, rfl⟩) (Y_X12_sign) l_X12_278 st_X12_sign rfl ⟨(show 1 + 1 ≤ d by omega), (Nat.le_of_ble_eq_true rfl), (Nat.le_of_ble_eq_true rfl), (Nat.le_of_ble_eq_true rfl)⟩ dX12_readPart_65 ?_
          rintro _ _ ⟨rfl, rfl⟩
          refine ab_callV (b := 82) (As := [.int (f_X12_sign 93)]) ht (Y_X12_must) l_X12_260 in_X12_must se_X12_must (sh_k hs43 82 12 (by decide) rfl) (by decide) rfl rfl ⟨(show 3 + 1 ≤ d by omega), (Nat.le_of_ble_eq_true rfl), (Nat.le_of_ble_eq_true rfl), (Nat.le_of_ble_eq_true rfl)⟩ dX12_readPart_68 ?_
          rintro _ h45 ⟨rfl, hs46, ht⟩
          refine ab_goto (tgt := 114) dX12_readPart_71 (by decide) ?_
          exact ab_vret rfl dX12_readPart_114 (Nat.le_of_ble_eq_true rfl) (Nat.le_of_ble_eq_true rfl) ht
        · have ht := ht.2 c38
          exact ab_vret rfl dX12_readPart_44 (Nat.le_of_ble_eq_true rfl) (Nat.le_of_ble_eq_true rfl) ht
  · have ht := ht.2 c1
    exact ab_vret rfl dX12_readPart_7 (Nat.le_of_ble_eq_true rfl) (Nat.le_of_ble_eq_true rfl) ht
theorem dX12_reads_0 : decode cX12_reads 0 = .ok (.aload_n 0, 1) := by decide +kernel
theorem dX12_reads_1 : decode cX12_reads 1 = .ok (.aload_n 0, 1) := by decide +kernel
theorem dX12_reads_2 : decode cX12_reads 2 = .ok (.getfield 214, 3) := by decide +kernel
theorem dX12_reads_5 : decode cX12_reads 5 = .ok (.invokevirtual 294, 3) := by decide +kernel
theorem dX12_reads_8 : decode cX12_reads 8 = .ok (.aload_n 0, 1) := by decide +kernel
theorem dX12_reads_9 : decode cX12_reads 9 = .ok (.iconst 0, 1) := by decide +kernel
theorem dX12_reads_10 : decode cX12_reads 10 = .ok (.putfield 214, 3) := by decide +kernel
theorem dX12_reads_13 : decode cX12_reads 13 = .ok (.aload_n 0, 1) := by decide +kernel
theorem dX12_reads_14 : decode cX12_reads 14 = .ok (.iconst 0, 1) := by decide +kernel
theorem dX12_reads_15 : decode cX12_reads 15 = .ok (.putfield 240, 3) := by decide +kernel
theorem dX12_reads_18 : decode cX12_reads 18 = .ok (.aload_n 0, 1) := by decide +kernel
theorem dX12_reads_19 : decode cX12_reads 19 = .ok (.iconst 0, 1) := by decide +kernel
theorem dX12_reads_20 : decode cX12_reads 20 = .ok (.putfield 249, 3) := by decide +kernel
theorem dX12_reads_23 : decode cX12_reads 23 = .ok (.aload_n 0, 1) := by decide +kernel
theorem dX12_reads_24 : decode cX12_reads 24 = .ok (.iconst (-1), 1) := by decide +kernel
theorem dX12_reads_25 : decode cX12_reads 25 = .ok (.putfield 233, 3) := by decide +kernel
theorem dX12_reads_28 : decode cX12_reads 28 = .ok (.aload_n 0, 1) := by decide +kernel
theorem dX12_reads_29 : decode cX12_reads 29 = .ok (.invokevirtual 297, 3) := by decide +kernel
theorem dX12_reads_32 : decode cX12_reads 32 = .ok (.iconst 1, 1) := by decide +kernel
theorem dX12_reads_33 : decode cX12_reads 33 = .ok (.istore_n 1, 1) := by decide +kernel
theorem dX12_reads_34 : decode cX12_reads 34 = .ok (.aload_n 0, 1) := by decide +kernel
theorem dX12_reads_35 : decode cX12_reads 35 = .ok (.bipush 59, 2) := by decide +kernel
theorem dX12_reads_37 : decode cX12_reads 37 = .ok (.invokestatic 278, 3) := by decide +kernel
theorem dX12_reads_40 : decode cX12_reads 40 = .ok (.invokevirtual 243, 3) := by decide +kernel
theorem dX12_reads_43 : decode cX12_reads 43 = .ok (.ifCond .eq 30, 3) := by decide +kernel
theorem dX12_reads_46 : decode cX12_reads 46 = .ok (.iload_n 1, 1) := by decide +kernel
theorem dX12_reads_47 : decode cX12_reads 47 = .ok (.bipush 12, 2) := by decide +kernel
theorem dX12_reads_49 : decode cX12_reads 49 = .ok (.if_icmp .ne 7, 3) := by decide +kernel
theorem dX12_reads_52 : decode cX12_reads 52 = .ok (.aload_n 0, 1) := by decide +kernel
theorem dX12_reads_53 : decode cX12_reads 53 = .ok (.invokevirtual 246, 3) := by decide +kernel
theorem dX12_reads_56 : decode cX12_reads 56 = .ok (.aload_n 0, 1) := by decide +kernel
theorem dX12_reads_57 : decode cX12_reads 57 = .ok (.invokevirtual 236, 3) := by decide +kernel
theorem dX12_reads_60 : decode cX12_reads 60 = .ok (.ifCond .eq 7, 3) := by decide +kernel
theorem dX12_reads_63 : decode cX12_reads 63 = .ok (.aload_n 0, 1) := by decide +kernel
theorem dX12_reads_64 : decode cX12_reads 64 = .ok (.invokevirtual 297, 3) := by decide +kernel
theorem dX12_reads_67 : decode cX12_reads 67 = .ok (.iinc 1 1, 3) := by decide +kernel
theorem dX12_reads_70 : decode cX12_reads 70 = .ok (.goto (-36), 3) := by decide +kernel
theorem dX12_reads_73 : decode cX12_reads 73 = .ok (.aload_n 0, 1) := by decide +kernel
theorem dX12_reads_74 : decode cX12_reads 74 = .ok (.invokevirtual 236, 3) := by decide +kernel
theorem dX12_reads_77 : decode cX12_reads 77 = .ok (.ifCond .eq 18, 3) := by decide +kernel
theorem dX12_reads_80 : decode cX12_reads 80 = .ok (.aload_n 0, 1) := by decide +kernel
theorem dX12_reads_81 : decode cX12_reads 81 = .ok (.getfield 240, 3) := by decide +kernel
theorem dX12_reads_84 : decode cX12_reads 84 = .ok (.aload_n 0, 1) := by decide +kernel
theorem dX12_reads_85 : decode cX12_reads 85 = .ok (.getfield 220, 3) := by decide +kernel
theorem dX12_reads_88 : decode cX12_reads 88 = .ok (.if_icmp .ge 7, 3) := by decide +kernel
theorem dX12_reads_91 : decode cX12_reads 91 = .ok (.aload_n 0, 1) := by decide +kernel
theorem dX12_reads_92 : decode cX12_reads 92 = .ok (.invokevirtual 246, 3) := by decide +kernel
theorem dX12_reads_95 : decode cX12_reads 95 = .ok (.aload_n 0, 1) := by decide +kernel
theorem dX12_reads_96 : decode cX12_reads 96 = .ok (.aload_n 0, 1) := by decide +kernel
theorem dX12_reads_97 : decode cX12_reads 97 = .ok (.getfield 233, 3) := by decide +kernel
theorem dX12_reads_100 : decode cX12_reads 100 = .ok (.putfield 40, 3) := by decide +kernel
theorem dX12_reads_103 : decode cX12_reads 103 = .ok (.aload_n 0, 1) := by decide +kernel
theorem dX12_reads_104 : decode cX12_reads 104 = .ok (.invokevirtual 236, 3) := by decide +kernel
theorem dX12_reads_107 : decode cX12_reads 107 = .ok (.ireturn, 1) := by decide +kernel
set_option maxRecDepth 20000 in
theorem T_X12_reads_34 {Q : Option Value → ah_T → Prop} {h : ah_T} (hs : Sh h) (x1 : Int32) (ht : (Mt mX12_takes0 [.ref 82, .int (f_X12_sign 59)] h (ab_qi fun v21 h19 => Sh h19 ∧ ((v21 = 0 → (((f_X12_fine h19 ) = 0 → (∀ h24, h24 = ah_si h19 82 12 (ah_i h19 82 19) → Q (some (.int (f_X12_fine h24 ))) h24)) ∧ (¬ (f_X12_fine h19 ) = 0 → (((ah_i h19 82 16) ≤ (ah_i h19 82 17) → (∀ h28, h28 = ah_si h19 82 12 (ah_i h19 82 19) → Q (some (.int (f_X12_fine h28 ))) h28)) ∧ (¬ (ah_i h19 82 16) ≤ (ah_i h19 82 17) → (Mt mX12_faults [.ref 82] h19 (ab_qv fun h31 => Sh h31 ∧ (∀ h34, h34 = ah_si h31 82 12 (ah_i h31 82 19) → Q (some (.int (f_X12_fine h34 ))) h34)))))))) ∧ (¬ v21 = 0 → ((¬ x1 = 12 → (((f_X12_fine h19 ) = 0 → Wp mX12_reads Q 0 0 34 [some (.ref 82), some (.int (x1 + 1))] [] h19) ∧ (¬ (f_X12_fine h19 ) = 0 → (Mt mX12_readOne [.ref 82] h19 (ab_qv fun h39 => Sh h39 ∧ Wp mX12_reads Q 0 0 34 [some (.ref 82), some (.int (x1 + 1))] [] h39))))) ∧ (x1 = 12 → (Mt mX12_faults [.ref 82] h19 (ab_qv fun h42 => Sh h42 ∧ (((f_X12_fine h42 ) = 0 → Wp mX12_reads Q 0 0 34 [some (.ref 82), some (.int (x1 + 1))] [] h42) ∧ (¬ (f_X12_fine h42 ) = 0 → (Mt mX12_readOne [.ref 82] h42 (ab_qv fun h46 => Sh h46 ∧ Wp mX12_reads Q 0 0 34 [some (.ref 82), some (.int (x1 + 1))] [] h46))))))))))))) : Wp mX12_reads Q 0 0 34 [some (.ref 82), some (.int x1)] [] h := by
  refine ab_aload_n (i := 0) dX12_reads_34 rfl rfl ?_
  refine ab_bipush (v := 59) dX12_reads_35 (by decide) ?_
  refine ab_callS (Q' := fun r h' => r = some (.int (f_X12_sign 59)) ∧ h = h') (As := [.int 59]) (c_X12_sign hs 59 ⟨rfl, rfl⟩) (Y_X12_sign) l_X12_278 st_X12_sign rfl ⟨(Nat.le_of_ble_eq_true rfl), (Nat.le_of_ble_eq_true rfl), (Nat.le_of_ble_eq_true rfl), (Nat.le_of_ble_eq_true rfl)⟩ dX12_reads_37 ?_
  rintro _ _ ⟨rfl, rfl⟩
  refine ab_callV (b := 82) (As := [.int (f_X12_sign 59)]) ht (Y_X12_takes0) l_X12_243 in_X12_takes0 se_X12_takes0 (sh_k hs 82 12 (by decide) rfl) (by decide) rfl rfl ⟨(Nat.le_of_ble_eq_true rfl), (Nat.le_of_ble_eq_true rfl), (Nat.le_of_ble_eq_true rfl), (Nat.le_of_ble_eq_true rfl)⟩ dX12_reads_40 ?_
  rintro _ h19 ⟨v21, rfl, hs20, ht⟩
  refine ab_if_eq (tgt := 73) dX12_reads_43 (by decide) (fun c22 => ?_) (fun c22 => ?_)
  · have ht := ht.1 c22
    refine ab_aload_n (i := 0) dX12_reads_73 rfl rfl ?_
    refine ab_callV (b := 82) (Q' := fun r h' => r = some (.int (f_X12_fine h19 )) ∧ h19 = h') (As := []) (c_X12_fine hs20  ⟨rfl, rfl⟩) (Y_X12_fine) l_X12_236 in_X12_fine se_X12_fine (sh_k hs20 82 12 (by decide) rfl) (by decide) rfl rfl ⟨(Nat.le_of_ble_eq_true rfl), (Nat.le_of_ble_eq_true rfl), (Nat.le_of_ble_eq_true rfl), (Nat.le_of_ble_eq_true rfl)⟩ dX12_reads_74 ?_
    rintro _ _ ⟨rfl, rfl⟩
    refine ab_if_eq (tgt := 95) dX12_reads_77 (by decide) (fun c23 => ?_) (fun c23 => ?_)
    · have ht := ht.1 c23
      refine ab_aload_n (i := 0) dX12_reads_95 rfl rfl ?_
      refine ab_aload_n (i := 0) dX12_reads_96 rfl rfl ?_
      refine ab_getI f_X12_233 rfl (sh_k hs20 82 12 (by decide) rfl) dX12_reads_97 ?_
      refine ab_putI f_X12_40 (Or.inl rfl) rfl (sh_k hs20 82 12 (by decide) rfl) rfl rfl dX12_reads_100 ?_
      refine Wp.nm fun h24 e25 => ?_
      have ht := ht h24 e25
      have hs26 : Sh h24 := by rw [e25]; exact sh_si hs20
      refine ab_aload_n (i := 0) dX12_reads_103 rfl rfl ?_
      refine ab_callV (b := 82) (Q' := fun r h' => r = some (.int (f_X12_fine h24 )) ∧ h24 = h') (As := []) (c_X12_fine hs26  ⟨rfl, rfl⟩) (Y_X12_fine) l_X12_236 in_X12_fine se_X12_fine (sh_k hs26 82 12 (by decide) rfl) (by decide) rfl rfl ⟨(Nat.le_of_ble_eq_true rfl), (Nat.le_of_ble_eq_true rfl), (Nat.le_of_ble_eq_true rfl), (Nat.le_of_ble_eq_true rfl)⟩ dX12_reads_104 ?_
      rintro _ _ ⟨rfl, rfl⟩
      exact ab_zret rfl (ab_b_nar (b_X12_fine ..)) dX12_reads_107 (Nat.le_of_ble_eq_true rfl) (Nat.le_of_ble_eq_true rfl) ht
    · have ht := ht.2 c23
      refine ab_aload_n (i := 0) dX12_reads_80 rfl rfl ?_
      refine ab_getI f_X12_240 rfl (sh_k hs20 82 12 (by decide) rfl) dX12_reads_81 ?_
      refine ab_aload_n (i := 0) dX12_reads_84 rfl rfl ?_
      refine ab_getI f_X12_220 rfl (sh_k hs20 82 12 (by decide) rfl) dX12_reads_85 ?_
      refine ab_icmp_ge (tgt := 95) dX12_reads_88 (by decide) (fun c27 => ?_) (fun c27 => ?_)
      · have ht := ht.1 c27
        refine ab_aload_n (i := 0) dX12_reads_95 rfl rfl ?_
        refine ab_aload_n (i := 0) dX12_reads_96 rfl rfl ?_
        refine ab_getI f_X12_233 rfl (sh_k hs20 82 12 (by decide) rfl) dX12_reads_97 ?_
        refine ab_putI f_X12_40 (Or.inl rfl) rfl (sh_k hs20 82 12 (by decide) rfl) rfl rfl dX12_reads_100 ?_
        refine Wp.nm fun h28 e29 => ?_
        have ht := ht h28 e29
        have hs30 : Sh h28 := by rw [e29]; exact sh_si hs20
        refine ab_aload_n (i := 0) dX12_reads_103 rfl rfl ?_
        refine ab_callV (b := 82) (Q' := fun r h' => r = some (.int (f_X12_fine h28 )) ∧ h28 = h') (As := []) (c_X12_fine hs30  ⟨rfl, rfl⟩) (Y_X12_fine) l_X12_236 in_X12_fine se_X12_fine (sh_k hs30 82 12 (by decide) rfl) (by decide) rfl rfl ⟨(Nat.le_of_ble_eq_true rfl), (Nat.le_of_ble_eq_true rfl), (Nat.le_of_ble_eq_true rfl), (Nat.le_of_ble_eq_true rfl)⟩ dX12_reads_104 ?_
        rintro _ _ ⟨rfl, rfl⟩
        exact ab_zret rfl (ab_b_nar (b_X12_fine ..)) dX12_reads_107 (Nat.le_of_ble_eq_true rfl) (Nat.le_of_ble_eq_true rfl) ht
      · have ht := ht.2 c27
        refine ab_aload_n (i := 0) dX12_reads_91 rfl rfl ?_
        refine ab_callV (b := 82) (As := []) ht (Y_X12_faults) l_X12_246 in_X12_faults se_X12_faults (sh_k hs20 82 12 (by decide) rfl) (by decide) rfl rfl ⟨(Nat.le_of_ble_eq_true rfl), (Nat.le_of_ble_eq_true rfl), (Nat.le_of_ble_eq_true rfl), (Nat.le_of_ble_eq_true rfl)⟩ dX12_reads_92 ?_
        rintro _ h31 ⟨rfl, hs32, ht⟩
        refine ab_aload_n (i := 0) dX12_reads_95 rfl rfl ?_
        refine ab_aload_n (i := 0) dX12_reads_96 rfl rfl ?_
        refine ab_getI f_X12_233 rfl (sh_k hs32 82 12 (by decide) rfl) dX12_reads_97 ?_
        refine ab_putI f_X12_40 (Or.inl rfl) rfl (sh_k hs32 82 12 (by decide) rfl) rfl rfl dX12_reads_100 ?_
        refine Wp.nm fun h34 e35 => ?_
        have ht := ht h34 e35
        have hs36 : Sh h34 := by rw [e35]; exact sh_si hs32
        refine ab_aload_n (i := 0) dX12_reads_103 rfl rfl ?_
        refine ab_callV (b := 82) (Q' := fun r h' => r = some (.int (f_X12_fine h34 )) ∧ h34 = h') (As := []) (c_X12_fine hs36  ⟨rfl, rfl⟩) (Y_X12_fine) l_X12_236 in_X12_fine se_X12_fine (sh_k hs36 82 12 (by decide) rfl) (by decide) rfl rfl ⟨(Nat.le_of_ble_eq_true rfl), (Nat.le_of_ble_eq_true rfl), (Nat.le_of_ble_eq_true rfl), (Nat.le_of_ble_eq_true rfl)⟩ dX12_reads_104 ?_
        rintro _ _ ⟨rfl, rfl⟩
        exact ab_zret rfl (ab_b_nar (b_X12_fine ..)) dX12_reads_107 (Nat.le_of_ble_eq_true rfl) (Nat.le_of_ble_eq_true rfl) ht
  · have ht := ht.2 c22
    refine ab_iload_n (i := 1) dX12_reads_46 rfl rfl ?_
    refine ab_bipush (v := 12) dX12_reads_47 (by decide) ?_
    refine ab_icmp_ne (tgt := 56) dX12_reads_49 (by decide) (fun c37 => ?_) (fun c37 => ?_)
    · have ht := ht.1 c37
      refine ab_aload_n (i := 0) dX12_reads_56 rfl rfl ?_
      refine ab_callV (b := 82) (Q' := fun r h' => r = some (.int (f_X12_fine h19 )) ∧ h19 = h') (As := []) (c_X12_fine hs20  ⟨rfl, rfl⟩) (Y_X12_fine) l_X12_236 in_X12_fine se_X12_fine (sh_k hs20 82 12 (by decide) rfl) (by decide) rfl rfl ⟨(Nat.le_of_ble_eq_true rfl), (Nat.le_of_ble_eq_true rfl), (Nat.le_of_ble_eq_true rfl), (Nat.le_of_ble_eq_true rfl)⟩ dX12_reads_57 ?_
      rintro _ _ ⟨rfl, rfl⟩
      refine ab_if_eq (tgt := 67) dX12_reads_60 (by decide) (fun c38 => ?_) (fun c38 => ?_)
      · have ht := ht.1 c38
        refine ab_iinc (i := 1) (x := x1) (v := (x1 + 1)) (L' := [some (.ref 82), some (.int (x1 + 1))]) dX12_reads_67 rfl rfl (by exact (Nat.le_of_ble_eq_true rfl)) rfl rfl ?_
        refine ab_goto (tgt := 34) dX12_reads_70 (by decide) ?_
        exact Wp.fewer (L' := [some (.ref 82), some (.int (x1 + 1))]) (show ab_leL _ _ from ⟨rfl, ⟨rfl, trivial⟩⟩) ht
      · have ht := ht.2 c38
        refine ab_aload_n (i := 0) dX12_reads_63 rfl rfl ?_
        refine ab_callV (b := 82) (As := []) ht (Y_X12_readOne) l_X12_297 in_X12_readOne se_X12_readOne (sh_k hs20 82 12 (by decide) rfl) (by decide) rfl rfl ⟨(Nat.le_of_ble_eq_true rfl), (Nat.le_of_ble_eq_true rfl), (Nat.le_of_ble_eq_true rfl), (Nat.le_of_ble_eq_true rfl)⟩ dX12_reads_64 ?_
        rintro _ h39 ⟨rfl, hs40, ht⟩
        refine ab_iinc (i := 1) (x := x1) (v := (x1 + 1)) (L' := [some (.ref 82), some (.int (x1 + 1))]) dX12_reads_67 rfl rfl (by exact (Nat.le_of_ble_eq_true rfl)) rfl rfl ?_
        refine ab_goto (tgt := 34) dX12_reads_70 (by decide) ?_
        exact Wp.fewer (L' := [some (.ref 82), some (.int (x1 + 1))]) (show ab_leL _ _ from ⟨rfl, ⟨rfl, trivial⟩⟩) ht
    · have ht := ht.2 c37
      refine ab_aload_n (i := 0) dX12_reads_52 rfl rfl ?_
      refine ab_callV (b := 82) (As := []) ht (Y_X12_faults) l_X12_246 in_X12_faults se_X12_faults (sh_k hs20 82 12 (by decide) rfl) (by decide) rfl rfl ⟨(Nat.le_of_ble_eq_true rfl), (Nat.le_of_ble_eq_true rfl), (Nat.le_of_ble_eq_true rfl), (Nat.le_of_ble_eq_true rfl)⟩ dX12_reads_53 ?_
      rintro _ h42 ⟨rfl, hs43, ht⟩
      refine ab_aload_n (i := 0) dX12_reads_56 rfl rfl ?_
      refine ab_callV (b := 82) (Q' := fun r h' => r = some (.int (f_X12_fine h42 )) ∧ h42 = h') (As := []) (c_X12_fine hs43  ⟨rfl, rfl⟩) (Y_X12_fine) l_X12_236 in_X12_fine se_X12_fine (sh_k hs43 82 12 (by decide) rfl) (by decide) rfl rfl ⟨(Nat.le_of_ble_eq_true rfl), (Nat.le_of_ble_eq_true rfl), (Nat.le_of_ble_eq_true rfl), (Nat.le_of_ble_eq_true rfl)⟩ dX12_reads_57 ?_
      rintro _ _ ⟨rfl, rfl⟩
      refine ab_if_eq (tgt := 67) dX12_reads_60 (by decide) (fun c45 => ?_) (fun c45 => ?_)
      · have ht := ht.1 c45
        refine ab_iinc (i := 1) (x := x1) (v := (x1 + 1)) (L' := [some (.ref 82), some (.int (x1 + 1))]) dX12_reads_67 rfl rfl (by exact (Nat.le_of_ble_eq_true rfl)) rfl rfl ?_
        refine ab_goto (tgt := 34) dX12_reads_70 (by decide) ?_
        exact Wp.fewer (L' := [some (.ref 82), some (.int (x1 + 1))]) (show ab_leL _ _ from ⟨rfl, ⟨rfl, trivial⟩⟩) ht
      · have ht := ht.2 c45
        refine ab_aload_n (i := 0) dX12_reads_63 rfl rfl ?_
        refine ab_callV (b := 82) (As := []) ht (Y_X12_readOne) l_X12_297 in_X12_readOne se_X12_readOne (sh_k hs43 82 12 (by decide) rfl) (by decide) rfl rfl ⟨(Nat.le_of_ble_eq_true rfl), (Nat.le_of_ble_eq_true rfl), (Nat.le_of_ble_eq_true rfl), (Nat.le_of_ble_eq_true rfl)⟩ dX12_reads_64 ?_
        rintro _ h46 ⟨rfl, hs47, ht⟩
        refine ab_iinc (i := 1) (x := x1) (v := (x1 + 1)) (L' := [some (.ref 82), some (.int (x1 + 1))]) dX12_reads_67 rfl rfl (by exact (Nat.le_of_ble_eq_true rfl)) rfl rfl ?_
        refine ab_goto (tgt := 34) dX12_reads_70 (by decide) ?_
        exact Wp.fewer (L' := [some (.ref 82), some (.int (x1 + 1))]) (show ab_leL _ _ from ⟨rfl, ⟨rfl, trivial⟩⟩) ht
set_option maxRecDepth 20000 in
theorem T_X12_reads {Q : Option Value → ah_T → Prop} {h : ah_T} (hs : Sh h)  (ht : (Mt mX12_splits [.ref 82, .int (ah_i h 82 11)] h (ab_qv fun h1 => Sh h1 ∧ (∀ h4, h4 = ah_si h1 82 11 0 → (∀ h7, h7 = ah_si h4 82 17 0 → (∀ h10, h10 = ah_si h7 82 18 0 → (∀ h13, h13 = ah_si h10 82 19 (-1) → (Mt mX12_readOne [.ref 82] h13 (ab_qv fun h16 => Sh h16 ∧ Wp mX12_reads Q 0 0 34 [some (.ref 82), some (.int 1)] [] h16))))))))) : Mt mX12_reads [.ref 82] h Q := by
  refine Mt.ofWp rfl (by exact (Nat.le_of_ble_eq_true rfl)) (Wp.fewer (L' := [some (.ref 82), none]) (show ab_leL _ _ from ⟨rfl, trivial⟩) ?_)
  refine ab_aload_n (i := 0) dX12_reads_0 rfl rfl ?_
  refine ab_aload_n (i := 0) dX12_reads_1 rfl rfl ?_
  refine ab_getI f_X12_214 rfl (sh_k hs 82 12 (by decide) rfl) dX12_reads_2 ?_
  refine ab_callV (b := 82) (As := [.int (ah_i h 82 11)]) ht (Y_X12_splits) l_X12_294 in_X12_splits se_X12_splits (sh_k hs 82 12 (by decide) rfl) (by decide) rfl rfl ⟨(Nat.le_of_ble_eq_true rfl), (Nat.le_of_ble_eq_true rfl), (Nat.le_of_ble_eq_true rfl), (Nat.le_of_ble_eq_true rfl)⟩ dX12_reads_5 ?_
  rintro _ h1 ⟨rfl, hs2, ht⟩
  refine ab_aload_n (i := 0) dX12_reads_8 rfl rfl ?_
  refine ab_iconst (v := 0) dX12_reads_9 (by decide) ?_
  refine ab_putI f_X12_214 (Or.inl rfl) rfl (sh_k hs2 82 12 (by decide) rfl) rfl rfl dX12_reads_10 ?_
  refine Wp.nm fun h4 e5 => ?_
  have ht := ht h4 e5
  have hs6 : Sh h4 := by rw [e5]; exact sh_si hs2
  refine ab_aload_n (i := 0) dX12_reads_13 rfl rfl ?_
  refine ab_iconst (v := 0) dX12_reads_14 (by decide) ?_
  refine ab_putI f_X12_240 (Or.inl rfl) rfl (sh_k hs6 82 12 (by decide) rfl) rfl rfl dX12_reads_15 ?_
  refine Wp.nm fun h7 e8 => ?_
  have ht := ht h7 e8
  have hs9 : Sh h7 := by rw [e8]; exact sh_si hs6
  refine ab_aload_n (i := 0) dX12_reads_18 rfl rfl ?_
  refine ab_iconst (v := 0) dX12_reads_19 (by decide) ?_
  refine ab_putI f_X12_249 (Or.inl rfl) rfl (sh_k hs9 82 12 (by decide) rfl) rfl rfl dX12_reads_20 ?_
  refine Wp.nm fun h10 e11 => ?_
  have ht := ht h10 e11
  have hs12 : Sh h10 := by rw [e11]; exact sh_si hs9
  refine ab_aload_n (i := 0) dX12_reads_23 rfl rfl ?_
  refine ab_iconst (v := (-1)) dX12_reads_24 (by decide) ?_
  refine ab_putI f_X12_233 (Or.inl rfl) rfl (sh_k hs12 82 12 (by decide) rfl) rfl rfl dX12_reads_25 ?_
  refine Wp.nm fun h13 e14 => ?_
  have ht := ht h13 e14
  have hs15 : Sh h13 := by rw [e14]; exact sh_si hs12
  refine ab_aload_n (i := 0) dX12_reads_28 rfl rfl ?_
  refine ab_callV (b := 82) (As := []) ht (Y_X12_readOne) l_X12_297 in_X12_readOne se_X12_readOne (sh_k hs15 82 12 (by decide) rfl) (by decide) rfl rfl ⟨(Nat.le_of_ble_eq_true rfl), (Nat.le_of_ble_eq_true rfl), (Nat.le_of_ble_eq_true rfl), (Nat.le_of_ble_eq_true rfl)⟩ dX12_reads_29 ?_
  rintro _ h16 ⟨rfl, hs17, ht⟩
  refine ab_iconst (v := 1) dX12_reads_32 (by decide) ?_
  refine ab_istore_n (i := 1) (L' := [some (.ref 82), some (.int 1)]) dX12_reads_33 rfl (by exact (Nat.le_of_ble_eq_true rfl)) rfl rfl ?_
  exact Wp.fewer (L' := [some (.ref 82), some (.int 1)]) (show ab_leL _ _ from ⟨rfl, ⟨rfl, trivial⟩⟩) ht
theorem dX12_lays_0 : decode cX12_lays 0 = .ok (.aload_n 0, 1) := by decide +kernel
theorem dX12_lays_1 : decode cX12_lays 1 = .ok (.getfield 20, 3) := by decide +kernel
theorem dX12_lays_4 : decode cX12_lays 4 = .ok (.sipush 253, 3) := by decide +kernel
theorem dX12_lays_7 : decode cX12_lays 7 = .ok (.iload_n 1, 1) := by decide +kernel
theorem dX12_lays_8 : decode cX12_lays 8 = .ok (.iadd, 1) := by decide +kernel
theorem dX12_lays_9 : decode cX12_lays 9 = .ok (.aload_n 0, 1) := by decide +kernel
theorem dX12_lays_10 : decode cX12_lays 10 = .ok (.getfield 220, 3) := by decide +kernel
theorem dX12_lays_13 : decode cX12_lays 13 = .ok (.iastore, 1) := by decide +kernel
theorem dX12_lays_14 : decode cX12_lays 14 = .ok (.iconst 0, 1) := by decide +kernel
theorem dX12_lays_15 : decode cX12_lays 15 = .ok (.istore_n 2, 1) := by decide +kernel
theorem dX12_lays_16 : decode cX12_lays 16 = .ok (.iload_n 2, 1) := by decide +kernel
theorem dX12_lays_17 : decode cX12_lays 17 = .ok (.aload_n 0, 1) := by decide +kernel
theorem dX12_lays_18 : decode cX12_lays 18 = .ok (.getfield 220, 3) := by decide +kernel
theorem dX12_lays_21 : decode cX12_lays 21 = .ok (.if_icmp .ge 53, 3) := by decide +kernel
theorem dX12_lays_24 : decode cX12_lays 24 = .ok (.aload_n 0, 1) := by decide +kernel
theorem dX12_lays_25 : decode cX12_lays 25 = .ok (.getfield 20, 3) := by decide +kernel
theorem dX12_lays_28 : decode cX12_lays 28 = .ok (.sipush 260, 3) := by decide +kernel
theorem dX12_lays_31 : decode cX12_lays 31 = .ok (.sipush 400, 3) := by decide +kernel
theorem dX12_lays_34 : decode cX12_lays 34 = .ok (.iload_n 1, 1) := by decide +kernel
theorem dX12_lays_35 : decode cX12_lays 35 = .ok (.imul, 1) := by decide +kernel
theorem dX12_lays_36 : decode cX12_lays 36 = .ok (.iadd, 1) := by decide +kernel
theorem dX12_lays_37 : decode cX12_lays 37 = .ok (.iload_n 2, 1) := by decide +kernel
theorem dX12_lays_38 : decode cX12_lays 38 = .ok (.iadd, 1) := by decide +kernel
theorem dX12_lays_39 : decode cX12_lays 39 = .ok (.aload_n 0, 1) := by decide +kernel
theorem dX12_lays_40 : decode cX12_lays 40 = .ok (.getfield 43, 3) := by decide +kernel
theorem dX12_lays_43 : decode cX12_lays 43 = .ok (.iload_n 2, 1) := by decide +kernel
theorem dX12_lays_44 : decode cX12_lays 44 = .ok (.iaload, 1) := by decide +kernel
theorem dX12_lays_45 : decode cX12_lays 45 = .ok (.iastore, 1) := by decide +kernel
theorem dX12_lays_46 : decode cX12_lays 46 = .ok (.aload_n 0, 1) := by decide +kernel
theorem dX12_lays_47 : decode cX12_lays 47 = .ok (.getfield 20, 3) := by decide +kernel
theorem dX12_lays_50 : decode cX12_lays 50 = .ok (.sipush 3060, 3) := by decide +kernel
theorem dX12_lays_53 : decode cX12_lays 53 = .ok (.sipush 400, 3) := by decide +kernel
theorem dX12_lays_56 : decode cX12_lays 56 = .ok (.iload_n 1, 1) := by decide +kernel
theorem dX12_lays_57 : decode cX12_lays 57 = .ok (.imul, 1) := by decide +kernel
theorem dX12_lays_58 : decode cX12_lays 58 = .ok (.iadd, 1) := by decide +kernel
theorem dX12_lays_59 : decode cX12_lays 59 = .ok (.iload_n 2, 1) := by decide +kernel
theorem dX12_lays_60 : decode cX12_lays 60 = .ok (.iadd, 1) := by decide +kernel
theorem dX12_lays_61 : decode cX12_lays 61 = .ok (.aload_n 0, 1) := by decide +kernel
theorem dX12_lays_62 : decode cX12_lays 62 = .ok (.getfield 46, 3) := by decide +kernel
theorem dX12_lays_65 : decode cX12_lays 65 = .ok (.iload_n 2, 1) := by decide +kernel
theorem dX12_lays_66 : decode cX12_lays 66 = .ok (.iaload, 1) := by decide +kernel
theorem dX12_lays_67 : decode cX12_lays 67 = .ok (.iastore, 1) := by decide +kernel
theorem dX12_lays_68 : decode cX12_lays 68 = .ok (.iinc 2 1, 3) := by decide +kernel
theorem dX12_lays_71 : decode cX12_lays 71 = .ok (.goto (-55), 3) := by decide +kernel
theorem dX12_lays_74 : decode cX12_lays 74 = .ok (.return_, 1) := by decide +kernel
set_option maxRecDepth 20000 in
theorem T_X12_lays_16 {Q : Option Value → ah_T → Prop} {h : ah_T} (hs : Sh h) (x1 : Int32) (x2 : Int32) (ht : (((ah_i h 82 16) ≤ x2 → Q none h) ∧ (¬ (ah_i h 82 16) ≤ x2 → (vp_in x2 (ah_n h 90)) ∧ (vp_in ((260 + (400 * x1)) + x2) (ah_n h 84)) ∧ (∀ h8, h8 = ah_si h 84 (Int32.toNatClampNeg ((260 + (400 * x1)) + x2)) (ah_i h 90 (Int32.toNatClampNeg x2)) → (vp_in x2 (ah_n h8 91)) ∧ (vp_in ((3060 + (400 * x1)) + x2) (ah_n h8 84)) ∧ (∀ h13, h13 = ah_si h8 84 (Int32.toNatClampNeg ((3060 + (400 * x1)) + x2)) (ah_i h8 91 (Int32.toNatClampNeg x2)) → Wp mX12_lays Q 0 0 16 [some (.ref 82), some (.int x1), some (.int (x2 + 1))] [] h13))))) : Wp mX12_lays Q 0 0 16 [some (.ref 82), some (.int x1), some (.int x2)] [] h := by
  refine ab_iload_n (i := 2) dX12_lays_16 rfl rfl ?_
  refine ab_aload_n (i := 0) dX12_lays_17 rfl rfl ?_
  refine ab_getI f_X12_220 rfl (sh_k hs 82 12 (by decide) rfl) dX12_lays_18 ?_
  refine ab_icmp_ge (tgt := 74) dX12_lays_21 (by decide) (fun c5 => ?_) (fun c5 => ?_)
  · have ht := ht.1 c5
    exact ab_vret rfl dX12_lays_74 (Nat.le_of_ble_eq_true rfl) (Nat.le_of_ble_eq_true rfl) ht
  · have ht := ht.2 c5
    refine ab_aload_n (i := 0) dX12_lays_24 rfl rfl ?_
    refine ab_getR (b := 84) f_X12_20 rfl (sh_k hs 82 12 (by decide) rfl) (sh_r hs 100 rfl) dX12_lays_25 ?_
    refine ab_sipush (v := 260) dX12_lays_28 (by decide) ?_
    refine ab_sipush (v := 400) dX12_lays_31 (by decide) ?_
    refine ab_iload_n (i := 1) dX12_lays_34 rfl rfl ?_
    refine ab_imul dX12_lays_35 ?_
    refine ab_iadd dX12_lays_36 ?_
    refine ab_iload_n (i := 2) dX12_lays_37 rfl rfl ?_
    refine ab_iadd dX12_lays_38 ?_
    refine ab_aload_n (i := 0) dX12_lays_39 rfl rfl ?_
    refine ab_getR (b := 90) f_X12_43 rfl (sh_k hs 82 12 (by decide) rfl) (sh_r hs 106 rfl) dX12_lays_40 ?_
    refine ab_iload_n (i := 2) dX12_lays_43 rfl rfl ?_
    obtain ⟨hc6, ht⟩ := ht
    refine ab_iald (sh_k hs 90 14 (by decide) rfl) hc6 dX12_lays_44 ?_
    obtain ⟨hc7, ht⟩ := ht
    refine ab_iast (sh_k hs 84 14 (by decide) rfl) hc7 dX12_lays_45 ?_
    refine Wp.nm fun h8 e9 => ?_
    have ht := ht h8 e9
    have hs10 : Sh h8 := by rw [e9]; exact sh_si hs
    refine ab_aload_n (i := 0) dX12_lays_46 rfl rfl ?_
    refine ab_getR (b := 84) f_X12_20 rfl (sh_k hs10 82 12 (by decide) rfl) (sh_r hs10 100 rfl) dX12_lays_47 ?_
    refine ab_sipush (v := 3060) dX12_lays_50 (by decide) ?_
    refine ab_sipush (v := 400) dX12_lays_53 (by decide) ?_
    refine ab_iload_n (i := 1) dX12_lays_56 rfl rfl ?_
    refine ab_imul dX12_lays_57 ?_
    refine ab_iadd dX12_lays_58 ?_
    refine ab_iload_n (i := 2) dX12_lays_59 rfl rfl ?_
    refine ab_iadd dX12_lays_60 ?_
    refine ab_aload_n (i := 0) dX12_lays_61 rfl rfl ?_
    refine ab_getR (b := 91) f_X12_46 rfl (sh_k hs10 82 12 (by decide) rfl) (sh_r hs10 107 rfl) dX12_lays_62 ?_
    refine ab_iload_n (i := 2) dX12_lays_65 rfl rfl ?_
    obtain ⟨hc11, ht⟩ := ht
    refine ab_iald (sh_k hs10 91 14 (by decide) rfl) hc11 dX12_lays_66 ?_
    obtain ⟨hc12, ht⟩ := ht
    refine ab_iast (sh_k hs10 84 14 (by decide) rfl) hc12 dX12_lays_67 ?_
    refine Wp.nm fun h13 e14 => ?_
    have ht := ht h13 e14
    have hs15 : Sh h13 := by rw [e14]; exact sh_si hs10
    refine ab_iinc (i := 2) (x := x2) (v := (x2 + 1)) (L' := [some (.ref 82), some (.int x1), some (.int (x2 + 1))]) dX12_lays_68 rfl rfl (by exact (Nat.le_of_ble_eq_true rfl)) rfl rfl ?_
    refine ab_goto (tgt := 16) dX12_lays_71 (by decide) ?_
    exact Wp.fewer (L' := [some (.ref 82), some (.int x1), some (.int (x2 + 1))]) (show ab_leL _ _ from ⟨rfl, ⟨rfl, ⟨rfl, trivial⟩⟩⟩) ht
set_option maxRecDepth 20000 in
theorem T_X12_lays {Q : Option Value → ah_T → Prop} {h : ah_T} (hs : Sh h) (x1 : Int32) (ht : (vp_in (253 + x1) (ah_n h 84)) ∧ (∀ h2, h2 = ah_si h 84 (Int32.toNatClampNeg (253 + x1)) (ah_i h 82 16) → Wp mX12_lays Q 0 0 16 [some (.ref 82), some (.int x1), some (.int 0)] [] h2)) : Mt mX12_lays [.ref 82, .int x1] h Q := by
  refine Mt.ofWp rfl (by exact (Nat.le_of_ble_eq_true rfl)) (Wp.fewer (L' := [some (.ref 82), some (.int x1), none]) (show ab_leL _ _ from ⟨rfl, ⟨rfl, trivial⟩⟩) ?_)
  refine ab_aload_n (i := 0) dX12_lays_0 rfl rfl ?_
  refine ab_getR (b := 84) f_X12_20 rfl (sh_k hs 82 12 (by decide) rfl) (sh_r hs 100 rfl) dX12_lays_1 ?_
  refine ab_sipush (v := 253) dX12_lays_4 (by decide) ?_
  refine ab_iload_n (i := 1) dX12_lays_7 rfl rfl ?_
  refine ab_iadd dX12_lays_8 ?_
  refine ab_aload_n (i := 0) dX12_lays_9 rfl rfl ?_
  refine ab_getI f_X12_220 rfl (sh_k hs 82 12 (by decide) rfl) dX12_lays_10 ?_
  obtain ⟨hc1, ht⟩ := ht
  refine ab_iast (sh_k hs 84 14 (by decide) rfl) hc1 dX12_lays_13 ?_
  refine Wp.nm fun h2 e3 => ?_
  have ht := ht h2 e3
  have hs4 : Sh h2 := by rw [e3]; exact sh_si hs
  refine ab_iconst (v := 0) dX12_lays_14 (by decide) ?_
  refine ab_istore_n (i := 2) (L' := [some (.ref 82), some (.int x1), some (.int 0)]) dX12_lays_15 rfl (by exact (Nat.le_of_ble_eq_true rfl)) rfl rfl ?_
  exact Wp.fewer (L' := [some (.ref 82), some (.int x1), some (.int 0)]) (show ab_leL _ _ from ⟨rfl, ⟨rfl, ⟨rfl, trivial⟩⟩⟩) ht
theorem dX12_law_0 : decode cX12_law 0 = .ok (.aload_n 0, 1) := by decide +kernel
theorem dX12_law_1 : decode cX12_law 1 = .ok (.getfield 20, 3) := by decide +kernel
theorem dX12_law_4 : decode cX12_law 4 = .ok (.sipush 251, 3) := by decide +kernel
theorem dX12_law_7 : decode cX12_law 7 = .ok (.iaload, 1) := by decide +kernel
theorem dX12_law_8 : decode cX12_law 8 = .ok (.bipush 6, 2) := by decide +kernel
theorem dX12_law_10 : decode cX12_law 10 = .ok (.if_icmp .ne 15, 3) := by decide +kernel
theorem dX12_law_13 : decode cX12_law 13 = .ok (.aload_n 0, 1) := by decide +kernel
theorem dX12_law_14 : decode cX12_law 14 = .ok (.iconst 0, 1) := by decide +kernel
theorem dX12_law_15 : decode cX12_law 15 = .ok (.putfield 214, 3) := by decide +kernel
theorem dX12_law_18 : decode cX12_law 18 = .ok (.aload_n 0, 1) := by decide +kernel
theorem dX12_law_19 : decode cX12_law 19 = .ok (.bipush (-5), 2) := by decide +kernel
theorem dX12_law_21 : decode cX12_law 21 = .ok (.invokevirtual 160, 3) := by decide +kernel
theorem dX12_law_24 : decode cX12_law 24 = .ok (.ireturn, 1) := by decide +kernel
theorem dX12_law_25 : decode cX12_law 25 = .ok (.aload_n 0, 1) := by decide +kernel
theorem dX12_law_26 : decode cX12_law 26 = .ok (.iconst 0, 1) := by decide +kernel
theorem dX12_law_27 : decode cX12_law 27 = .ok (.putfield 252, 3) := by decide +kernel
theorem dX12_law_30 : decode cX12_law 30 = .ok (.aload_n 0, 1) := by decide +kernel
theorem dX12_law_31 : decode cX12_law 31 = .ok (.invokevirtual 300, 3) := by decide +kernel
theorem dX12_law_34 : decode cX12_law 34 = .ok (.ifCond .ne 10, 3) := by decide +kernel
theorem dX12_law_37 : decode cX12_law 37 = .ok (.aload_n 0, 1) := by decide +kernel
theorem dX12_law_38 : decode cX12_law 38 = .ok (.bipush (-6), 2) := by decide +kernel
theorem dX12_law_40 : decode cX12_law 40 = .ok (.invokevirtual 160, 3) := by decide +kernel
theorem dX12_law_43 : decode cX12_law 43 = .ok (.ireturn, 1) := by decide +kernel
theorem dX12_law_44 : decode cX12_law 44 = .ok (.aload_n 0, 1) := by decide +kernel
theorem dX12_law_45 : decode cX12_law 45 = .ok (.aload_n 0, 1) := by decide +kernel
theorem dX12_law_46 : decode cX12_law 46 = .ok (.getfield 20, 3) := by decide +kernel
theorem dX12_law_49 : decode cX12_law 49 = .ok (.sipush 251, 3) := by decide +kernel
theorem dX12_law_52 : decode cX12_law 52 = .ok (.iaload, 1) := by decide +kernel
theorem dX12_law_53 : decode cX12_law 53 = .ok (.invokevirtual 303, 3) := by decide +kernel
theorem dX12_law_56 : decode cX12_law 56 = .ok (.aload_n 0, 1) := by decide +kernel
theorem dX12_law_57 : decode cX12_law 57 = .ok (.getfield 20, 3) := by decide +kernel
theorem dX12_law_60 : decode cX12_law 60 = .ok (.sipush 251, 3) := by decide +kernel
theorem dX12_law_63 : decode cX12_law 63 = .ok (.dup2, 1) := by decide +kernel
theorem dX12_law_64 : decode cX12_law 64 = .ok (.iaload, 1) := by decide +kernel
theorem dX12_law_65 : decode cX12_law 65 = .ok (.iconst 1, 1) := by decide +kernel
theorem dX12_law_66 : decode cX12_law 66 = .ok (.iadd, 1) := by decide +kernel
theorem dX12_law_67 : decode cX12_law 67 = .ok (.iastore, 1) := by decide +kernel
theorem dX12_law_68 : decode cX12_law 68 = .ok (.aload_n 0, 1) := by decide +kernel
theorem dX12_law_69 : decode cX12_law 69 = .ok (.aload_n 0, 1) := by decide +kernel
theorem dX12_law_70 : decode cX12_law 70 = .ok (.getfield 20, 3) := by decide +kernel
theorem dX12_law_73 : decode cX12_law 73 = .ok (.sipush 251, 3) := by decide +kernel
theorem dX12_law_76 : decode cX12_law 76 = .ok (.iaload, 1) := by decide +kernel
theorem dX12_law_77 : decode cX12_law 77 = .ok (.iconst 1, 1) := by decide +kernel
theorem dX12_law_78 : decode cX12_law 78 = .ok (.isub, 1) := by decide +kernel
theorem dX12_law_79 : decode cX12_law 79 = .ok (.invokevirtual 164, 3) := by decide +kernel
theorem dX12_law_82 : decode cX12_law 82 = .ok (.ireturn, 1) := by decide +kernel
set_option maxRecDepth 20000 in
theorem T_X12_law {Q : Option Value → ah_T → Prop} {h : ah_T} (hs : Sh h)  (ht : ((¬ (ah_i h 84 (Int32.toNatClampNeg 251)) = 6 → (∀ h2, h2 = ah_si h 82 8 0 → (Mt mX12_reads [.ref 82] h2 (ab_qi fun v7 h5 => Sh h5 ∧ ((¬ v7 = 0 → (Mt mX12_lays [.ref 82, .int (ah_i h5 84 (Int32.toNatClampNeg 251))] h5 (ab_qv fun h9 => Sh h9 ∧ (∀ h12, h12 = ah_si h9 84 (Int32.toNatClampNeg 251) ((ah_i h9 84 (Int32.toNatClampNeg 251)) + 1) → (Mt mX12_good [.ref 82, .int ((ah_i h12 84 (Int32.toNatClampNeg 251)) - 1)] h12 (ab_qi fun v17 h15 => Sh h15 ∧ Q (some (.int v17)) h15)))))) ∧ (v7 = 0 → (Mt mX12_refuses [.ref 82, .int (-6)] h5 (ab_qi fun v20 h18 => Sh h18 ∧ Q (some (.int v20)) h18)))))))) ∧ ((ah_i h 84 (Int32.toNatClampNeg 251)) = 6 → (∀ h21, h21 = ah_si h 82 11 0 → (Mt mX12_refuses [.ref 82, .int (-5)] h21 (ab_qi fun v26 h24 => Sh h24 ∧ Q (some (.int v26)) h24)))))) : Mt mX12_law [.ref 82] h Q := by
  refine Mt.ofWp rfl (by exact (Nat.le_of_ble_eq_true rfl)) (Wp.fewer (L' := [some (.ref 82)]) (show ab_leL _ _ from ⟨rfl, trivial⟩) ?_)
  refine ab_aload_n (i := 0) dX12_law_0 rfl rfl ?_
  refine ab_getR (b := 84) f_X12_20 rfl (sh_k hs 82 12 (by decide) rfl) (sh_r hs 100 rfl) dX12_law_1 ?_
  refine ab_sipush (v := 251) dX12_law_4 (by decide) ?_
  refine ab_iald (sh_k hs 84 14 (by decide) rfl) (sh_in hs 84 5860 (by decide) (by decide) rfl (by unfold vp_in; decide)) dX12_law_7 ?_
  refine ab_bipush (v := 6) dX12_law_8 (by decide) ?_
  refine ab_icmp_ne (tgt := 25) dX12_law_10 (by decide) (fun c1 => ?_) (fun c1 => ?_)
  · have ht := ht.1 c1
    refine ab_aload_n (i := 0) dX12_law_25 rfl rfl ?_
    refine ab_iconst (v := 0) dX12_law_26 (by decide) ?_
    refine ab_putI f_X12_252 (Or.inl rfl) rfl (sh_k hs 82 12 (by decide) rfl) rfl rfl dX12_law_27 ?_
    refine Wp.nm fun h2 e3 => ?_
    have ht := ht h2 e3
    have hs4 : Sh h2 := by rw [e3]; exact sh_si hs
    refine ab_aload_n (i := 0) dX12_law_30 rfl rfl ?_
    refine ab_callV (b := 82) (As := []) ht (Y_X12_reads) l_X12_300 in_X12_reads se_X12_reads (sh_k hs4 82 12 (by decide) rfl) (by decide) rfl rfl ⟨(Nat.le_of_ble_eq_true rfl), (Nat.le_of_ble_eq_true rfl), (Nat.le_of_ble_eq_true rfl), (Nat.le_of_ble_eq_true rfl)⟩ dX12_law_31 ?_
    rintro _ h5 ⟨v7, rfl, hs6, ht⟩
    refine ab_if_ne (tgt := 44) dX12_law_34 (by decide) (fun c8 => ?_) (fun c8 => ?_)
    · have ht := ht.1 c8
      refine ab_aload_n (i := 0) dX12_law_44 rfl rfl ?_
      refine ab_aload_n (i := 0) dX12_law_45 rfl rfl ?_
      refine ab_getR (b := 84) f_X12_20 rfl (sh_k hs6 82 12 (by decide) rfl) (sh_r hs6 100 rfl) dX12_law_46 ?_
      refine ab_sipush (v := 251) dX12_law_49 (by decide) ?_
      refine ab_iald (sh_k hs6 84 14 (by decide) rfl) (sh_in hs6 84 5860 (by decide) (by decide) rfl (by unfold vp_in; decide)) dX12_law_52 ?_
      refine ab_callV (b := 82) (As := [.int (ah_i h5 84 (Int32.toNatClampNeg 251))]) ht (Y_X12_lays) l_X12_303 in_X12_lays se_X12_lays (sh_k hs6 82 12 (by decide) rfl) (by decide) rfl rfl ⟨(Nat.le_of_ble_eq_true rfl), (Nat.le_of_ble_eq_true rfl), (Nat.le_of_ble_eq_true rfl), (Nat.le_of_ble_eq_true rfl)⟩ dX12_law_53 ?_
      rintro _ h9 ⟨rfl, hs10, ht⟩
      refine ab_aload_n (i := 0) dX12_law_56 rfl rfl ?_
      refine ab_getR (b := 84) f_X12_20 rfl (sh_k hs10 82 12 (by decide) rfl) (sh_r hs10 100 rfl) dX12_law_57 ?_
      refine ab_sipush (v := 251) dX12_law_60 (by decide) ?_
      refine ab_dup2 dX12_law_63 rfl rfl ?_
      refine ab_iald (sh_k hs10 84 14 (by decide) rfl) (sh_in hs10 84 5860 (by decide) (by decide) rfl (by unfold vp_in; decide)) dX12_law_64 ?_
      refine ab_iconst (v := 1) dX12_law_65 (by decide) ?_
      refine ab_iadd dX12_law_66 ?_
      refine ab_iast (sh_k hs10 84 14 (by decide) rfl) (sh_in hs10 84 5860 (by decide) (by decide) rfl (by unfold vp_in; decide)) dX12_law_67 ?_
      refine Wp.nm fun h12 e13 => ?_
      have ht := ht h12 e13
      have hs14 : Sh h12 := by rw [e13]; exact sh_si hs10
      refine ab_aload_n (i := 0) dX12_law_68 rfl rfl ?_
      refine ab_aload_n (i := 0) dX12_law_69 rfl rfl ?_
      refine ab_getR (b := 84) f_X12_20 rfl (sh_k hs14 82 12 (by decide) rfl) (sh_r hs14 100 rfl) dX12_law_70 ?_
      refine ab_sipush (v := 251) dX12_law_73 (by decide) ?_
      refine ab_iald (sh_k hs14 84 14 (by decide) rfl) (sh_in hs14 84 5860 (by decide) (by decide) rfl (by unfold vp_in; decide)) dX12_law_76 ?_
      refine ab_iconst (v := 1) dX12_law_77 (by decide) ?_
      refine ab_isub dX12_law_78 ?_
      refine ab_callV (b := 82) (As := [.int ((ah_i h12 84 (Int32.toNatClampNeg 251)) - 1)]) ht (Y_X12_good) l_X12_164 in_X12_good se_X12_good (sh_k hs14 82 12 (by decide) rfl) (by decide) rfl rfl ⟨(Nat.le_of_ble_eq_true rfl), (Nat.le_of_ble_eq_true rfl), (Nat.le_of_ble_eq_true rfl), (Nat.le_of_ble_eq_true rfl)⟩ dX12_law_79 ?_
      rintro _ h15 ⟨v17, rfl, hs16, ht⟩
      exact ab_iret rfl dX12_law_82 (Nat.le_of_ble_eq_true rfl) (Nat.le_of_ble_eq_true rfl) ht
    · have ht := ht.2 c8
      refine ab_aload_n (i := 0) dX12_law_37 rfl rfl ?_
      refine ab_bipush (v := (-6)) dX12_law_38 (by decide) ?_
      refine ab_callV (b := 82) (As := [.int (-6)]) ht (Y_X12_refuses) l_X12_160 in_X12_refuses se_X12_refuses (sh_k hs6 82 12 (by decide) rfl) (by decide) rfl rfl ⟨(Nat.le_of_ble_eq_true rfl), (Nat.le_of_ble_eq_true rfl), (Nat.le_of_ble_eq_true rfl), (Nat.le_of_ble_eq_true rfl)⟩ dX12_law_40 ?_
      rintro _ h18 ⟨v20, rfl, hs19, ht⟩
      exact ab_iret rfl dX12_law_43 (Nat.le_of_ble_eq_true rfl) (Nat.le_of_ble_eq_true rfl) ht
  · have ht := ht.2 c1
    refine ab_aload_n (i := 0) dX12_law_13 rfl rfl ?_
    refine ab_iconst (v := 0) dX12_law_14 (by decide) ?_
    refine ab_putI f_X12_214 (Or.inl rfl) rfl (sh_k hs 82 12 (by decide) rfl) rfl rfl dX12_law_15 ?_
    refine Wp.nm fun h21 e22 => ?_
    have ht := ht h21 e22
    have hs23 : Sh h21 := by rw [e22]; exact sh_si hs
    refine ab_aload_n (i := 0) dX12_law_18 rfl rfl ?_
    refine ab_bipush (v := (-5)) dX12_law_19 (by decide) ?_
    refine ab_callV (b := 82) (As := [.int (-5)]) ht (Y_X12_refuses) l_X12_160 in_X12_refuses se_X12_refuses (sh_k hs23 82 12 (by decide) rfl) (by decide) rfl rfl ⟨(Nat.le_of_ble_eq_true rfl), (Nat.le_of_ble_eq_true rfl), (Nat.le_of_ble_eq_true rfl), (Nat.le_of_ble_eq_true rfl)⟩ dX12_law_21 ?_
    rintro _ h24 ⟨v26, rfl, hs25, ht⟩
    exact ab_iret rfl dX12_law_24 (Nat.le_of_ble_eq_true rfl) (Nat.le_of_ble_eq_true rfl) ht
theorem dX12_force_0 : decode cX12_force 0 = .ok (.iload_n 1, 1) := by decide +kernel
theorem dX12_force_1 : decode cX12_force 1 = .ok (.iconst (-1), 1) := by decide +kernel
theorem dX12_force_2 : decode cX12_force 2 = .ok (.aload_n 0, 1) := by decide +kernel
theorem dX12_force_3 : decode cX12_force 3 = .ok (.getfield 20, 3) := by decide +kernel
theorem dX12_force_6 : decode cX12_force 6 = .ok (.sipush 251, 3) := by decide +kernel
theorem dX12_force_9 : decode cX12_force 9 = .ok (.iaload, 1) := by decide +kernel
theorem dX12_force_10 : decode cX12_force 10 = .ok (.iconst 1, 1) := by decide +kernel
theorem dX12_force_11 : decode cX12_force 11 = .ok (.isub, 1) := by decide +kernel
theorem dX12_force_12 : decode cX12_force 12 = .ok (.invokestatic 156, 3) := by decide +kernel
theorem dX12_force_15 : decode cX12_force 15 = .ok (.ifCond .ne 10, 3) := by decide +kernel
theorem dX12_force_18 : decode cX12_force 18 = .ok (.aload_n 0, 1) := by decide +kernel
theorem dX12_force_19 : decode cX12_force 19 = .ok (.bipush (-2), 2) := by decide +kernel
theorem dX12_force_21 : decode cX12_force 21 = .ok (.invokevirtual 160, 3) := by decide +kernel
theorem dX12_force_24 : decode cX12_force 24 = .ok (.ireturn, 1) := by decide +kernel
theorem dX12_force_25 : decode cX12_force 25 = .ok (.aload_n 0, 1) := by decide +kernel
theorem dX12_force_26 : decode cX12_force 26 = .ok (.sipush 252, 3) := by decide +kernel
theorem dX12_force_29 : decode cX12_force 29 = .ok (.iload_n 1, 1) := by decide +kernel
theorem dX12_force_30 : decode cX12_force 30 = .ok (.invokevirtual 189, 3) := by decide +kernel
theorem dX12_force_33 : decode cX12_force 33 = .ok (.ireturn, 1) := by decide +kernel
set_option maxRecDepth 20000 in
theorem T_X12_force {Q : Option Value → ah_T → Prop} {h : ah_T} (hs : Sh h) (x1 : Int32) (ht : ((¬ (f_X12_lies x1 (-1) ((ah_i h 84 (Int32.toNatClampNeg 251)) - 1)) = 0 → (Mt mX12_replaces [.ref 82, .int 252, .int x1] h (ab_qi fun v4 h2 => Sh h2 ∧ Q (some (.int v4)) h2))) ∧ ((f_X12_lies x1 (-1) ((ah_i h 84 (Int32.toNatClampNeg 251)) - 1)) = 0 → (Mt mX12_refuses [.ref 82, .int (-2)] h (ab_qi fun v7 h5 => Sh h5 ∧ Q (some (.int v7)) h5))))) : Mt mX12_force [.ref 82, .int x1] h Q := by
  refine Mt.ofWp rfl (by exact (Nat.le_of_ble_eq_true rfl)) (Wp.fewer (L' := [some (.ref 82), some (.int x1)]) (show ab_leL _ _ from ⟨rfl, ⟨rfl, trivial⟩⟩) ?_)
  refine ab_iload_n (i := 1) dX12_force_0 rfl rfl ?_
  refine ab_iconst (v := (-1)) dX12_force_1 (by decide) ?_
  refine ab_aload_n (i := 0) dX12_force_2 rfl rfl ?_
  refine ab_getR (b := 84) f_X12_20 rfl (sh_k hs 82 12 (by decide) rfl) (sh_r hs 100 rfl) dX12_force_3 ?_
  refine ab_sipush (v := 251) dX12_force_6 (by decide) ?_
  refine ab_iald (sh_k hs 84 14 (by decide) rfl) (sh_in hs 84 5860 (by decide) (by decide) rfl (by unfold vp_in; decide)) dX12_force_9 ?_
  refine ab_iconst (v := 1) dX12_force_10 (by decide) ?_
  refine ab_isub dX12_force_11 ?_
  refine ab_callS (Q' := fun r h' => r = some (.int (f_X12_lies x1 (-1) ((ah_i h 84 (Int32.toNatClampNeg 251)) - 1))) ∧ h = h') (As := [.int x1, .int (-1), .int ((ah_i h 84 (Int32.toNatClampNeg 251)) - 1)]) (c_X12_lies hs x1 (-1) ((ah_i h 84 (Int32.toNatClampNeg 251)) - 1) ⟨rfl, rfl⟩) (Y_X12_lies) l_X12_156 st_X12_lies rfl ⟨(Nat.le_of_ble_eq_true rfl), (Nat.le_of_ble_eq_true rfl), (Nat.le_of_ble_eq_true rfl), (Nat.le_of_ble_eq_true rfl)⟩ dX12_force_12 ?_
  rintro _ _ ⟨rfl, rfl⟩
  refine ab_if_ne (tgt := 25) dX12_force_15 (by decide) (fun c1 => ?_) (fun c1 => ?_)
  · have ht := ht.1 c1
    refine ab_aload_n (i := 0) dX12_force_25 rfl rfl ?_
    refine ab_sipush (v := 252) dX12_force_26 (by decide) ?_
    refine ab_iload_n (i := 1) dX12_force_29 rfl rfl ?_
    refine ab_callV (b := 82) (As := [.int 252, .int x1]) ht (Y_X12_replaces) l_X12_189 in_X12_replaces se_X12_replaces (sh_k hs 82 12 (by decide) rfl) (by decide) rfl rfl ⟨(Nat.le_of_ble_eq_true rfl), (Nat.le_of_ble_eq_true rfl), (Nat.le_of_ble_eq_true rfl), (Nat.le_of_ble_eq_true rfl)⟩ dX12_force_30 ?_
    rintro _ h2 ⟨v4, rfl, hs3, ht⟩
    exact ab_iret rfl dX12_force_33 (Nat.le_of_ble_eq_true rfl) (Nat.le_of_ble_eq_true rfl) ht
  · have ht := ht.2 c1
    refine ab_aload_n (i := 0) dX12_force_18 rfl rfl ?_
    refine ab_bipush (v := (-2)) dX12_force_19 (by decide) ?_
    refine ab_callV (b := 82) (As := [.int (-2)]) ht (Y_X12_refuses) l_X12_160 in_X12_refuses se_X12_refuses (sh_k hs 82 12 (by decide) rfl) (by decide) rfl rfl ⟨(Nat.le_of_ble_eq_true rfl), (Nat.le_of_ble_eq_true rfl), (Nat.le_of_ble_eq_true rfl), (Nat.le_of_ble_eq_true rfl)⟩ dX12_force_21 ?_
    rintro _ h5 ⟨v7, rfl, hs6, ht⟩
    exact ab_iret rfl dX12_force_24 (Nat.le_of_ble_eq_true rfl) (Nat.le_of_ble_eq_true rfl) ht
theorem dX12_passes0_0 : decode cX12_passes0 0 = .ok (.aload_n 0, 1) := by decide +kernel
theorem dX12_passes0_1 : decode cX12_passes0 1 = .ok (.aload_n 0, 1) := by decide +kernel
theorem dX12_passes0_2 : decode cX12_passes0 2 = .ok (.getfield 309, 3) := by decide +kernel
theorem dX12_passes0_5 : decode cX12_passes0 5 = .ok (.invokevirtual 312, 3) := by decide +kernel
theorem dX12_passes0_8 : decode cX12_passes0 8 = .ok (.iload_n 1, 1) := by decide +kernel
theorem dX12_passes0_9 : decode cX12_passes0 9 = .ok (.if_icmp .ne 7, 3) := by decide +kernel
theorem dX12_passes0_12 : decode cX12_passes0 12 = .ok (.iconst 1, 1) := by decide +kernel
theorem dX12_passes0_13 : decode cX12_passes0 13 = .ok (.goto 4, 3) := by decide +kernel
theorem dX12_passes0_16 : decode cX12_passes0 16 = .ok (.iconst 0, 1) := by decide +kernel
theorem dX12_passes0_17 : decode cX12_passes0 17 = .ok (.istore_n 2, 1) := by decide +kernel
theorem dX12_passes0_18 : decode cX12_passes0 18 = .ok (.iload_n 2, 1) := by decide +kernel
theorem dX12_passes0_19 : decode cX12_passes0 19 = .ok (.ifCond .eq 13, 3) := by decide +kernel
theorem dX12_passes0_22 : decode cX12_passes0 22 = .ok (.aload_n 0, 1) := by decide +kernel
theorem dX12_passes0_23 : decode cX12_passes0 23 = .ok (.dup, 1) := by decide +kernel
theorem dX12_passes0_24 : decode cX12_passes0 24 = .ok (.getfield 309, 3) := by decide +kernel
theorem dX12_passes0_27 : decode cX12_passes0 27 = .ok (.iconst 1, 1) := by decide +kernel
theorem dX12_passes0_28 : decode cX12_passes0 28 = .ok (.iadd, 1) := by decide +kernel
theorem dX12_passes0_29 : decode cX12_passes0 29 = .ok (.putfield 309, 3) := by decide +kernel
theorem dX12_passes0_32 : decode cX12_passes0 32 = .ok (.iload_n 2, 1) := by decide +kernel
theorem dX12_passes0_33 : decode cX12_passes0 33 = .ok (.ireturn, 1) := by decide +kernel
set_option maxRecDepth 20000 in
theorem T_X12_passes0 {Q : Option Value → ah_T → Prop} {h : ah_T} (hs : Sh h) (x1 : Int32) (ht : ((¬ (ah_i h 82 21) ≤ (ah_i h 82 20) → vp_in (260 + (ah_i h 82 20)) (ah_n h 84))) ∧ ((¬ (f_X12_codeAt h (ah_i h 82 20)) = x1 → Q (some (.int 0)) h) ∧ ((f_X12_codeAt h (ah_i h 82 20)) = x1 → (∀ h3, h3 = ah_si h 82 20 ((ah_i h 82 20) + 1) → Q (some (.int 1)) h3)))) : Mt mX12_passes0 [.ref 82, .int x1] h Q := by
  refine Mt.ofWp rfl (by exact (Nat.le_of_ble_eq_true rfl)) (Wp.fewer (L' := [some (.ref 82), some (.int x1), none]) (show ab_leL _ _ from ⟨rfl, ⟨rfl, trivial⟩⟩) ?_)
  refine ab_aload_n (i := 0) dX12_passes0_0 rfl rfl ?_
  refine ab_aload_n (i := 0) dX12_passes0_1 rfl rfl ?_
  refine ab_getI f_X12_309 rfl (sh_k hs 82 12 (by decide) rfl) dX12_passes0_2 ?_
  obtain ⟨hc1, ht⟩ := ht
  refine ab_callV (b := 82) (Q' := fun r h' => r = some (.int (f_X12_codeAt h (ah_i h 82 20))) ∧ h = h') (As := [.int (ah_i h 82 20)]) (c_X12_codeAt hs (ah_i h 82 20)  hc1 ⟨rfl, rfl⟩) (Y_X12_codeAt) l_X12_312 in_X12_codeAt se_X12_codeAt (sh_k hs 82 12 (by decide) rfl) (by decide) rfl rfl ⟨(Nat.le_of_ble_eq_true rfl), (Nat.le_of_ble_eq_true rfl), (Nat.le_of_ble_eq_true rfl), (Nat.le_of_ble_eq_true rfl)⟩ dX12_passes0_5 ?_
  rintro _ _ ⟨rfl, rfl⟩
  refine ab_iload_n (i := 1) dX12_passes0_8 rfl rfl ?_
  refine ab_icmp_ne (tgt := 16) dX12_passes0_9 (by decide) (fun c2 => ?_) (fun c2 => ?_)
  · have ht := ht.1 c2
    refine ab_iconst (v := 0) dX12_passes0_16 (by decide) ?_
    refine ab_istore_n (i := 2) (L' := [some (.ref 82), some (.int x1), some (.int 0)]) dX12_passes0_17 rfl (by exact (Nat.le_of_ble_eq_true rfl)) rfl rfl ?_
    refine ab_iload_n (i := 2) dX12_passes0_18 rfl rfl ?_
    refine ab_if_eq (tgt := 32) dX12_passes0_19 (by decide) (fun _ => ?_) (fun q => absurd (by decide) q)
    refine ab_iload_n (i := 2) dX12_passes0_32 rfl rfl ?_
    exact ab_zret rfl rfl dX12_passes0_33 (Nat.le_of_ble_eq_true rfl) (Nat.le_of_ble_eq_true rfl) ht
  · have ht := ht.2 c2
    refine ab_iconst (v := 1) dX12_passes0_12 (by decide) ?_
    refine ab_goto (tgt := 17) dX12_passes0_13 (by decide) ?_
    refine ab_istore_n (i := 2) (L' := [some (.ref 82), some (.int x1), some (.int 1)]) dX12_passes0_17 rfl (by exact (Nat.le_of_ble_eq_true rfl)) rfl rfl ?_
    refine ab_iload_n (i := 2) dX12_passes0_18 rfl rfl ?_
    refine ab_if_eq (tgt := 32) dX12_passes0_19 (by decide) (fun q => absurd q (by decide)) (fun _ => ?_)
    refine ab_aload_n (i := 0) dX12_passes0_22 rfl rfl ?_
    refine ab_dup dX12_passes0_23 rfl ?_
    refine ab_getI f_X12_309 rfl (sh_k hs 82 12 (by decide) rfl) dX12_passes0_24 ?_
    refine ab_iconst (v := 1) dX12_passes0_27 (by decide) ?_
    refine ab_iadd dX12_passes0_28 ?_
    refine ab_putI f_X12_309 (Or.inl rfl) rfl (sh_k hs 82 12 (by decide) rfl) rfl rfl dX12_passes0_29 ?_
    refine Wp.nm fun h3 e4 => ?_
    have ht := ht h3 e4
    have hs5 : Sh h3 := by rw [e4]; exact sh_si hs
    refine ab_iload_n (i := 2) dX12_passes0_32 rfl rfl ?_
    exact ab_zret rfl rfl dX12_passes0_33 (Nat.le_of_ble_eq_true rfl) (Nat.le_of_ble_eq_true rfl) ht
theorem dX12_bounded_0 : decode cX12_bounded 0 = .ok (.iload_n 3, 1) := by decide +kernel
theorem dX12_bounded_1 : decode cX12_bounded 1 = .ok (.ifCond .eq 24, 3) := by decide +kernel
theorem dX12_bounded_4 : decode cX12_bounded 4 = .ok (.lload_n 1, 1) := by decide +kernel
theorem dX12_bounded_5 : decode cX12_bounded 5 = .ok (.ldc2_w 315, 3) := by decide +kernel
theorem dX12_bounded_8 : decode cX12_bounded 8 = .ok (.lcmp, 1) := by decide +kernel
theorem dX12_bounded_9 : decode cX12_bounded 9 = .ok (.ifCond .gt 11, 3) := by decide +kernel
theorem dX12_bounded_12 : decode cX12_bounded 12 = .ok (.lload_n 1, 1) := by decide +kernel
theorem dX12_bounded_13 : decode cX12_bounded 13 = .ok (.ldc2_w 317, 3) := by decide +kernel
theorem dX12_bounded_16 : decode cX12_bounded 16 = .ok (.lcmp, 1) := by decide +kernel
theorem dX12_bounded_17 : decode cX12_bounded 17 = .ok (.ifCond .ge 8, 3) := by decide +kernel
theorem dX12_bounded_20 : decode cX12_bounded 20 = .ok (.aload_n 0, 1) := by decide +kernel
theorem dX12_bounded_21 : decode cX12_bounded 21 = .ok (.iconst 1, 1) := by decide +kernel
theorem dX12_bounded_22 : decode cX12_bounded 22 = .ok (.putfield 319, 3) := by decide +kernel
theorem dX12_bounded_25 : decode cX12_bounded 25 = .ok (.aload_n 0, 1) := by decide +kernel
theorem dX12_bounded_26 : decode cX12_bounded 26 = .ok (.getfield 319, 3) := by decide +kernel
theorem dX12_bounded_29 : decode cX12_bounded 29 = .ok (.ifCond .eq 7, 3) := by decide +kernel
theorem dX12_bounded_32 : decode cX12_bounded 32 = .ok (.lconst 0, 1) := by decide +kernel
theorem dX12_bounded_33 : decode cX12_bounded 33 = .ok (.goto 4, 3) := by decide +kernel
theorem dX12_bounded_36 : decode cX12_bounded 36 = .ok (.lload_n 1, 1) := by decide +kernel
theorem dX12_bounded_37 : decode cX12_bounded 37 = .ok (.lreturn, 1) := by decide +kernel
set_option maxRecDepth 20000 in
theorem T_X12_bounded {Q : Option Value → ah_T → Prop} {h : ah_T} (hs : Sh h) (x1 : Int64) (x3 : Int32) (ht : ((x3 = 0 → (((ah_i h 82 22) = 0 → Q (some (.long x1)) h) ∧ (¬ (ah_i h 82 22) = 0 → Q (some (.long (0 : Int64))) h))) ∧ (¬ x3 = 0 → ((0 < (lg_cmp x1 (1000000000 : Int64)) → (∀ h4, h4 = ah_si h 82 22 1 → (((ah_i h4 82 22) = 0 → Q (some (.long x1)) h4) ∧ (¬ (ah_i h4 82 22) = 0 → Q (some (.long (0 : Int64))) h4)))) ∧ (¬ 0 < (lg_cmp x1 (1000000000 : Int64)) → ((0 ≤ (lg_cmp x1 ((-1000000000) : Int64)) → (((ah_i h 82 22) = 0 → Q (some (.long x1)) h) ∧ (¬ (ah_i h 82 22) = 0 → Q (some (.long (0 : Int64))) h))) ∧ (¬ 0 ≤ (lg_cmp x1 ((-1000000000) : Int64)) → (∀ h10, h10 = ah_si h 82 22 1 → (((ah_i h10 82 22) = 0 → Q (some (.long x1)) h10) ∧ (¬ (ah_i h10 82 22) = 0 → Q (some (.long (0 : Int64))) h10)))))))))) : Mt mX12_bounded [.ref 82, .long x1, .int x3] h Q := by
  refine Mt.ofWp rfl (by exact (Nat.le_of_ble_eq_true rfl)) (Wp.fewer (L' := [some (.ref 82), some (.long x1), none, some (.int x3)]) (show ab_leL _ _ from ⟨rfl, ⟨rfl, ⟨rfl, trivial⟩⟩⟩) ?_)
  refine ab_iload_n (i := 3) dX12_bounded_0 rfl rfl ?_
  refine ab_if_eq (tgt := 25) dX12_bounded_1 (by decide) (fun c1 => ?_) (fun c1 => ?_)
  · have ht := ht.1 c1
    refine ab_aload_n (i := 0) dX12_bounded_25 rfl rfl ?_
    refine ab_getI f_X12_319 rfl (sh_k hs 82 12 (by decide) rfl) dX12_bounded_26 ?_
    refine ab_if_eq (tgt := 36) dX12_bounded_29 (by decide) (fun c2 => ?_) (fun c2 => ?_)
    · have ht := ht.1 c2
      refine ab_lload_n (i := 1) dX12_bounded_36 rfl rfl ?_
      exact ab_lret rfl dX12_bounded_37 (Nat.le_of_ble_eq_true rfl) (Nat.le_of_ble_eq_true rfl) ht
    · have ht := ht.2 c2
      refine ab_lconst (v := 0) dX12_bounded_32 (by decide) ?_
      refine ab_goto (tgt := 37) dX12_bounded_33 (by decide) ?_
      exact ab_lret rfl dX12_bounded_37 (Nat.le_of_ble_eq_true rfl) (Nat.le_of_ble_eq_true rfl) ht
  · have ht := ht.2 c1
    refine ab_lload_n (i := 1) dX12_bounded_4 rfl rfl ?_
    refine ab_ldc2 (v := 1000000000) (tb_9 (List.mem_of_getElem? (i := 37) (by decide +kernel)) rfl) dX12_bounded_5 ?_
    refine ab_lcmp dX12_bounded_8 ?_
    refine ab_if_gt (tgt := 20) dX12_bounded_9 (by decide) (fun c3 => ?_) (fun c3 => ?_)
    · have ht := ht.1 c3
      refine ab_aload_n (i := 0) dX12_bounded_20 rfl rfl ?_
      refine ab_iconst (v := 1) dX12_bounded_21 (by decide) ?_
      refine ab_putI f_X12_319 (Or.inl rfl) rfl (sh_k hs 82 12 (by decide) rfl) rfl rfl dX12_bounded_22 ?_
      refine Wp.nm fun h4 e5 => ?_
      have ht := ht h4 e5
      have hs6 : Sh h4 := by rw [e5]; exact sh_si hs
      refine ab_aload_n (i := 0) dX12_bounded_25 rfl rfl ?_
      refine ab_getI f_X12_319 rfl (sh_k hs6 82 12 (by decide) rfl) dX12_bounded_26 ?_
      refine ab_if_eq (tgt := 36) dX12_bounded_29 (by decide) (fun c7 => ?_) (fun c7 => ?_)
      · have ht := ht.1 c7
        refine ab_lload_n (i := 1) dX12_bounded_36 rfl rfl ?_
        exact ab_lret rfl dX12_bounded_37 (Nat.le_of_ble_eq_true rfl) (Nat.le_of_ble_eq_true rfl) ht
      · have ht := ht.2 c7
        refine ab_lconst (v := 0) dX12_bounded_32 (by decide) ?_
        refine ab_goto (tgt := 37) dX12_bounded_33 (by decide) ?_
        exact ab_lret rfl dX12_bounded_37 (Nat.le_of_ble_eq_true rfl) (Nat.le_of_ble_eq_true rfl) ht
    · have ht := ht.2 c3
      refine ab_lload_n (i := 1) dX12_bounded_12 rfl rfl ?_
      refine ab_ldc2 (v := (-1000000000)) (tb_9 (List.mem_of_getElem? (i := 38) (by decide +kernel)) rfl) dX12_bounded_13 ?_
      refine ab_lcmp dX12_bounded_16 ?_
      refine ab_if_ge (tgt := 25) dX12_bounded_17 (by decide) (fun c8 => ?_) (fun c8 => ?_)
      · have ht := ht.1 c8
        refine ab_aload_n (i := 0) dX12_bounded_25 rfl rfl ?_
        refine ab_getI f_X12_319 rfl (sh_k hs 82 12 (by decide) rfl) dX12_bounded_26 ?_
        refine ab_if_eq (tgt := 36) dX12_bounded_29 (by decide) (fun c9 => ?_) (fun c9 => ?_)
        · have ht := ht.1 c9
          refine ab_lload_n (i := 1) dX12_bounded_36 rfl rfl ?_
          exact ab_lret rfl dX12_bounded_37 (Nat.le_of_ble_eq_true rfl) (Nat.le_of_ble_eq_true rfl) ht
        · have ht := ht.2 c9
          refine ab_lconst (v := 0) dX12_bounded_32 (by decide) ?_
          refine ab_goto (tgt := 37) dX12_bounded_33 (by decide) ?_
          exact ab_lret rfl dX12_bounded_37 (Nat.le_of_ble_eq_true rfl) (Nat.le_of_ble_eq_true rfl) ht
      · have ht := ht.2 c8
        refine ab_aload_n (i := 0) dX12_bounded_20 rfl rfl ?_
        refine ab_iconst (v := 1) dX12_bounded_21 (by decide) ?_
        refine ab_putI f_X12_319 (Or.inl rfl) rfl (sh_k hs 82 12 (by decide) rfl) rfl rfl dX12_bounded_22 ?_
        refine Wp.nm fun h10 e11 => ?_
        have ht := ht h10 e11
        have hs12 : Sh h10 := by rw [e11]; exact sh_si hs
        refine ab_aload_n (i := 0) dX12_bounded_25 rfl rfl ?_
        refine ab_getI f_X12_319 rfl (sh_k hs12 82 12 (by decide) rfl) dX12_bounded_26 ?_
        refine ab_if_eq (tgt := 36) dX12_bounded_29 (by decide) (fun c13 => ?_) (fun c13 => ?_)
        · have ht := ht.1 c13
          refine ab_lload_n (i := 1) dX12_bounded_36 rfl rfl ?_
          exact ab_lret rfl dX12_bounded_37 (Nat.le_of_ble_eq_true rfl) (Nat.le_of_ble_eq_true rfl) ht
        · have ht := ht.2 c13
          refine ab_lconst (v := 0) dX12_bounded_32 (by decide) ?_
          refine ab_goto (tgt := 37) dX12_bounded_33 (by decide) ?_
          exact ab_lret rfl dX12_bounded_37 (Nat.le_of_ble_eq_true rfl) (Nat.le_of_ble_eq_true rfl) ht
theorem dX12_sumOf_0 : decode cX12_sumOf 0 = .ok (.aload_n 0, 1) := by decide +kernel
theorem dX12_sumOf_1 : decode cX12_sumOf 1 = .ok (.iload_n 1, 1) := by decide +kernel
theorem dX12_sumOf_2 : decode cX12_sumOf 2 = .ok (.invokevirtual 322, 3) := by decide +kernel
theorem dX12_sumOf_5 : decode cX12_sumOf 5 = .ok (.lstore_n 2, 1) := by decide +kernel
theorem dX12_sumOf_6 : decode cX12_sumOf 6 = .ok (.aload_n 0, 1) := by decide +kernel
theorem dX12_sumOf_7 : decode cX12_sumOf 7 = .ok (.aload_n 0, 1) := by decide +kernel
theorem dX12_sumOf_8 : decode cX12_sumOf 8 = .ok (.getfield 309, 3) := by decide +kernel
theorem dX12_sumOf_11 : decode cX12_sumOf 11 = .ok (.invokevirtual 312, 3) := by decide +kernel
theorem dX12_sumOf_14 : decode cX12_sumOf 14 = .ok (.bipush 43, 2) := by decide +kernel
theorem dX12_sumOf_16 : decode cX12_sumOf 16 = .ok (.invokestatic 278, 3) := by decide +kernel
theorem dX12_sumOf_19 : decode cX12_sumOf 19 = .ok (.if_icmp .eq 19, 3) := by decide +kernel
theorem dX12_sumOf_22 : decode cX12_sumOf 22 = .ok (.aload_n 0, 1) := by decide +kernel
theorem dX12_sumOf_23 : decode cX12_sumOf 23 = .ok (.aload_n 0, 1) := by decide +kernel
theorem dX12_sumOf_24 : decode cX12_sumOf 24 = .ok (.getfield 309, 3) := by decide +kernel
theorem dX12_sumOf_27 : decode cX12_sumOf 27 = .ok (.invokevirtual 312, 3) := by decide +kernel
theorem dX12_sumOf_30 : decode cX12_sumOf 30 = .ok (.bipush 45, 2) := by decide +kernel
theorem dX12_sumOf_32 : decode cX12_sumOf 32 = .ok (.invokestatic 278, 3) := by decide +kernel
theorem dX12_sumOf_35 : decode cX12_sumOf 35 = .ok (.if_icmp .ne 68, 3) := by decide +kernel
theorem dX12_sumOf_38 : decode cX12_sumOf 38 = .ok (.aload_n 0, 1) := by decide +kernel
theorem dX12_sumOf_39 : decode cX12_sumOf 39 = .ok (.aload_n 0, 1) := by decide +kernel
theorem dX12_sumOf_40 : decode cX12_sumOf 40 = .ok (.getfield 309, 3) := by decide +kernel
theorem dX12_sumOf_43 : decode cX12_sumOf 43 = .ok (.invokevirtual 312, 3) := by decide +kernel
theorem dX12_sumOf_46 : decode cX12_sumOf 46 = .ok (.bipush 43, 2) := by decide +kernel
theorem dX12_sumOf_48 : decode cX12_sumOf 48 = .ok (.invokestatic 278, 3) := by decide +kernel
theorem dX12_sumOf_51 : decode cX12_sumOf 51 = .ok (.if_icmp .ne 7, 3) := by decide +kernel
theorem dX12_sumOf_54 : decode cX12_sumOf 54 = .ok (.iconst 1, 1) := by decide +kernel
theorem dX12_sumOf_55 : decode cX12_sumOf 55 = .ok (.goto 4, 3) := by decide +kernel
theorem dX12_sumOf_58 : decode cX12_sumOf 58 = .ok (.iconst 0, 1) := by decide +kernel
theorem dX12_sumOf_59 : decode cX12_sumOf 59 = .ok (.istore 4, 2) := by decide +kernel
theorem dX12_sumOf_61 : decode cX12_sumOf 61 = .ok (.aload_n 0, 1) := by decide +kernel
theorem dX12_sumOf_62 : decode cX12_sumOf 62 = .ok (.dup, 1) := by decide +kernel
theorem dX12_sumOf_63 : decode cX12_sumOf 63 = .ok (.getfield 309, 3) := by decide +kernel
theorem dX12_sumOf_66 : decode cX12_sumOf 66 = .ok (.iconst 1, 1) := by decide +kernel
theorem dX12_sumOf_67 : decode cX12_sumOf 67 = .ok (.iadd, 1) := by decide +kernel
theorem dX12_sumOf_68 : decode cX12_sumOf 68 = .ok (.putfield 309, 3) := by decide +kernel
theorem dX12_sumOf_71 : decode cX12_sumOf 71 = .ok (.aload_n 0, 1) := by decide +kernel
theorem dX12_sumOf_72 : decode cX12_sumOf 72 = .ok (.iload_n 1, 1) := by decide +kernel
theorem dX12_sumOf_73 : decode cX12_sumOf 73 = .ok (.invokevirtual 322, 3) := by decide +kernel
theorem dX12_sumOf_76 : decode cX12_sumOf 76 = .ok (.lstore 5, 2) := by decide +kernel
theorem dX12_sumOf_78 : decode cX12_sumOf 78 = .ok (.aload_n 0, 1) := by decide +kernel
theorem dX12_sumOf_79 : decode cX12_sumOf 79 = .ok (.iload 4, 2) := by decide +kernel
theorem dX12_sumOf_81 : decode cX12_sumOf 81 = .ok (.ifCond .eq 10, 3) := by decide +kernel
theorem dX12_sumOf_84 : decode cX12_sumOf 84 = .ok (.lload_n 2, 1) := by decide +kernel
theorem dX12_sumOf_85 : decode cX12_sumOf 85 = .ok (.lload 5, 2) := by decide +kernel
theorem dX12_sumOf_87 : decode cX12_sumOf 87 = .ok (.ladd, 1) := by decide +kernel
theorem dX12_sumOf_88 : decode cX12_sumOf 88 = .ok (.goto 7, 3) := by decide +kernel
theorem dX12_sumOf_91 : decode cX12_sumOf 91 = .ok (.lload_n 2, 1) := by decide +kernel
theorem dX12_sumOf_92 : decode cX12_sumOf 92 = .ok (.lload 5, 2) := by decide +kernel
theorem dX12_sumOf_94 : decode cX12_sumOf 94 = .ok (.lsub, 1) := by decide +kernel
theorem dX12_sumOf_95 : decode cX12_sumOf 95 = .ok (.iload_n 1, 1) := by decide +kernel
theorem dX12_sumOf_96 : decode cX12_sumOf 96 = .ok (.invokevirtual 326, 3) := by decide +kernel
theorem dX12_sumOf_99 : decode cX12_sumOf 99 = .ok (.lstore_n 2, 1) := by decide +kernel
theorem dX12_sumOf_100 : decode cX12_sumOf 100 = .ok (.goto (-94), 3) := by decide +kernel
theorem dX12_sumOf_103 : decode cX12_sumOf 103 = .ok (.lload_n 2, 1) := by decide +kernel
theorem dX12_sumOf_104 : decode cX12_sumOf 104 = .ok (.lreturn, 1) := by decide +kernel
set_option maxRecDepth 20000 in
theorem T_X12_sumOf_6 {d : Nat} (hd : 8 ≤ d) {Q : Option Value → ah_T → Prop} {h : ah_T} (hs : Sh h) (x1 : Int32) (x2 : Int64) (ht : ((¬ (ah_i h 82 21) ≤ (ah_i h 82 20) → vp_in (260 + (ah_i h 82 20)) (ah_n h 84))) ∧ (((f_X12_codeAt h (ah_i h 82 20)) = (f_X12_sign 43) → ((¬ (ah_i h 82 21) ≤ (ah_i h 82 20) → vp_in (260 + (ah_i h 82 20)) (ah_n h 84))) ∧ ((¬ (f_X12_codeAt h (ah_i h 82 20)) = (f_X12_sign 43) → (∀ h8, h8 = ah_si h 82 20 ((ah_i h 82 20) + 1) → (Mt (mX12_termOf (d - 1)) [.ref 82, .int x1] h8 (ab_ql fun v13 h11 => Sh h11 ∧ (Mt mX12_bounded [.ref 82, .long (x2 - v13), .int x1] h11 (ab_ql fun v16 h14 => Sh h14 ∧ Wp (mX12_sumOf d) Q 0 0 6 [some (.ref 82), some (.int x1), some (.long v16), none, none, none, none] [] h14)))))) ∧ ((f_X12_codeAt h (ah_i h 82 20)) = (f_X12_sign 43) → (∀ h17, h17 = ah_si h 82 20 ((ah_i h 82 20) + 1) → (Mt (mX12_termOf (d - 1)) [.ref 82, .int x1] h17 (ab_ql fun v22 h20 => Sh h20 ∧ (Mt mX12_bounded [.ref 82, .long (x2 + v22), .int x1] h20 (ab_ql fun v25 h23 => Sh h23 ∧ Wp (mX12_sumOf d) Q 0 0 6 [some (.ref 82), some (.int x1), some (.long v25), none, none, none, none] [] h23)))))))) ∧ (¬ (f_X12_codeAt h (ah_i h 82 20)) = (f_X12_sign 43) → ((¬ (ah_i h 82 21) ≤ (ah_i h 82 20) → vp_in (260 + (ah_i h 82 20)) (ah_n h 84))) ∧ ((¬ (f_X12_codeAt h (ah_i h 82 20)) = (f_X12_sign 45) → Q (some (.long x2)) h) ∧ ((f_X12_codeAt h (ah_i h 82 20)) = (f_X12_sign 45) → ((¬ (ah_i h 82 21) ≤ (ah_i h 82 20) → vp_in (260 + (ah_i h 82 20)) (ah_n h 84))) ∧ ((¬ (f_X12_codeAt h (ah_i h 82 20)) = (f_X12_sign 43) → (∀ h30, h30 = ah_si h 82 20 ((ah_i h 82 20) + 1) → (Mt (mX12_termOf (d - 1)) [.ref 82, .int x1] h30 (ab_ql fun v35 h33 => Sh h33 ∧ (Mt mX12_bounded [.ref 82, .long (x2 - v35), .int x1] h33 (ab_ql fun v38 h36 => Sh h36 ∧ Wp (mX12_sumOf d) Q 0 0 6 [some (.ref 82), some (.int x1), some (.long v38), none, none, none, none] [] h36)))))) ∧ ((f_X12_codeAt h (ah_i h 82 20)) = (f_X12_sign 43) → (∀ h39, h39 = ah_si h 82 20 ((ah_i h 82 20) + 1) → (Mt (mX12_termOf (d - 1)) [.ref 82, .int x1] h39 (ab_ql fun v44 h42 => Sh h42 ∧ (Mt mX12_bounded [.ref 82, .long (x2 + v44), .int x1] h42 (ab_ql fun v47 h45 => Sh h45 ∧ Wp (mX12_sumOf d) Q 0 0 6 [some (.ref 82), some (.int x1), some (.long v47), none, none, none, none] [] h45)))))))))))) : Wp (mX12_sumOf d) Q 0 0 6 [some (.ref 82), some (.int x1), some (.long x2), none, none, none, none] [] h := by
  refine ab_aload_n (i := 0) dX12_sumOf_6 rfl rfl ?_
  refine ab_aload_n (i := 0) dX12_sumOf_7 rfl rfl ?_
  refine ab_getI f_X12_309 rfl (sh_k hs 82 12 (by decide) rfl) dX12_sumOf_8 ?_
  obtain ⟨hc4, ht⟩ := ht
  refine ab_callV (b := 82) (Q' := fun r h' => r = some (.int (f_X12_codeAt h (ah_i h 82 20))) ∧ h = h') (As := [.int (ah_i h 82 20)]) (c_X12_codeAt hs (ah_i h 82 20)  hc4 ⟨rfl, rfl⟩) (Y_X12_codeAt) l_X12_312 in_X12_codeAt se_X12_codeAt (sh_k hs 82 12 (by decide) rfl) (by decide) rfl rfl ⟨(show 1 + 1 ≤ d by omega), (Nat.le_of_ble_eq_true rfl), (Nat.le_of_ble_eq_true rfl), (Nat.le_of_ble_eq_true rfl)⟩ dX12_sumOf_11 ?_
  rintro _ _ ⟨rfl, rfl⟩
  refine ab_bipush (v := 43) dX12_sumOf_14 (by decide) ?_
  refine ab_callS (Q' := fun r h' => r = some (.int (f_X12_sign 43)) ∧ h = h') (As := [.int 43]) (c_X12_sign hs 43 ⟨rfl, rfl⟩) (Y_X12_sign) l_X12_278 st_X12_sign rfl ⟨(show 1 + 1 ≤ d by omega), (Nat.le_of_ble_eq_true rfl), (Nat.le_of_ble_eq_true rfl), (Nat.le_of_ble_eq_true rfl)⟩ dX12_sumOf_16 ?_
  rintro _ _ ⟨rfl, rfl⟩
  refine ab_icmp_eq (tgt := 38) dX12_sumOf_19 (by decide) (fun c5 => ?_) (fun c5 => ?_)
  · have ht := ht.1 c5
    refine ab_aload_n (i := 0) dX12_sumOf_38 rfl rfl ?_
    refine ab_aload_n (i := 0) dX12_sumOf_39 rfl rfl ?_
    refine ab_getI f_X12_309 rfl (sh_k hs 82 12 (by decide) rfl) dX12_sumOf_40 ?_
    obtain ⟨hc6, ht⟩ := ht
    refine ab_callV (b := 82) (Q' := fun r h' => r = some (.int (f_X12_codeAt h (ah_i h 82 20))) ∧ h = h') (As := [.int (ah_i h 82 20)]) (c_X12_codeAt hs (ah_i h 82 20)  hc6 ⟨rfl, rfl⟩) (Y_X12_codeAt) l_X12_312 in_X12_codeAt se_X12_codeAt (sh_k hs 82 12 (by decide) rfl) (by decide) rfl rfl ⟨(show 1 + 1 ≤ d by omega), (Nat.le_of_ble_eq_true rfl), (Nat.le_of_ble_eq_true rfl), (Nat.le_of_ble_eq_true rfl)⟩ dX12_sumOf_43 ?_
    rintro _ _ ⟨rfl, rfl⟩
    refine ab_bipush (v := 43) dX12_sumOf_46 (by decide) ?_
    refine ab_callS (Q' := fun r h' => r = some (.int (f_X12_sign 43)) ∧ h = h') (As := [.int 43]) (c_X12_sign hs 43 ⟨rfl, rfl⟩) (Y_X12_sign) l_X12_278 st_X12_sign rfl ⟨(show 1 + 1 ≤ d by omega), (Nat.le_of_ble_eq_true rfl), (Nat.le_of_ble_eq_true rfl), (Nat.le_of_ble_eq_true rfl)⟩ dX12_sumOf_48 ?_
    rintro _ _ ⟨rfl, rfl⟩
    refine ab_icmp_ne (tgt := 58) dX12_sumOf_51 (by decide) (fun c7 => ?_) (fun c7 => ?_)
    · have ht := ht.1 c7
      refine ab_iconst (v := 0) dX12_sumOf_58 (by decide) ?_
      refine ab_istore (i := 4) (L' := [some (.ref 82), some (.int x1), some (.long x2), none, some (.int 0), none, none]) dX12_sumOf_59 (by exact (Nat.le_of_ble_eq_true rfl)) rfl rfl ?_
      refine ab_aload_n (i := 0) dX12_sumOf_61 rfl rfl ?_
      refine ab_dup dX12_sumOf_62 rfl ?_
      refine ab_getI f_X12_309 rfl (sh_k hs 82 12 (by decide) rfl) dX12_sumOf_63 ?_
      refine ab_iconst (v := 1) dX12_sumOf_66 (by decide) ?_
      refine ab_iadd dX12_sumOf_67 ?_
      refine ab_putI f_X12_309 (Or.inl rfl) rfl (sh_k hs 82 12 (by decide) rfl) rfl rfl dX12_sumOf_68 ?_
      refine Wp.nm fun h8 e9 => ?_
      have ht := ht h8 e9
      have hs10 : Sh h8 := by rw [e9]; exact sh_si hs
      refine ab_aload_n (i := 0) dX12_sumOf_71 rfl rfl ?_
      refine ab_iload_n (i := 1) dX12_sumOf_72 rfl rfl ?_
      refine ab_callV (b := 82) (As := [.int x1]) ht (Y_X12_termOf _) l_X12_322 in_X12_termOf se_X12_termOf (sh_k hs10 82 12 (by decide) rfl) (by decide) rfl rfl ⟨(show d - 1 + 1 ≤ d by omega), (Nat.le_of_ble_eq_true rfl), (Nat.le_of_ble_eq_true rfl), (Nat.le_of_ble_eq_true rfl)⟩ dX12_sumOf_73 ?_
      rintro _ h11 ⟨v13, rfl, hs12, ht⟩
      refine ab_lstore (i := 5) (L' := [some (.ref 82), some (.int x1), some (.long x2), none, some (.int 0), some (.long v13), none]) dX12_sumOf_76 (by exact (Nat.le_of_ble_eq_true rfl)) rfl rfl ?_
      refine ab_aload_n (i := 0) dX12_sumOf_78 rfl rfl ?_
      refine ab_iload (i := 4) dX12_sumOf_79 rfl ?_
      refine ab_if_eq (tgt := 91) dX12_sumOf_81 (by decide) (fun _ => ?_) (fun q => absurd (by decide) q)
      refine ab_lload_n (i := 2) dX12_sumOf_91 rfl rfl ?_
      refine ab_lload (i := 5) dX12_sumOf_92 rfl ?_
      refine ab_lsub dX12_sumOf_94 ?_
      refine ab_iload_n (i := 1) dX12_sumOf_95 rfl rfl ?_
      refine ab_callV (b := 82) (As := [.long (x2 - v13), .int x1]) ht (Y_X12_bounded) l_X12_326 in_X12_bounded se_X12_bounded (sh_k hs12 82 12 (by decide) rfl) (by decide) rfl rfl ⟨(show 1 + 1 ≤ d by omega), (Nat.le_of_ble_eq_true rfl), (Nat.le_of_ble_eq_true rfl), (Nat.le_of_ble_eq_true rfl)⟩ dX12_sumOf_96 ?_
      rintro _ h14 ⟨v16, rfl, hs15, ht⟩
      refine ab_lstore_n (i := 2) (L' := [some (.ref 82), some (.int x1), some (.long v16), none, some (.int 0), some (.long v13), none]) dX12_sumOf_99 rfl (by exact (Nat.le_of_ble_eq_true rfl)) rfl rfl ?_
      refine ab_goto (tgt := 6) dX12_sumOf_100 (by decide) ?_
      exact Wp.fewer (L' := [some (.ref 82), some (.int x1), some (.long v16), none, none, none, none]) (show ab_leL _ _ from ⟨rfl, ⟨rfl, ⟨rfl, trivial⟩⟩⟩) ht
    · have ht := ht.2 c7
      refine ab_iconst (v := 1) dX12_sumOf_54 (by decide) ?_
      refine ab_goto (tgt := 59) dX12_sumOf_55 (by decide) ?_
      refine ab_istore (i := 4) (L' := [some (.ref 82), some (.int x1), some (.long x2), none, some (.int 1), none, none]) dX12_sumOf_59 (by exact (Nat.le_of_ble_eq_true rfl)) rfl rfl ?_
      refine ab_aload_n (i := 0) dX12_sumOf_61 rfl rfl ?_
      refine ab_dup dX12_sumOf_62 rfl ?_
      refine ab_getI f_X12_309 rfl (sh_k hs 82 12 (by decide) rfl) dX12_sumOf_63 ?_
      refine ab_iconst (v := 1) dX12_sumOf_66 (by decide) ?_
      refine ab_iadd dX12_sumOf_67 ?_
      refine ab_putI f_X12_309 (Or.inl rfl) rfl (sh_k hs 82 12 (by decide) rfl) rfl rfl dX12_sumOf_68 ?_
      refine Wp.nm fun h17 e18 => ?_
      have ht := ht h17 e18
      have hs19 : Sh h17 := by rw [e18]; exact sh_si hs
      refine ab_aload_n (i := 0) dX12_sumOf_71 rfl rfl ?_
      refine ab_iload_n (i := 1) dX12_sumOf_72 rfl rfl ?_
      refine ab_callV (b := 82) (As := [.int x1]) ht (Y_X12_termOf _) l_X12_322 in_X12_termOf se_X12_termOf (sh_k hs19 82 12 (by decide) rfl) (by decide) rfl rfl ⟨(show d - 1 + 1 ≤ d by omega), (Nat.le_of_ble_eq_true rfl), (Nat.le_of_ble_eq_true rfl), (Nat.le_of_ble_eq_true rfl)⟩ dX12_sumOf_73 ?_
      rintro _ h20 ⟨v22, rfl, hs21, ht⟩
      refine ab_lstore (i := 5) (L' := [some (.ref 82), some (.int x1), some (.long x2), none, some (.int 1), some (.long v22), none]) dX12_sumOf_76 (by exact (Nat.le_of_ble_eq_true rfl)) rfl rfl ?_
      refine ab_aload_n (i := 0) dX12_sumOf_78 rfl rfl ?_
      refine ab_iload (i := 4) dX12_sumOf_79 rfl ?_
      refine ab_if_eq (tgt := 91) dX12_sumOf_81 (by decide) (fun q => absurd q (by decide)) (fun _ => ?_)
      refine ab_lload_n (i := 2) dX12_sumOf_84 rfl rfl ?_
      refine ab_lload (i := 5) dX12_sumOf_85 rfl ?_
      refine ab_ladd dX12_sumOf_87 ?_
      refine ab_goto (tgt := 95) dX12_sumOf_88 (by decide) ?_
      refine ab_iload_n (i := 1) dX12_sumOf_95 rfl rfl ?_
      refine ab_callV (b := 82) (As := [.long (x2 + v22), .int x1]) ht (Y_X12_bounded) l_X12_326 in_X12_bounded se_X12_bounded (sh_k hs21 82 12 (by decide) rfl) (by decide) rfl rfl ⟨(show 1 + 1 ≤ d by omega), (Nat.le_of_ble_eq_true rfl), (Nat.le_of_ble_eq_true rfl), (Nat.le_of_ble_eq_true rfl)⟩ dX12_sumOf_96 ?_
      rintro _ h23 ⟨v25, rfl, hs24, ht⟩
      refine ab_lstore_n (i := 2) (L' := [some (.ref 82), some (.int x1), some (.long v25), none, some (.int 1), some (.long v22), none]) dX12_sumOf_99 rfl (by exact (Nat.le_of_ble_eq_true rfl)) rfl rfl ?_
      refine ab_goto (tgt := 6) dX12_sumOf_100 (by decide) ?_
      exact Wp.fewer (L' := [some (.ref 82), some (.int x1), some (.long v25), none, none, none, none]) (show ab_leL _ _ from ⟨rfl, ⟨rfl, ⟨rfl, trivial⟩⟩⟩) ht
  · have ht := ht.2 c5
    refine ab_aload_n (i := 0) dX12_sumOf_22 rfl rfl ?_
    refine ab_aload_n (i := 0) dX12_sumOf_23 rfl rfl ?_
    refine ab_getI f_X12_309 rfl (sh_k hs 82 12 (by decide) rfl) dX12_sumOf_24 ?_
    obtain ⟨hc26, ht⟩ := ht
    refine ab_callV (b := 82) (Q' := fun r h' => r = some (.int (f_X12_codeAt h (ah_i h 82 20))) ∧ h = h') (As := [.int (ah_i h 82 20)]) (c_X12_codeAt hs (ah_i h 82 20)  hc26 ⟨rfl, rfl⟩) (Y_X12_codeAt) l_X12_312 in_X12_codeAt se_X12_codeAt (sh_k hs 82 12 (by decide) rfl) (by decide) rfl rfl ⟨(show 1 + 1 ≤ d by omega), (Nat.le_of_ble_eq_true rfl), (Nat.le_of_ble_eq_true rfl), (Nat.le_of_ble_eq_true rfl)⟩ dX12_sumOf_27 ?_
    rintro _ _ ⟨rfl, rfl⟩
    refine ab_bipush (v := 45) dX12_sumOf_30 (by decide) ?_
    refine ab_callS (Q' := fun r h' => r = some (.int (f_X12_sign 45)) ∧ h = h') (As := [.int 45]) (c_X12_sign hs 45 ⟨rfl, rfl⟩) (Y_X12_sign) l_X12_278 st_X12_sign rfl ⟨(show 1 + 1 ≤ d by omega), (Nat.le_of_ble_eq_true rfl), (Nat.le_of_ble_eq_true rfl), (Nat.le_of_ble_eq_true rfl)⟩ dX12_sumOf_32 ?_
    rintro _ _ ⟨rfl, rfl⟩
    refine ab_icmp_ne (tgt := 103) dX12_sumOf_35 (by decide) (fun c27 => ?_) (fun c27 => ?_)
    · have ht := ht.1 c27
      refine ab_lload_n (i := 2) dX12_sumOf_103 rfl rfl ?_
      exact ab_lret rfl dX12_sumOf_104 (Nat.le_of_ble_eq_true rfl) (Nat.le_of_ble_eq_true rfl) ht
    · have ht := ht.2 c27
      refine ab_aload_n (i := 0) dX12_sumOf_38 rfl rfl ?_
      refine ab_aload_n (i := 0) dX12_sumOf_39 rfl rfl ?_
      refine ab_getI f_X12_309 rfl (sh_k hs 82 12 (by decide) rfl) dX12_sumOf_40 ?_
      obtain ⟨hc28, ht⟩ := ht
      refine ab_callV (b := 82) (Q' := fun r h' => r = some (.int (f_X12_codeAt h (ah_i h 82 20))) ∧ h = h') (As := [.int (ah_i h 82 20)]) (c_X12_codeAt hs (ah_i h 82 20)  hc28 ⟨rfl, rfl⟩) (Y_X12_codeAt) l_X12_312 in_X12_codeAt se_X12_codeAt (sh_k hs 82 12 (by decide) rfl) (by decide) rfl rfl ⟨(show 1 + 1 ≤ d by omega), (Nat.le_of_ble_eq_true rfl), (Nat.le_of_ble_eq_true rfl), (Nat.le_of_ble_eq_true rfl)⟩ dX12_sumOf_43 ?_
      rintro _ _ ⟨rfl, rfl⟩
      refine ab_bipush (v := 43) dX12_sumOf_46 (by decide) ?_
      refine ab_callS (Q' := fun r h' => r = some (.int (f_X12_sign 43)) ∧ h = h') (As := [.int 43]) (c_X12_sign hs 43 ⟨rfl, rfl⟩) (Y_X12_sign) l_X12_278 st_X12_sign rfl ⟨(show 1 + 1 ≤ d by omega), (Nat.le_of_ble_eq_true rfl), (Nat.le_of_ble_eq_true rfl), (Nat.le_of_ble_eq_true rfl)⟩ dX12_sumOf_48 ?_
      rintro _ _ ⟨rfl, rfl⟩
      refine ab_icmp_ne (tgt := 58) dX12_sumOf_51 (by decide) (fun c29 => ?_) (fun c29 => ?_)
      · have ht := ht.1 c29
        refine ab_iconst (v := 0) dX12_sumOf_58 (by decide) ?_
        refine ab_istore (i := 4) (L' := [some (.ref 82), some (.int x1), some (.long x2), none, some (.int 0), none, none]) dX12_sumOf_59 (by exact (Nat.le_of_ble_eq_true rfl)) rfl rfl ?_
        refine ab_aload_n (i := 0) dX12_sumOf_61 rfl rfl ?_
        refine ab_dup dX12_sumOf_62 rfl ?_
        refine ab_getI f_X12_309 rfl (sh_k hs 82 12 (by decide) rfl) dX12_sumOf_63 ?_
        refine ab_iconst (v := 1) dX12_sumOf_66 (by decide) ?_
        refine ab_iadd dX12_sumOf_67 ?_
        refine ab_putI f_X12_309 (Or.inl rfl) rfl (sh_k hs 82 12 (by decide) rfl) rfl rfl dX12_sumOf_68 ?_
        refine Wp.nm fun h30 e31 => ?_
        have ht := ht h30 e31
        have hs32 : Sh h30 := by rw [e31]; exact sh_si hs
        refine ab_aload_n (i := 0) dX12_sumOf_71 rfl rfl ?_
        refine ab_iload_n (i := 1) dX12_sumOf_72 rfl rfl ?_
        refine ab_callV (b := 82) (As := [.int x1]) ht (Y_X12_termOf _) l_X12_322 in_X12_termOf se_X12_termOf (sh_k hs32 82 12 (by decide) rfl) (by decide) rfl rfl ⟨(show d - 1 + 1 ≤ d by omega), (Nat.le_of_ble_eq_true rfl), (Nat.le_of_ble_eq_true rfl), (Nat.le_of_ble_eq_true rfl)⟩ dX12_sumOf_73 ?_
        rintro _ h33 ⟨v35, rfl, hs34, ht⟩
        refine ab_lstore (i := 5) (L' := [some (.ref 82), some (.int x1), some (.long x2), none, some (.int 0), some (.long v35), none]) dX12_sumOf_76 (by exact (Nat.le_of_ble_eq_true rfl)) rfl rfl ?_
        refine ab_aload_n (i := 0) dX12_sumOf_78 rfl rfl ?_
        refine ab_iload (i := 4) dX12_sumOf_79 rfl ?_
        refine ab_if_eq (tgt := 91) dX12_sumOf_81 (by decide) (fun _ => ?_) (fun q => absurd (by decide) q)
        refine ab_lload_n (i := 2) dX12_sumOf_91 rfl rfl ?_
        refine ab_lload (i := 5) dX12_sumOf_92 rfl ?_
        refine ab_lsub dX12_sumOf_94 ?_
        refine ab_iload_n (i := 1) dX12_sumOf_95 rfl rfl ?_
        refine ab_callV (b := 82) (As := [.long (x2 - v35), .int x1]) ht (Y_X12_bounded) l_X12_326 in_X12_bounded se_X12_bounded (sh_k hs34 82 12 (by decide) rfl) (by decide) rfl rfl ⟨(show 1 + 1 ≤ d by omega), (Nat.le_of_ble_eq_true rfl), (Nat.le_of_ble_eq_true rfl), (Nat.le_of_ble_eq_true rfl)⟩ dX12_sumOf_96 ?_
        rintro _ h36 ⟨v38, rfl, hs37, ht⟩
        refine ab_lstore_n (i := 2) (L' := [some (.ref 82), some (.int x1), some (.long v38), none, some (.int 0), some (.long v35), none]) dX12_sumOf_99 rfl (by exact (Nat.le_of_ble_eq_true rfl)) rfl rfl ?_
        refine ab_goto (tgt := 6) dX12_sumOf_100 (by decide) ?_
        exact Wp.fewer (L' := [some (.ref 82), some (.int x1), some (.long v38), none, none, none, none]) (show ab_leL _ _ from ⟨rfl, ⟨rfl, ⟨rfl, trivial⟩⟩⟩) ht
      · have ht := ht.2 c29
        refine ab_iconst (v := 1) dX12_sumOf_54 (by decide) ?_
        refine ab_goto (tgt := 59) dX12_sumOf_55 (by decide) ?_
        refine ab_istore (i := 4) (L' := [some (.ref 82), some (.int x1), some (.long x2), none, some (.int 1), none, none]) dX12_sumOf_59 (by exact (Nat.le_of_ble_eq_true rfl)) rfl rfl ?_
        refine ab_aload_n (i := 0) dX12_sumOf_61 rfl rfl ?_
        refine ab_dup dX12_sumOf_62 rfl ?_
        refine ab_getI f_X12_309 rfl (sh_k hs 82 12 (by decide) rfl) dX12_sumOf_63 ?_
        refine ab_iconst (v := 1) dX12_sumOf_66 (by decide) ?_
        refine ab_iadd dX12_sumOf_67 ?_
        refine ab_putI f_X12_309 (Or.inl rfl) rfl (sh_k hs 82 12 (by decide) rfl) rfl rfl dX12_sumOf_68 ?_
        refine Wp.nm fun h39 e40 => ?_
        have ht := ht h39 e40
        have hs41 : Sh h39 := by rw [e40]; exact sh_si hs
        refine ab_aload_n (i := 0) dX12_sumOf_71 rfl rfl ?_
        refine ab_iload_n (i := 1) dX12_sumOf_72 rfl rfl ?_
        refine ab_callV (b := 82) (As := [.int x1]) ht (Y_X12_termOf _) l_X12_322 in_X12_termOf se_X12_termOf (sh_k hs41 82 12 (by decide) rfl) (by decide) rfl rfl ⟨(show d - 1 + 1 ≤ d by omega), (Nat.le_of_ble_eq_true rfl), (Nat.le_of_ble_eq_true rfl), (Nat.le_of_ble_eq_true rfl)⟩ dX12_sumOf_73 ?_
        rintro _ h42 ⟨v44, rfl, hs43, ht⟩
        refine ab_lstore (i := 5) (L' := [some (.ref 82), some (.int x1), some (.long x2), none, some (.int 1), some (.long v44), none]) dX12_sumOf_76 (by exact (Nat.le_of_ble_eq_true rfl)) rfl rfl ?_
        refine ab_aload_n (i := 0) dX12_sumOf_78 rfl rfl ?_
        refine ab_iload (i := 4) dX12_sumOf_79 rfl ?_
        refine ab_if_eq (tgt := 91) dX12_sumOf_81 (by decide) (fun q => absurd q (by decide)) (fun _ => ?_)
        refine ab_lload_n (i := 2) dX12_sumOf_84 rfl rfl ?_
        refine ab_lload (i := 5) dX12_sumOf_85 rfl ?_
        refine ab_ladd dX12_sumOf_87 ?_
        refine ab_goto (tgt := 95) dX12_sumOf_88 (by decide) ?_
        refine ab_iload_n (i := 1) dX12_sumOf_95 rfl rfl ?_
        refine ab_callV (b := 82) (As := [.long (x2 + v44), .int x1]) ht (Y_X12_bounded) l_X12_326 in_X12_bounded se_X12_bounded (sh_k hs43 82 12 (by decide) rfl) (by decide) rfl rfl ⟨(show 1 + 1 ≤ d by omega), (Nat.le_of_ble_eq_true rfl), (Nat.le_of_ble_eq_true rfl), (Nat.le_of_ble_eq_true rfl)⟩ dX12_sumOf_96 ?_
        rintro _ h45 ⟨v47, rfl, hs46, ht⟩
        refine ab_lstore_n (i := 2) (L' := [some (.ref 82), some (.int x1), some (.long v47), none, some (.int 1), some (.long v44), none]) dX12_sumOf_99 rfl (by exact (Nat.le_of_ble_eq_true rfl)) rfl rfl ?_
        refine ab_goto (tgt := 6) dX12_sumOf_100 (by decide) ?_
        exact Wp.fewer (L' := [some (.ref 82), some (.int x1), some (.long v47), none, none, none, none]) (show ab_leL _ _ from ⟨rfl, ⟨rfl, ⟨rfl, trivial⟩⟩⟩) ht
set_option maxRecDepth 20000 in
theorem T_X12_sumOf {d : Nat} (hd : 8 ≤ d) {Q : Option Value → ah_T → Prop} {h : ah_T} (hs : Sh h) (x1 : Int32) (ht : (Mt (mX12_termOf (d - 1)) [.ref 82, .int x1] h (ab_ql fun v3 h1 => Sh h1 ∧ Wp (mX12_sumOf d) Q 0 0 6 [some (.ref 82), some (.int x1), some (.long v3), none, none, none, none] [] h1))) : Mt (mX12_sumOf d) [.ref 82, .int x1] h Q := by
  refine Mt.ofWp rfl (by exact (Nat.le_of_ble_eq_true rfl)) (Wp.fewer (L' := [some (.ref 82), some (.int x1), none, none, none, none, none]) (show ab_leL _ _ from ⟨rfl, ⟨rfl, trivial⟩⟩) ?_)
  refine ab_aload_n (i := 0) dX12_sumOf_0 rfl rfl ?_
  refine ab_iload_n (i := 1) dX12_sumOf_1 rfl rfl ?_
  refine ab_callV (b := 82) (As := [.int x1]) ht (Y_X12_termOf _) l_X12_322 in_X12_termOf se_X12_termOf (sh_k hs 82 12 (by decide) rfl) (by decide) rfl rfl ⟨(show d - 1 + 1 ≤ d by omega), (Nat.le_of_ble_eq_true rfl), (Nat.le_of_ble_eq_true rfl), (Nat.le_of_ble_eq_true rfl)⟩ dX12_sumOf_2 ?_
  rintro _ h1 ⟨v3, rfl, hs2, ht⟩
  refine ab_lstore_n (i := 2) (L' := [some (.ref 82), some (.int x1), some (.long v3), none, none, none, none]) dX12_sumOf_5 rfl (by exact (Nat.le_of_ble_eq_true rfl)) rfl rfl ?_
  exact Wp.fewer (L' := [some (.ref 82), some (.int x1), some (.long v3), none, none, none, none]) (show ab_leL _ _ from ⟨rfl, ⟨rfl, ⟨rfl, trivial⟩⟩⟩) ht
theorem dX12_termOf_0 : decode cX12_termOf 0 = .ok (.aload_n 0, 1) := by decide +kernel
theorem dX12_termOf_1 : decode cX12_termOf 1 = .ok (.iload_n 1, 1) := by decide +kernel
theorem dX12_termOf_2 : decode cX12_termOf 2 = .ok (.invokevirtual 330, 3) := by decide +kernel
theorem dX12_termOf_5 : decode cX12_termOf 5 = .ok (.lstore_n 2, 1) := by decide +kernel
theorem dX12_termOf_6 : decode cX12_termOf 6 = .ok (.aload_n 0, 1) := by decide +kernel
theorem dX12_termOf_7 : decode cX12_termOf 7 = .ok (.aload_n 0, 1) := by decide +kernel
theorem dX12_termOf_8 : decode cX12_termOf 8 = .ok (.getfield 309, 3) := by decide +kernel
theorem dX12_termOf_11 : decode cX12_termOf 11 = .ok (.invokevirtual 312, 3) := by decide +kernel
theorem dX12_termOf_14 : decode cX12_termOf 14 = .ok (.bipush 42, 2) := by decide +kernel
theorem dX12_termOf_16 : decode cX12_termOf 16 = .ok (.invokestatic 278, 3) := by decide +kernel
theorem dX12_termOf_19 : decode cX12_termOf 19 = .ok (.if_icmp .eq 35, 3) := by decide +kernel
theorem dX12_termOf_22 : decode cX12_termOf 22 = .ok (.aload_n 0, 1) := by decide +kernel
theorem dX12_termOf_23 : decode cX12_termOf 23 = .ok (.aload_n 0, 1) := by decide +kernel
theorem dX12_termOf_24 : decode cX12_termOf 24 = .ok (.getfield 309, 3) := by decide +kernel
theorem dX12_termOf_27 : decode cX12_termOf 27 = .ok (.invokevirtual 312, 3) := by decide +kernel
theorem dX12_termOf_30 : decode cX12_termOf 30 = .ok (.bipush 47, 2) := by decide +kernel
theorem dX12_termOf_32 : decode cX12_termOf 32 = .ok (.invokestatic 278, 3) := by decide +kernel
theorem dX12_termOf_35 : decode cX12_termOf 35 = .ok (.if_icmp .eq 19, 3) := by decide +kernel
theorem dX12_termOf_38 : decode cX12_termOf 38 = .ok (.aload_n 0, 1) := by decide +kernel
theorem dX12_termOf_39 : decode cX12_termOf 39 = .ok (.aload_n 0, 1) := by decide +kernel
theorem dX12_termOf_40 : decode cX12_termOf 40 = .ok (.getfield 309, 3) := by decide +kernel
theorem dX12_termOf_43 : decode cX12_termOf 43 = .ok (.invokevirtual 312, 3) := by decide +kernel
theorem dX12_termOf_46 : decode cX12_termOf 46 = .ok (.bipush 37, 2) := by decide +kernel
theorem dX12_termOf_48 : decode cX12_termOf 48 = .ok (.invokestatic 278, 3) := by decide +kernel
theorem dX12_termOf_51 : decode cX12_termOf 51 = .ok (.if_icmp .ne 117, 3) := by decide +kernel
theorem dX12_termOf_54 : decode cX12_termOf 54 = .ok (.aload_n 0, 1) := by decide +kernel
theorem dX12_termOf_55 : decode cX12_termOf 55 = .ok (.aload_n 0, 1) := by decide +kernel
theorem dX12_termOf_56 : decode cX12_termOf 56 = .ok (.getfield 309, 3) := by decide +kernel
theorem dX12_termOf_59 : decode cX12_termOf 59 = .ok (.invokevirtual 312, 3) := by decide +kernel
theorem dX12_termOf_62 : decode cX12_termOf 62 = .ok (.istore 4, 2) := by decide +kernel
theorem dX12_termOf_64 : decode cX12_termOf 64 = .ok (.aload_n 0, 1) := by decide +kernel
theorem dX12_termOf_65 : decode cX12_termOf 65 = .ok (.dup, 1) := by decide +kernel
theorem dX12_termOf_66 : decode cX12_termOf 66 = .ok (.getfield 309, 3) := by decide +kernel
theorem dX12_termOf_69 : decode cX12_termOf 69 = .ok (.iconst 1, 1) := by decide +kernel
theorem dX12_termOf_70 : decode cX12_termOf 70 = .ok (.iadd, 1) := by decide +kernel
theorem dX12_termOf_71 : decode cX12_termOf 71 = .ok (.putfield 309, 3) := by decide +kernel
theorem dX12_termOf_74 : decode cX12_termOf 74 = .ok (.aload_n 0, 1) := by decide +kernel
theorem dX12_termOf_75 : decode cX12_termOf 75 = .ok (.iload_n 1, 1) := by decide +kernel
theorem dX12_termOf_76 : decode cX12_termOf 76 = .ok (.invokevirtual 330, 3) := by decide +kernel
theorem dX12_termOf_79 : decode cX12_termOf 79 = .ok (.lstore 5, 2) := by decide +kernel
theorem dX12_termOf_81 : decode cX12_termOf 81 = .ok (.iload 4, 2) := by decide +kernel
theorem dX12_termOf_83 : decode cX12_termOf 83 = .ok (.bipush 42, 2) := by decide +kernel
theorem dX12_termOf_85 : decode cX12_termOf 85 = .ok (.invokestatic 278, 3) := by decide +kernel
theorem dX12_termOf_88 : decode cX12_termOf 88 = .ok (.if_icmp .eq 33, 3) := by decide +kernel
theorem dX12_termOf_91 : decode cX12_termOf 91 = .ok (.lload 5, 2) := by decide +kernel
theorem dX12_termOf_93 : decode cX12_termOf 93 = .ok (.lconst 0, 1) := by decide +kernel
theorem dX12_termOf_94 : decode cX12_termOf 94 = .ok (.lcmp, 1) := by decide +kernel
theorem dX12_termOf_95 : decode cX12_termOf 95 = .ok (.ifCond .ne 26, 3) := by decide +kernel
theorem dX12_termOf_98 : decode cX12_termOf 98 = .ok (.aload_n 0, 1) := by decide +kernel
theorem dX12_termOf_99 : decode cX12_termOf 99 = .ok (.aload_n 0, 1) := by decide +kernel
theorem dX12_termOf_100 : decode cX12_termOf 100 = .ok (.getfield 319, 3) := by decide +kernel
theorem dX12_termOf_103 : decode cX12_termOf 103 = .ok (.ifCond .ne 7, 3) := by decide +kernel
theorem dX12_termOf_106 : decode cX12_termOf 106 = .ok (.iload_n 1, 1) := by decide +kernel
theorem dX12_termOf_107 : decode cX12_termOf 107 = .ok (.ifCond .eq 7, 3) := by decide +kernel
theorem dX12_termOf_110 : decode cX12_termOf 110 = .ok (.iconst 1, 1) := by decide +kernel
theorem dX12_termOf_111 : decode cX12_termOf 111 = .ok (.goto 4, 3) := by decide +kernel
theorem dX12_termOf_114 : decode cX12_termOf 114 = .ok (.iconst 0, 1) := by decide +kernel
theorem dX12_termOf_115 : decode cX12_termOf 115 = .ok (.putfield 319, 3) := by decide +kernel
theorem dX12_termOf_118 : decode cX12_termOf 118 = .ok (.lconst 1, 1) := by decide +kernel
theorem dX12_termOf_119 : decode cX12_termOf 119 = .ok (.lstore 5, 2) := by decide +kernel
theorem dX12_termOf_121 : decode cX12_termOf 121 = .ok (.aload_n 0, 1) := by decide +kernel
theorem dX12_termOf_122 : decode cX12_termOf 122 = .ok (.iload 4, 2) := by decide +kernel
theorem dX12_termOf_124 : decode cX12_termOf 124 = .ok (.bipush 42, 2) := by decide +kernel
theorem dX12_termOf_126 : decode cX12_termOf 126 = .ok (.invokestatic 278, 3) := by decide +kernel
theorem dX12_termOf_129 : decode cX12_termOf 129 = .ok (.if_icmp .ne 10, 3) := by decide +kernel
theorem dX12_termOf_132 : decode cX12_termOf 132 = .ok (.lload_n 2, 1) := by decide +kernel
theorem dX12_termOf_133 : decode cX12_termOf 133 = .ok (.lload 5, 2) := by decide +kernel
theorem dX12_termOf_135 : decode cX12_termOf 135 = .ok (.lmul, 1) := by decide +kernel
theorem dX12_termOf_136 : decode cX12_termOf 136 = .ok (.goto 24, 3) := by decide +kernel
theorem dX12_termOf_139 : decode cX12_termOf 139 = .ok (.iload 4, 2) := by decide +kernel
theorem dX12_termOf_141 : decode cX12_termOf 141 = .ok (.bipush 47, 2) := by decide +kernel
theorem dX12_termOf_143 : decode cX12_termOf 143 = .ok (.invokestatic 278, 3) := by decide +kernel
theorem dX12_termOf_146 : decode cX12_termOf 146 = .ok (.if_icmp .ne 10, 3) := by decide +kernel
theorem dX12_termOf_149 : decode cX12_termOf 149 = .ok (.lload_n 2, 1) := by decide +kernel
theorem dX12_termOf_150 : decode cX12_termOf 150 = .ok (.lload 5, 2) := by decide +kernel
theorem dX12_termOf_152 : decode cX12_termOf 152 = .ok (.ldiv, 1) := by decide +kernel
theorem dX12_termOf_153 : decode cX12_termOf 153 = .ok (.goto 7, 3) := by decide +kernel
theorem dX12_termOf_156 : decode cX12_termOf 156 = .ok (.lload_n 2, 1) := by decide +kernel
theorem dX12_termOf_157 : decode cX12_termOf 157 = .ok (.lload 5, 2) := by decide +kernel
theorem dX12_termOf_159 : decode cX12_termOf 159 = .ok (.lrem, 1) := by decide +kernel
theorem dX12_termOf_160 : decode cX12_termOf 160 = .ok (.iload_n 1, 1) := by decide +kernel
theorem dX12_termOf_161 : decode cX12_termOf 161 = .ok (.invokevirtual 326, 3) := by decide +kernel
theorem dX12_termOf_164 : decode cX12_termOf 164 = .ok (.lstore_n 2, 1) := by decide +kernel
theorem dX12_termOf_165 : decode cX12_termOf 165 = .ok (.goto (-159), 3) := by decide +kernel
theorem dX12_termOf_168 : decode cX12_termOf 168 = .ok (.lload_n 2, 1) := by decide +kernel
theorem dX12_termOf_169 : decode cX12_termOf 169 = .ok (.lreturn, 1) := by decide +kernel
set_option maxRecDepth 20000 in
theorem T_X12_termOf_6 {d : Nat} (hd : 8 ≤ d) {Q : Option Value → ah_T → Prop} {h : ah_T} (hs : Sh h) (x1 : Int32) (x2 : Int64) (ht : ((¬ (ah_i h 82 21) ≤ (ah_i h 82 20) → vp_in (260 + (ah_i h 82 20)) (ah_n h 84))) ∧ (((f_X12_codeAt h (ah_i h 82 20)) = (f_X12_sign 42) → Wp (mX12_termOf d) Q 0 0 54 [some (.ref 82), some (.int x1), some (.long x2), none, none, none, none] [] h) ∧ (¬ (f_X12_codeAt h (ah_i h 82 20)) = (f_X12_sign 42) → ((¬ (ah_i h 82 21) ≤ (ah_i h 82 20) → vp_in (260 + (ah_i h 82 20)) (ah_n h 84))) ∧ (((f_X12_codeAt h (ah_i h 82 20)) = (f_X12_sign 47) → Wp (mX12_termOf d) Q 0 0 54 [some (.ref 82), some (.int x1), some (.long x2), none, none, none, none] [] h) ∧ (¬ (f_X12_codeAt h (ah_i h 82 20)) = (f_X12_sign 47) → ((¬ (ah_i h 82 21) ≤ (ah_i h 82 20) → vp_in (260 + (ah_i h 82 20)) (ah_n h 84))) ∧ ((¬ (f_X12_codeAt h (ah_i h 82 20)) = (f_X12_sign 37) → Q (some (.long x2)) h) ∧ ((f_X12_codeAt h (ah_i h 82 20)) = (f_X12_sign 37) → Wp (mX12_termOf d) Q 0 0 54 [some (.ref 82), some (.int x1), some (.long x2), none, none, none, none] [] h))))))) : Wp (mX12_termOf d) Q 0 0 6 [some (.ref 82), some (.int x1), some (.long x2), none, none, none, none] [] h := by
  refine ab_aload_n (i := 0) dX12_termOf_6 rfl rfl ?_
  refine ab_aload_n (i := 0) dX12_termOf_7 rfl rfl ?_
  refine ab_getI f_X12_309 rfl (sh_k hs 82 12 (by decide) rfl) dX12_termOf_8 ?_
  obtain ⟨hc4, ht⟩ := ht
  refine ab_callV (b := 82) (Q' := fun r h' => r = some (.int (f_X12_codeAt h (ah_i h 82 20))) ∧ h = h') (As := [.int (ah_i h 82 20)]) (c_X12_codeAt hs (ah_i h 82 20)  hc4 ⟨rfl, rfl⟩) (Y_X12_codeAt) l_X12_312 in_X12_codeAt se_X12_codeAt (sh_k hs 82 12 (by decide) rfl) (by decide) rfl rfl ⟨(show 1 + 1 ≤ d by omega), (Nat.le_of_ble_eq_true rfl), (Nat.le_of_ble_eq_true rfl), (Nat.le_of_ble_eq_true rfl)⟩ dX12_termOf_11 ?_
  rintro _ _ ⟨rfl, rfl⟩
  refine ab_bipush (v := 42) dX12_termOf_14 (by decide) ?_
  refine ab_callS (Q' := fun r h' => r = some (.int (f_X12_sign 42)) ∧ h = h') (As := [.int 42]) (c_X12_sign hs 42 ⟨rfl, rfl⟩) (Y_X12_sign) l_X12_278 st_X12_sign rfl ⟨(show 1 + 1 ≤ d by omega), (Nat.le_of_ble_eq_true rfl), (Nat.le_of_ble_eq_true rfl), (Nat.le_of_ble_eq_true rfl)⟩ dX12_termOf_16 ?_
  rintro _ _ ⟨rfl, rfl⟩
  refine ab_icmp_eq (tgt := 54) dX12_termOf_19 (by decide) (fun c5 => ?_) (fun c5 => ?_)
  · have ht := ht.1 c5
    exact Wp.fewer (L' := [some (.ref 82), some (.int x1), some (.long x2), none, none, none, none]) (show ab_leL _ _ from ⟨rfl, ⟨rfl, ⟨rfl, trivial⟩⟩⟩) ht
  · have ht := ht.2 c5
    refine ab_aload_n (i := 0) dX12_termOf_22 rfl rfl ?_
    refine ab_aload_n (i := 0) dX12_termOf_23 rfl rfl ?_
    refine ab_getI f_X12_309 rfl (sh_k hs 82 12 (by decide) rfl) dX12_termOf_24 ?_
    obtain ⟨hc6, ht⟩ := ht
    refine ab_callV (b := 82) (Q' := fun r h' => r = some (.int (f_X12_codeAt h (ah_i h 82 20))) ∧ h = h') (As := [.int (ah_i h 82 20)]) (c_X12_codeAt hs (ah_i h 82 20)  hc6 ⟨rfl, rfl⟩) (Y_X12_codeAt) l_X12_312 in_X12_codeAt se_X12_codeAt (sh_k hs 82 12 (by decide) rfl) (by decide) rfl rfl ⟨(show 1 + 1 ≤ d by omega), (Nat.le_of_ble_eq_true rfl), (Nat.le_of_ble_eq_true rfl), (Nat.le_of_ble_eq_true rfl)⟩ dX12_termOf_27 ?_
    rintro _ _ ⟨rfl, rfl⟩
    refine ab_bipush (v := 47) dX12_termOf_30 (by decide) ?_
    refine ab_callS (Q' := fun r h' => r = some (.int (f_X12_sign 47)) ∧ h = h') (As := [.int 47]) (c_X12_sign hs 47 ⟨rfl, rfl⟩) (Y_X12_sign) l_X12_278 st_X12_sign rfl ⟨(show 1 + 1 ≤ d by omega), (Nat.le_of_ble_eq_true rfl), (Nat.le_of_ble_eq_true rfl), (Nat.le_of_ble_eq_true rfl)⟩ dX12_termOf_32 ?_
    rintro _ _ ⟨rfl, rfl⟩
    refine ab_icmp_eq (tgt := 54) dX12_termOf_35 (by decide) (fun c7 => ?_) (fun c7 => ?_)
    · have ht := ht.1 c7
      exact Wp.fewer (L' := [some (.ref 82), some (.int x1), some (.long x2), none, none, none, none]) (show ab_leL _ _ from ⟨rfl, ⟨rfl, ⟨rfl, trivial⟩⟩⟩) ht
    · have ht := ht.2 c7
      refine ab_aload_n (i := 0) dX12_termOf_38 rfl rfl ?_
      refine ab_aload_n (i := 0) dX12_termOf_39 rfl rfl ?_
      refine ab_getI f_X12_309 rfl (sh_k hs 82 12 (by decide) rfl) dX12_termOf_40 ?_
      obtain ⟨hc8, ht⟩ := ht
      refine ab_callV (b := 82) (Q' := fun r h' => r = some (.int (f_X12_codeAt h (ah_i h 82 20))) ∧ h = h') (As := [.int (ah_i h 82 20)]) (c_X12_codeAt hs (ah_i h 82 20)  hc8 ⟨rfl, rfl⟩) (Y_X12_codeAt) l_X12_312 in_X12_codeAt se_X12_codeAt (sh_k hs 82 12 (by decide) rfl) (by decide) rfl rfl ⟨(show 1 + 1 ≤ d by omega), (Nat.le_of_ble_eq_true rfl), (Nat.le_of_ble_eq_true rfl), (Nat.le_of_ble_eq_true rfl)⟩ dX12_termOf_43 ?_
      rintro _ _ ⟨rfl, rfl⟩
      refine ab_bipush (v := 37) dX12_termOf_46 (by decide) ?_
      refine ab_callS (Q' := fun r h' => r = some (.int (f_X12_sign 37)) ∧ h = h') (As := [.int 37]) (c_X12_sign hs 37 ⟨rfl, rfl⟩) (Y_X12_sign) l_X12_278 st_X12_sign rfl ⟨(show 1 + 1 ≤ d by omega), (Nat.le_of_ble_eq_true rfl), (Nat.le_of_ble_eq_true rfl), (Nat.le_of_ble_eq_true rfl)⟩ dX12_termOf_48 ?_
      rintro _ _ ⟨rfl, rfl⟩
      refine ab_icmp_ne (tgt := 168) dX12_termOf_51 (by decide) (fun c9 => ?_) (fun c9 => ?_)
      · have ht := ht.1 c9
        refine ab_lload_n (i := 2) dX12_termOf_168 rfl rfl ?_
        exact ab_lret rfl dX12_termOf_169 (Nat.le_of_ble_eq_true rfl) (Nat.le_of_ble_eq_true rfl) ht
      · have ht := ht.2 c9
        exact Wp.fewer (L' := [some (.ref 82), some (.int x1), some (.long x2), none, none, none, none]) (show ab_leL _ _ from ⟨rfl, ⟨rfl, ⟨rfl, trivial⟩⟩⟩) ht
set_option maxRecDepth 20000 in
theorem T_X12_termOf_54 {d : Nat} (hd : 8 ≤ d) {Q : Option Value → ah_T → Prop} {h : ah_T} (hs : Sh h) (x1 : Int32) (x2 : Int64) (ht : ((¬ (ah_i h 82 21) ≤ (ah_i h 82 20) → vp_in (260 + (ah_i h 82 20)) (ah_n h 84))) ∧ (∀ h11, h11 = ah_si h 82 20 ((ah_i h 82 20) + 1) → (Mt (mX12_partOf (d - 1)) [.ref 82, .int x1] h11 (ab_ql fun v16 h14 => Sh h14 ∧ (((f_X12_codeAt h (ah_i h 82 20)) = (f_X12_sign 42) → Wp (mX12_termOf d) Q 0 0 121 [some (.ref 82), some (.int x1), some (.long x2), none, some (.int (f_X12_codeAt h (ah_i h 82 20))), some (.long v16), none] [] h14) ∧ (¬ (f_X12_codeAt h (ah_i h 82 20)) = (f_X12_sign 42) → ((¬ (lg_cmp v16 (0 : Int64)) = 0 → Wp (mX12_termOf d) Q 0 0 121 [some (.ref 82), some (.int x1), some (.long x2), none, some (.int (f_X12_codeAt h (ah_i h 82 20))), some (.long v16), none] [] h14) ∧ ((lg_cmp v16 (0 : Int64)) = 0 → ((¬ (ah_i h14 82 22) = 0 → (∀ h20, h20 = ah_si h14 82 22 1 → Wp (mX12_termOf d) Q 0 0 121 [some (.ref 82), some (.int x1), some (.long x2), none, some (.int (f_X12_codeAt h (ah_i h 82 20))), some (.long (1 : Int64)), none] [] h20)) ∧ ((ah_i h14 82 22) = 0 → ((x1 = 0 → (∀ h24, h24 = ah_si h14 82 22 0 → Wp (mX12_termOf d) Q 0 0 121 [some (.ref 82), some (.int x1), some (.long x2), none, some (.int (f_X12_codeAt h (ah_i h 82 20))), some (.long (1 : Int64)), none] [] h24)) ∧ (¬ x1 = 0 → (∀ h27, h27 = ah_si h14 82 22 1 → Wp (mX12_termOf d) Q 0 0 121 [some (.ref 82), some (.int x1), some (.long x2), none, some (.int (f_X12_codeAt h (ah_i h 82 20))), some (.long (1 : Int64)), none] [] h27))))))))))))) : Wp (mX12_termOf d) Q 0 0 54 [some (.ref 82), some (.int x1), some (.long x2), none, none, none, none] [] h := by
  refine ab_aload_n (i := 0) dX12_termOf_54 rfl rfl ?_
  refine ab_aload_n (i := 0) dX12_termOf_55 rfl rfl ?_
  refine ab_getI f_X12_309 rfl (sh_k hs 82 12 (by decide) rfl) dX12_termOf_56 ?_
  obtain ⟨hc10, ht⟩ := ht
  refine ab_callV (b := 82) (Q' := fun r h' => r = some (.int (f_X12_codeAt h (ah_i h 82 20))) ∧ h = h') (As := [.int (ah_i h 82 20)]) (c_X12_codeAt hs (ah_i h 82 20)  hc10 ⟨rfl, rfl⟩) (Y_X12_codeAt) l_X12_312 in_X12_codeAt se_X12_codeAt (sh_k hs 82 12 (by decide) rfl) (by decide) rfl rfl ⟨(show 1 + 1 ≤ d by omega), (Nat.le_of_ble_eq_true rfl), (Nat.le_of_ble_eq_true rfl), (Nat.le_of_ble_eq_true rfl)⟩ dX12_termOf_59 ?_
  rintro _ _ ⟨rfl, rfl⟩
  refine ab_istore (i := 4) (L' := [some (.ref 82), some (.int x1), some (.long x2), none, some (.int (f_X12_codeAt h (ah_i h 82 20))), none, none]) dX12_termOf_62 (by exact (Nat.le_of_ble_eq_true rfl)) rfl rfl ?_
  refine ab_aload_n (i := 0) dX12_termOf_64 rfl rfl ?_
  refine ab_dup dX12_termOf_65 rfl ?_
  refine ab_getI f_X12_309 rfl (sh_k hs 82 12 (by decide) rfl) dX12_termOf_66 ?_
  refine ab_iconst (v := 1) dX12_termOf_69 (by decide) ?_
  refine ab_iadd dX12_termOf_70 ?_
  refine ab_putI f_X12_309 (Or.inl rfl) rfl (sh_k hs 82 12 (by decide) rfl) rfl rfl dX12_termOf_71 ?_
  refine Wp.nm fun h11 e12 => ?_
  have ht := ht h11 e12
  have hs13 : Sh h11 := by rw [e12]; exact sh_si hs
  refine ab_aload_n (i := 0) dX12_termOf_74 rfl rfl ?_
  refine ab_iload_n (i := 1) dX12_termOf_75 rfl rfl ?_
  refine ab_callV (b := 82) (As := [.int x1]) ht (Y_X12_partOf _) l_X12_330 in_X12_partOf se_X12_partOf (sh_k hs13 82 12 (by decide) rfl) (by decide) rfl rfl ⟨(show d - 1 + 1 ≤ d by omega), (Nat.le_of_ble_eq_true rfl), (Nat.le_of_ble_eq_true rfl), (Nat.le_of_ble_eq_true rfl)⟩ dX12_termOf_76 ?_
  rintro _ h14 ⟨v16, rfl, hs15, ht⟩
  refine ab_lstore (i := 5) (L' := [some (.ref 82), some (.int x1), some (.long x2), none, some (.int (f_X12_codeAt h (ah_i h 82 20))), some (.long v16), none]) dX12_termOf_79 (by exact (Nat.le_of_ble_eq_true rfl)) rfl rfl ?_
  refine ab_iload (i := 4) dX12_termOf_81 rfl ?_
  refine ab_bipush (v := 42) dX12_termOf_83 (by decide) ?_
  refine ab_callS (Q' := fun r h' => r = some (.int (f_X12_sign 42)) ∧ h14 = h') (As := [.int 42]) (c_X12_sign hs15 42 ⟨rfl, rfl⟩) (Y_X12_sign) l_X12_278 st_X12_sign rfl ⟨(show 1 + 1 ≤ d by omega), (Nat.le_of_ble_eq_true rfl), (Nat.le_of_ble_eq_true rfl), (Nat.le_of_ble_eq_true rfl)⟩ dX12_termOf_85 ?_
  rintro _ _ ⟨rfl, rfl⟩
  refine ab_icmp_eq (tgt := 121) dX12_termOf_88 (by decide) (fun c17 => ?_) (fun c17 => ?_)
  · have ht := ht.1 c17
    exact Wp.fewer (L' := [some (.ref 82), some (.int x1), some (.long x2), none, some (.int (f_X12_codeAt h (ah_i h 82 20))), some (.long v16), none]) (show ab_leL _ _ from ⟨rfl, ⟨rfl, ⟨rfl, ⟨rfl, ⟨rfl, trivial⟩⟩⟩⟩⟩) ht
  · have ht := ht.2 c17
    refine ab_lload (i := 5) dX12_termOf_91 rfl ?_
    refine ab_lconst (v := 0) dX12_termOf_93 (by decide) ?_
    refine ab_lcmp dX12_termOf_94 ?_
    refine ab_if_ne (tgt := 121) dX12_termOf_95 (by decide) (fun c18 => ?_) (fun c18 => ?_)
    · have ht := ht.1 c18
      exact Wp.fewer (L' := [some (.ref 82), some (.int x1), some (.long x2), none, some (.int (f_X12_codeAt h (ah_i h 82 20))), some (.long v16), none]) (show ab_leL _ _ from ⟨rfl, ⟨rfl, ⟨rfl, ⟨rfl, ⟨rfl, trivial⟩⟩⟩⟩⟩) ht
    · have ht := ht.2 c18
      refine ab_aload_n (i := 0) dX12_termOf_98 rfl rfl ?_
      refine ab_aload_n (i := 0) dX12_termOf_99 rfl rfl ?_
      refine ab_getI f_X12_319 rfl (sh_k hs15 82 12 (by decide) rfl) dX12_termOf_100 ?_
      refine ab_if_ne (tgt := 110) dX12_termOf_103 (by decide) (fun c19 => ?_) (fun c19 => ?_)
      · have ht := ht.1 c19
        refine ab_iconst (v := 1) dX12_termOf_110 (by decide) ?_
        refine ab_goto (tgt := 115) dX12_termOf_111 (by decide) ?_
        refine ab_putI f_X12_319 (Or.inl rfl) rfl (sh_k hs15 82 12 (by decide) rfl) rfl rfl dX12_termOf_115 ?_
        refine Wp.nm fun h20 e21 => ?_
        have ht := ht h20 e21
        have hs22 : Sh h20 := by rw [e21]; exact sh_si hs15
        refine ab_lconst (v := 1) dX12_termOf_118 (by decide) ?_
        refine ab_lstore (i := 5) (L' := [some (.ref 82), some (.int x1), some (.long x2), none, some (.int (f_X12_codeAt h (ah_i h 82 20))), some (.long (1 : Int64)), none]) dX12_termOf_119 (by exact (Nat.le_of_ble_eq_true rfl)) rfl rfl ?_
        exact Wp.fewer (L' := [some (.ref 82), some (.int x1), some (.long x2), none, some (.int (f_X12_codeAt h (ah_i h 82 20))), some (.long (1 : Int64)), none]) (show ab_leL _ _ from ⟨rfl, ⟨rfl, ⟨rfl, ⟨rfl, ⟨rfl, trivial⟩⟩⟩⟩⟩) ht
      · have ht := ht.2 c19
        refine ab_iload_n (i := 1) dX12_termOf_106 rfl rfl ?_
        refine ab_if_eq (tgt := 114) dX12_termOf_107 (by decide) (fun c23 => ?_) (fun c23 => ?_)
        · have ht := ht.1 c23
          refine ab_iconst (v := 0) dX12_termOf_114 (by decide) ?_
          refine ab_putI f_X12_319 (Or.inl rfl) rfl (sh_k hs15 82 12 (by decide) rfl) rfl rfl dX12_termOf_115 ?_
          refine Wp.nm fun h24 e25 => ?_
          have ht := ht h24 e25
          have hs26 : Sh h24 := by rw [e25]; exact sh_si hs15
          refine ab_lconst (v := 1) dX12_termOf_118 (by decide) ?_
          refine ab_lstore (i := 5) (L' := [some (.ref 82), some (.int x1), some (.long x2), none, some (.int (f_X12_codeAt h (ah_i h 82 20))), some (.long (1 : Int64)), none]) dX12_termOf_119 (by exact (Nat.le_of_ble_eq_true rfl)) rfl rfl ?_
          exact Wp.fewer (L' := [some (.ref 82), some (.int x1), some (.long x2), none, some (.int (f_X12_codeAt h (ah_i h 82 20))), some (.long (1 : Int64)), none]) (show ab_leL _ _ from ⟨rfl, ⟨rfl, ⟨rfl, ⟨rfl, ⟨rfl, trivial⟩⟩⟩⟩⟩) ht
        · have ht := ht.2 c23
          refine ab_iconst (v := 1) dX12_termOf_110 (by decide) ?_
          refine ab_goto (tgt := 115) dX12_termOf_111 (by decide) ?_
          refine ab_putI f_X12_319 (Or.inl rfl) rfl (sh_k hs15 82 12 (by decide) rfl) rfl rfl dX12_termOf_115 ?_
          refine Wp.nm fun h27 e28 => ?_
          have ht := ht h27 e28
          have hs29 : Sh h27 := by rw [e28]; exact sh_si hs15
          refine ab_lconst (v := 1) dX12_termOf_118 (by decide) ?_
          refine ab_lstore (i := 5) (L' := [some (.ref 82), some (.int x1), some (.long x2), none, some (.int (f_X12_codeAt h (ah_i h 82 20))), some (.long (1 : Int64)), none]) dX12_termOf_119 (by exact (Nat.le_of_ble_eq_true rfl)) rfl rfl ?_
          exact Wp.fewer (L' := [some (.ref 82), some (.int x1), some (.long x2), none, some (.int (f_X12_codeAt h (ah_i h 82 20))), some (.long (1 : Int64)), none]) (show ab_leL _ _ from ⟨rfl, ⟨rfl, ⟨rfl, ⟨rfl, ⟨rfl, trivial⟩⟩⟩⟩⟩) ht
set_option maxRecDepth 20000 in
theorem T_X12_termOf_121 {d : Nat} (hd : 8 ≤ d) {Q : Option Value → ah_T → Prop} {h : ah_T} (hs : Sh h) (x1 : Int32) (x2 : Int64) (x4 : Int32) (x5 : Int64) (ht : ((¬ x4 = (f_X12_sign 42) → ((¬ x4 = (f_X12_sign 47) → (¬ x5 = 0) ∧ (Mt mX12_bounded [.ref 82, .long (x2 - x2 / x5 * x5), .int x1] h (ab_ql fun v35 h33 => Sh h33 ∧ Wp (mX12_termOf d) Q 0 0 6 [some (.ref 82), some (.int x1), some (.long v35), none, none, none, none] [] h33))) ∧ (x4 = (f_X12_sign 47) → (¬ x5 = 0) ∧ (Mt mX12_bounded [.ref 82, .long (x2 / x5), .int x1] h (ab_ql fun v39 h37 => Sh h37 ∧ Wp (mX12_termOf d) Q 0 0 6 [some (.ref 82), some (.int x1), some (.long v39), none, none, none, none] [] h37))))) ∧ (x4 = (f_X12_sign 42) → (Mt mX12_bounded [.ref 82, .long (x2 * x5), .int x1] h (ab_ql fun v42 h40 => Sh h40 ∧ Wp (mX12_termOf d) Q 0 0 6 [some (.ref 82), some (.int x1), some (.long v42), none, none, none, none] [] h40))))) : Wp (mX12_termOf d) Q 0 0 121 [some (.ref 82), some (.int x1), some (.long x2), none, some (.int x4), some (.long x5), none] [] h := by
  refine ab_aload_n (i := 0) dX12_termOf_121 rfl rfl ?_
  refine ab_iload (i := 4) dX12_termOf_122 rfl ?_
  refine ab_bipush (v := 42) dX12_termOf_124 (by decide) ?_
  refine ab_callS (Q' := fun r h' => r = some (.int (f_X12_sign 42)) ∧ h = h') (As := [.int 42]) (c_X12_sign hs 42 ⟨rfl, rfl⟩) (Y_X12_sign) l_X12_278 st_X12_sign rfl ⟨(show 1 + 1 ≤ d by omega), (Nat.le_of_ble_eq_true rfl), (Nat.le_of_ble_eq_true rfl), (Nat.le_of_ble_eq_true rfl)⟩ dX12_termOf_126 ?_
  rintro _ _ ⟨rfl, rfl⟩
  refine ab_icmp_ne (tgt := 139) dX12_termOf_129 (by decide) (fun c30 => ?_) (fun c30 => ?_)
  · have ht := ht.1 c30
    refine ab_iload (i := 4) dX12_termOf_139 rfl ?_
    refine ab_bipush (v := 47) dX12_termOf_141 (by decide) ?_
    refine ab_callS (Q' := fun r h' => r = some (.int (f_X12_sign 47)) ∧ h = h') (As := [.int 47]) (c_X12_sign hs 47 ⟨rfl, rfl⟩) (Y_X12_sign) l_X12_278 st_X12_sign rfl ⟨(show 1 + 1 ≤ d by omega), (Nat.le_of_ble_eq_true rfl), (Nat.le_of_ble_eq_true rfl), (Nat.le_of_ble_eq_true rfl)⟩ dX12_termOf_143 ?_
    rintro _ _ ⟨rfl, rfl⟩
    refine ab_icmp_ne (tgt := 156) dX12_termOf_146 (by decide) (fun c31 => ?_) (fun c31 => ?_)
    · have ht := ht.1 c31
      refine ab_lload_n (i := 2) dX12_termOf_156 rfl rfl ?_
      refine ab_lload (i := 5) dX12_termOf_157 rfl ?_
      obtain ⟨hc32, ht⟩ := ht
      refine ab_lrem dX12_termOf_159 hc32 ?_
      refine ab_iload_n (i := 1) dX12_termOf_160 rfl rfl ?_
      refine ab_callV (b := 82) (As := [.long (x2 - x2 / x5 * x5), .int x1]) ht (Y_X12_bounded) l_X12_326 in_X12_bounded se_X12_bounded (sh_k hs 82 12 (by decide) rfl) (by decide) rfl rfl ⟨(show 1 + 1 ≤ d by omega), (Nat.le_of_ble_eq_true rfl), (Nat.le_of_ble_eq_true rfl), (Nat.le_of_ble_eq_true rfl)⟩ dX12_termOf_161 ?_
      rintro _ h33 ⟨v35, rfl, hs34, ht⟩
      refine ab_lstore_n (i := 2) (L' := [some (.ref 82), some (.int x1), some (.long v35), none, some (.int x4), some (.long x5), none]) dX12_termOf_164 rfl (by exact (Nat.le_of_ble_eq_true rfl)) rfl rfl ?_
      refine ab_goto (tgt := 6) dX12_termOf_165 (by decide) ?_
      exact Wp.fewer (L' := [some (.ref 82), some (.int x1), some (.long v35), none, none, none, none]) (show ab_leL _ _ from ⟨rfl, ⟨rfl, ⟨rfl, trivial⟩⟩⟩) ht
    · have ht := ht.2 c31
      refine ab_lload_n (i := 2) dX12_termOf_149 rfl rfl ?_
      refine ab_lload (i := 5) dX12_termOf_150 rfl ?_
      obtain ⟨hc36, ht⟩ := ht
      refine ab_ldiv dX12_termOf_152 hc36 ?_
      refine ab_goto (tgt := 160) dX12_termOf_153 (by decide) ?_
      refine ab_iload_n (i := 1) dX12_termOf_160 rfl rfl ?_
      refine ab_callV (b := 82) (As := [.long (x2 / x5), .int x1]) ht (Y_X12_bounded) l_X12_326 in_X12_bounded se_X12_bounded (sh_k hs 82 12 (by decide) rfl) (by decide) rfl rfl ⟨(show 1 + 1 ≤ d by omega), (Nat.le_of_ble_eq_true rfl), (Nat.le_of_ble_eq_true rfl), (Nat.le_of_ble_eq_true rfl)⟩ dX12_termOf_161 ?_
      rintro _ h37 ⟨v39, rfl, hs38, ht⟩
      refine ab_lstore_n (i := 2) (L' := [some (.ref 82), some (.int x1), some (.long v39), none, some (.int x4), some (.long x5), none]) dX12_termOf_164 rfl (by exact (Nat.le_of_ble_eq_true rfl)) rfl rfl ?_
      refine ab_goto (tgt := 6) dX12_termOf_165 (by decide) ?_
      exact Wp.fewer (L' := [some (.ref 82), some (.int x1), some (.long v39), none, none, none, none]) (show ab_leL _ _ from ⟨rfl, ⟨rfl, ⟨rfl, trivial⟩⟩⟩) ht
  · have ht := ht.2 c30
    refine ab_lload_n (i := 2) dX12_termOf_132 rfl rfl ?_
    refine ab_lload (i := 5) dX12_termOf_133 rfl ?_
    refine ab_lmul dX12_termOf_135 ?_
    refine ab_goto (tgt := 160) dX12_termOf_136 (by decide) ?_
    refine ab_iload_n (i := 1) dX12_termOf_160 rfl rfl ?_
    refine ab_callV (b := 82) (As := [.long (x2 * x5), .int x1]) ht (Y_X12_bounded) l_X12_326 in_X12_bounded se_X12_bounded (sh_k hs 82 12 (by decide) rfl) (by decide) rfl rfl ⟨(show 1 + 1 ≤ d by omega), (Nat.le_of_ble_eq_true rfl), (Nat.le_of_ble_eq_true rfl), (Nat.le_of_ble_eq_true rfl)⟩ dX12_termOf_161 ?_
    rintro _ h40 ⟨v42, rfl, hs41, ht⟩
    refine ab_lstore_n (i := 2) (L' := [some (.ref 82), some (.int x1), some (.long v42), none, some (.int x4), some (.long x5), none]) dX12_termOf_164 rfl (by exact (Nat.le_of_ble_eq_true rfl)) rfl rfl ?_
    refine ab_goto (tgt := 6) dX12_termOf_165 (by decide) ?_
    exact Wp.fewer (L' := [some (.ref 82), some (.int x1), some (.long v42), none, none, none, none]) (show ab_leL _ _ from ⟨rfl, ⟨rfl, ⟨rfl, trivial⟩⟩⟩) ht
set_option maxRecDepth 20000 in
theorem T_X12_termOf {d : Nat} (hd : 8 ≤ d) {Q : Option Value → ah_T → Prop} {h : ah_T} (hs : Sh h) (x1 : Int32) (ht : (Mt (mX12_partOf (d - 1)) [.ref 82, .int x1] h (ab_ql fun v3 h1 => Sh h1 ∧ Wp (mX12_termOf d) Q 0 0 6 [some (.ref 82), some (.int x1), some (.long v3), none, none, none, none] [] h1))) : Mt (mX12_termOf d) [.ref 82, .int x1] h Q := by
  refine Mt.ofWp rfl (by exact (Nat.le_of_ble_eq_true rfl)) (Wp.fewer (L' := [some (.ref 82), some (.int x1), none, none, none, none, none]) (show ab_leL _ _ from ⟨rfl, ⟨rfl, trivial⟩⟩) ?_)
  refine ab_aload_n (i := 0) dX12_termOf_0 rfl rfl ?_
  refine ab_iload_n (i := 1) dX12_termOf_1 rfl rfl ?_
  refine ab_callV (b := 82) (As := [.int x1]) ht (Y_X12_partOf _) l_X12_330 in_X12_partOf se_X12_partOf (sh_k hs 82 12 (by decide) rfl) (by decide) rfl rfl ⟨(show d - 1 + 1 ≤ d by omega), (Nat.le_of_ble_eq_true rfl), (Nat.le_of_ble_eq_true rfl), (Nat.le_of_ble_eq_true rfl)⟩ dX12_termOf_2 ?_
  rintro _ h1 ⟨v3, rfl, hs2, ht⟩
  refine ab_lstore_n (i := 2) (L' := [some (.ref 82), some (.int x1), some (.long v3), none, none, none, none]) dX12_termOf_5 rfl (by exact (Nat.le_of_ble_eq_true rfl)) rfl rfl ?_
  exact Wp.fewer (L' := [some (.ref 82), some (.int x1), some (.long v3), none, none, none, none]) (show ab_leL _ _ from ⟨rfl, ⟨rfl, ⟨rfl, trivial⟩⟩⟩) ht
theorem dX12_partOf_0 : decode cX12_partOf 0 = .ok (.aload_n 0, 1) := by decide +kernel
theorem dX12_partOf_1 : decode cX12_partOf 1 = .ok (.bipush 91, 2) := by decide +kernel
theorem dX12_partOf_3 : decode cX12_partOf 3 = .ok (.invokestatic 278, 3) := by decide +kernel
theorem dX12_partOf_6 : decode cX12_partOf 6 = .ok (.invokevirtual 333, 3) := by decide +kernel
theorem dX12_partOf_9 : decode cX12_partOf 9 = .ok (.ifCond .eq 21, 3) := by decide +kernel
theorem dX12_partOf_12 : decode cX12_partOf 12 = .ok (.aload_n 0, 1) := by decide +kernel
theorem dX12_partOf_13 : decode cX12_partOf 13 = .ok (.iload_n 1, 1) := by decide +kernel
theorem dX12_partOf_14 : decode cX12_partOf 14 = .ok (.invokevirtual 336, 3) := by decide +kernel
theorem dX12_partOf_17 : decode cX12_partOf 17 = .ok (.lstore_n 2, 1) := by decide +kernel
theorem dX12_partOf_18 : decode cX12_partOf 18 = .ok (.aload_n 0, 1) := by decide +kernel
theorem dX12_partOf_19 : decode cX12_partOf 19 = .ok (.dup, 1) := by decide +kernel
theorem dX12_partOf_20 : decode cX12_partOf 20 = .ok (.getfield 309, 3) := by decide +kernel
theorem dX12_partOf_23 : decode cX12_partOf 23 = .ok (.iconst 1, 1) := by decide +kernel
theorem dX12_partOf_24 : decode cX12_partOf 24 = .ok (.iadd, 1) := by decide +kernel
theorem dX12_partOf_25 : decode cX12_partOf 25 = .ok (.putfield 309, 3) := by decide +kernel
theorem dX12_partOf_28 : decode cX12_partOf 28 = .ok (.lload_n 2, 1) := by decide +kernel
theorem dX12_partOf_29 : decode cX12_partOf 29 = .ok (.lreturn, 1) := by decide +kernel
theorem dX12_partOf_30 : decode cX12_partOf 30 = .ok (.aload_n 0, 1) := by decide +kernel
theorem dX12_partOf_31 : decode cX12_partOf 31 = .ok (.aload_n 0, 1) := by decide +kernel
theorem dX12_partOf_32 : decode cX12_partOf 32 = .ok (.getfield 309, 3) := by decide +kernel
theorem dX12_partOf_35 : decode cX12_partOf 35 = .ok (.invokevirtual 312, 3) := by decide +kernel
theorem dX12_partOf_38 : decode cX12_partOf 38 = .ok (.istore_n 2, 1) := by decide +kernel
theorem dX12_partOf_39 : decode cX12_partOf 39 = .ok (.aload_n 0, 1) := by decide +kernel
theorem dX12_partOf_40 : decode cX12_partOf 40 = .ok (.dup, 1) := by decide +kernel
theorem dX12_partOf_41 : decode cX12_partOf 41 = .ok (.getfield 309, 3) := by decide +kernel
theorem dX12_partOf_44 : decode cX12_partOf 44 = .ok (.iconst 1, 1) := by decide +kernel
theorem dX12_partOf_45 : decode cX12_partOf 45 = .ok (.iadd, 1) := by decide +kernel
theorem dX12_partOf_46 : decode cX12_partOf 46 = .ok (.putfield 309, 3) := by decide +kernel
theorem dX12_partOf_49 : decode cX12_partOf 49 = .ok (.iload_n 1, 1) := by decide +kernel
theorem dX12_partOf_50 : decode cX12_partOf 50 = .ok (.ifCond .eq 10, 3) := by decide +kernel
theorem dX12_partOf_53 : decode cX12_partOf 53 = .ok (.aload_n 0, 1) := by decide +kernel
theorem dX12_partOf_54 : decode cX12_partOf 54 = .ok (.getfield 319, 3) := by decide +kernel
theorem dX12_partOf_57 : decode cX12_partOf 57 = .ok (.ifCond .eq 5, 3) := by decide +kernel
theorem dX12_partOf_60 : decode cX12_partOf 60 = .ok (.lconst 0, 1) := by decide +kernel
theorem dX12_partOf_61 : decode cX12_partOf 61 = .ok (.lreturn, 1) := by decide +kernel
theorem dX12_partOf_62 : decode cX12_partOf 62 = .ok (.iload_n 2, 1) := by decide +kernel
theorem dX12_partOf_63 : decode cX12_partOf 63 = .ok (.bipush 50, 2) := by decide +kernel
theorem dX12_partOf_65 : decode cX12_partOf 65 = .ok (.if_icmp .ne 20, 3) := by decide +kernel
theorem dX12_partOf_68 : decode cX12_partOf 68 = .ok (.aload_n 0, 1) := by decide +kernel
theorem dX12_partOf_69 : decode cX12_partOf 69 = .ok (.getfield 20, 3) := by decide +kernel
theorem dX12_partOf_72 : decode cX12_partOf 72 = .ok (.sipush 3060, 3) := by decide +kernel
theorem dX12_partOf_75 : decode cX12_partOf 75 = .ok (.aload_n 0, 1) := by decide +kernel
theorem dX12_partOf_76 : decode cX12_partOf 76 = .ok (.getfield 309, 3) := by decide +kernel
theorem dX12_partOf_79 : decode cX12_partOf 79 = .ok (.iadd, 1) := by decide +kernel
theorem dX12_partOf_80 : decode cX12_partOf 80 = .ok (.iconst 1, 1) := by decide +kernel
theorem dX12_partOf_81 : decode cX12_partOf 81 = .ok (.isub, 1) := by decide +kernel
theorem dX12_partOf_82 : decode cX12_partOf 82 = .ok (.iaload, 1) := by decide +kernel
theorem dX12_partOf_83 : decode cX12_partOf 83 = .ok (.i2l, 1) := by decide +kernel
theorem dX12_partOf_84 : decode cX12_partOf 84 = .ok (.lreturn, 1) := by decide +kernel
theorem dX12_partOf_85 : decode cX12_partOf 85 = .ok (.aload_n 0, 1) := by decide +kernel
theorem dX12_partOf_86 : decode cX12_partOf 86 = .ok (.getfield 339, 3) := by decide +kernel
theorem dX12_partOf_89 : decode cX12_partOf 89 = .ok (.ifCond .ne 14, 3) := by decide +kernel
theorem dX12_partOf_92 : decode cX12_partOf 92 = .ok (.aload_n 0, 1) := by decide +kernel
theorem dX12_partOf_93 : decode cX12_partOf 93 = .ok (.getfield 52, 3) := by decide +kernel
theorem dX12_partOf_96 : decode cX12_partOf 96 = .ok (.iload_n 2, 1) := by decide +kernel
theorem dX12_partOf_97 : decode cX12_partOf 97 = .ok (.bipush 8, 2) := by decide +kernel
theorem dX12_partOf_99 : decode cX12_partOf 99 = .ok (.isub, 1) := by decide +kernel
theorem dX12_partOf_100 : decode cX12_partOf 100 = .ok (.iaload, 1) := by decide +kernel
theorem dX12_partOf_101 : decode cX12_partOf 101 = .ok (.i2l, 1) := by decide +kernel
theorem dX12_partOf_102 : decode cX12_partOf 102 = .ok (.lreturn, 1) := by decide +kernel
theorem dX12_partOf_103 : decode cX12_partOf 103 = .ok (.iload_n 2, 1) := by decide +kernel
theorem dX12_partOf_104 : decode cX12_partOf 104 = .ok (.bipush 14, 2) := by decide +kernel
theorem dX12_partOf_106 : decode cX12_partOf 106 = .ok (.if_icmp .ne 15, 3) := by decide +kernel
theorem dX12_partOf_109 : decode cX12_partOf 109 = .ok (.aload_n 0, 1) := by decide +kernel
theorem dX12_partOf_110 : decode cX12_partOf 110 = .ok (.getfield 20, 3) := by decide +kernel
theorem dX12_partOf_113 : decode cX12_partOf 113 = .ok (.sipush 242, 3) := by decide +kernel
theorem dX12_partOf_116 : decode cX12_partOf 116 = .ok (.iaload, 1) := by decide +kernel
theorem dX12_partOf_117 : decode cX12_partOf 117 = .ok (.i2l, 1) := by decide +kernel
theorem dX12_partOf_118 : decode cX12_partOf 118 = .ok (.goto 13, 3) := by decide +kernel
theorem dX12_partOf_121 : decode cX12_partOf 121 = .ok (.aload_n 0, 1) := by decide +kernel
theorem dX12_partOf_122 : decode cX12_partOf 122 = .ok (.getfield 55, 3) := by decide +kernel
theorem dX12_partOf_125 : decode cX12_partOf 125 = .ok (.iload_n 2, 1) := by decide +kernel
theorem dX12_partOf_126 : decode cX12_partOf 126 = .ok (.bipush 16, 2) := by decide +kernel
theorem dX12_partOf_128 : decode cX12_partOf 128 = .ok (.isub, 1) := by decide +kernel
theorem dX12_partOf_129 : decode cX12_partOf 129 = .ok (.iaload, 1) := by decide +kernel
theorem dX12_partOf_130 : decode cX12_partOf 130 = .ok (.i2l, 1) := by decide +kernel
theorem dX12_partOf_131 : decode cX12_partOf 131 = .ok (.lreturn, 1) := by decide +kernel
set_option maxRecDepth 20000 in
theorem T_X12_partOf {d : Nat} (hd : 8 ≤ d) {Q : Option Value → ah_T → Prop} {h : ah_T} (hs : Sh h) (x1 : Int32) (ht : (Mt mX12_passes0 [.ref 82, .int (f_X12_sign 91)] h (ab_qi fun v3 h1 => Sh h1 ∧ ((v3 = 0 → ((¬ (ah_i h1 82 21) ≤ (ah_i h1 82 20) → vp_in (260 + (ah_i h1 82 20)) (ah_n h1 84))) ∧ (∀ h6, h6 = ah_si h1 82 20 ((ah_i h1 82 20) + 1) → ((x1 = 0 → Q (some (.long (0 : Int64))) h6) ∧ (¬ x1 = 0 → (((ah_i h6 82 22) = 0 → ((¬ (f_X12_codeAt h1 (ah_i h1 82 20)) = 50 → ((¬ (ah_i h6 82 23) = 0 → ((¬ (f_X12_codeAt h1 (ah_i h1 82 20)) = 14 → (vp_in ((f_X12_codeAt h1 (ah_i h1 82 20)) - 16) (ah_n h6 94)) ∧ Q (some (.long (((ah_i h6 94 (Int32.toNatClampNeg ((f_X12_codeAt h1 (ah_i h1 82 20)) - 16)))).toInt64))) h6) ∧ ((f_X12_codeAt h1 (ah_i h1 82 20)) = 14 → Q (some (.long (((ah_i h6 84 (Int32.toNatClampNeg 242))).toInt64))) h6))) ∧ ((ah_i h6 82 23) = 0 → (vp_in ((f_X12_codeAt h1 (ah_i h1 82 20)) - 8) (ah_n h6 93)) ∧ Q (some (.long (((ah_i h6 93 (Int32.toNatClampNeg ((f_X12_codeAt h1 (ah_i h1 82 20)) - 8)))).toInt64))) h6))) ∧ ((f_X12_codeAt h1 (ah_i h1 82 20)) = 50 → (vp_in ((3060 + (ah_i h6 82 20)) - 1) (ah_n h6 84)) ∧ Q (some (.long (((ah_i h6 84 (Int32.toNatClampNeg ((3060 + (ah_i h6 82 20)) - 1)))).toInt64))) h6))) ∧ (¬ (ah_i h6 82 22) = 0 → Q (some (.long (0 : Int64))) h6)))))) ∧ (¬ v3 = 0 → (Mt (mX12_sumOf (d - 1)) [.ref 82, .int x1] h1 (ab_ql fun v19 h17 => Sh h17 ∧ (∀ h20, h20 = ah_si h17 82 20 ((ah_i h17 82 20) + 1) → Q (some (.long v19)) h20)))))))) : Mt (mX12_partOf d) [.ref 82, .int x1] h Q := by
  refine Mt.ofWp rfl (by exact (Nat.le_of_ble_eq_true rfl)) (Wp.fewer (L' := [some (.ref 82), some (.int x1), none, none]) (show ab_leL _ _ from ⟨rfl, ⟨rfl, trivial⟩⟩) ?_)
  refine ab_aload_n (i := 0) dX12_partOf_0 rfl rfl ?_
  refine ab_bipush (v := 91) dX12_partOf_1 (by decide) ?_
  refine ab_callS (Q' := fun r h' => r = some (.int (f_X12_sign 91)) ∧ h = h') (As := [.int 91]) (c_X12_sign hs 91 ⟨rfl, rfl⟩) (Y_X12_sign) l_X12_278 st_X12_sign rfl ⟨(show 1 + 1 ≤ d by omega), (Nat.le_of_ble_eq_true rfl), (Nat.le_of_ble_eq_true rfl), (Nat.le_of_ble_eq_true rfl)⟩ dX12_partOf_3 ?_
  rintro _ _ ⟨rfl, rfl⟩
  refine ab_callV (b := 82) (As := [.int (f_X12_sign 91)]) ht (Y_X12_passes0) l_X12_333 in_X12_passes0 se_X12_passes0 (sh_k hs 82 12 (by decide) rfl) (by decide) rfl rfl ⟨(show 2 + 1 ≤ d by omega), (Nat.le_of_ble_eq_true rfl), (Nat.le_of_ble_eq_true rfl), (Nat.le_of_ble_eq_true rfl)⟩ dX12_partOf_6 ?_
  rintro _ h1 ⟨v3, rfl, hs2, ht⟩
  refine ab_if_eq (tgt := 30) dX12_partOf_9 (by decide) (fun c4 => ?_) (fun c4 => ?_)
  · have ht := ht.1 c4
    refine ab_aload_n (i := 0) dX12_partOf_30 rfl rfl ?_
    refine ab_aload_n (i := 0) dX12_partOf_31 rfl rfl ?_
    refine ab_getI f_X12_309 rfl (sh_k hs2 82 12 (by decide) rfl) dX12_partOf_32 ?_
    obtain ⟨hc5, ht⟩ := ht
    refine ab_callV (b := 82) (Q' := fun r h' => r = some (.int (f_X12_codeAt h1 (ah_i h1 82 20))) ∧ h1 = h') (As := [.int (ah_i h1 82 20)]) (c_X12_codeAt hs2 (ah_i h1 82 20)  hc5 ⟨rfl, rfl⟩) (Y_X12_codeAt) l_X12_312 in_X12_codeAt se_X12_codeAt (sh_k hs2 82 12 (by decide) rfl) (by decide) rfl rfl ⟨(show 1 + 1 ≤ d by omega), (Nat.le_of_ble_eq_true rfl), (Nat.le_of_ble_eq_true rfl), (Nat.le_of_ble_eq_true rfl)⟩ dX12_partOf_35 ?_
    rintro _ _ ⟨rfl, rfl⟩
    refine ab_istore_n (i := 2) (L' := [some (.ref 82), some (.int x1), some (.int (f_X12_codeAt h1 (ah_i h1 82 20))), none]) dX12_partOf_38 rfl (by exact (Nat.le_of_ble_eq_true rfl)) rfl rfl ?_
    refine ab_aload_n (i := 0) dX12_partOf_39 rfl rfl ?_
    refine ab_dup dX12_partOf_40 rfl ?_
    refine ab_getI f_X12_309 rfl (sh_k hs2 82 12 (by decide) rfl) dX12_partOf_41 ?_
    refine ab_iconst (v := 1) dX12_partOf_44 (by decide) ?_
    refine ab_iadd dX12_partOf_45 ?_
    refine ab_putI f_X12_309 (Or.inl rfl) rfl (sh_k hs2 82 12 (by decide) rfl) rfl rfl dX12_partOf_46 ?_
    refine Wp.nm fun h6 e7 => ?_
    have ht := ht h6 e7
    have hs8 : Sh h6 := by rw [e7]; exact sh_si hs2
    refine ab_iload_n (i := 1) dX12_partOf_49 rfl rfl ?_
    refine ab_if_eq (tgt := 60) dX12_partOf_50 (by decide) (fun c9 => ?_) (fun c9 => ?_)
    · have ht := ht.1 c9
      refine ab_lconst (v := 0) dX12_partOf_60 (by decide) ?_
      exact ab_lret rfl dX12_partOf_61 (Nat.le_of_ble_eq_true rfl) (Nat.le_of_ble_eq_true rfl) ht
    · have ht := ht.2 c9
      refine ab_aload_n (i := 0) dX12_partOf_53 rfl rfl ?_
      refine ab_getI f_X12_319 rfl (sh_k hs8 82 12 (by decide) rfl) dX12_partOf_54 ?_
      refine ab_if_eq (tgt := 62) dX12_partOf_57 (by decide) (fun c10 => ?_) (fun c10 => ?_)
      · have ht := ht.1 c10
        refine ab_iload_n (i := 2) dX12_partOf_62 rfl rfl ?_
        refine ab_bipush (v := 50) dX12_partOf_63 (by decide) ?_
        refine ab_icmp_ne (tgt := 85) dX12_partOf_65 (by decide) (fun c11 => ?_) (fun c11 => ?_)
        · have ht := ht.1 c11
          refine ab_aload_n (i := 0) dX12_partOf_85 rfl rfl ?_
          refine ab_getI f_X12_339 rfl (sh_k hs8 82 12 (by decide) rfl) dX12_partOf_86 ?_
          refine ab_if_ne (tgt := 103) dX12_partOf_89 (by decide) (fun c12 => ?_) (fun c12 => ?_)
          · have ht := ht.1 c12
            refine ab_iload_n (i := 2) dX12_partOf_103 rfl rfl ?_
            refine ab_bipush (v := 14) dX12_partOf_104 (by decide) ?_
            refine ab_icmp_ne (tgt := 121) dX12_partOf_106 (by decide) (fun c13 => ?_) (fun c13 => ?_)
            · have ht := ht.1 c13
              refine ab_aload_n (i := 0) dX12_partOf_121 rfl rfl ?_
              refine ab_getR (b := 94) f_X12_55 rfl (sh_k hs8 82 12 (by decide) rfl) (sh_r hs8 110 rfl) dX12_partOf_122 ?_
              refine ab_iload_n (i := 2) dX12_partOf_125 rfl rfl ?_
              refine ab_bipush (v := 16) dX12_partOf_126 (by decide) ?_
              refine ab_isub dX12_partOf_128 ?_
              obtain ⟨hc14, ht⟩ := ht
              refine ab_iald (sh_k hs8 94 14 (by decide) rfl) hc14 dX12_partOf_129 ?_
              refine ab_i2l dX12_partOf_130 ?_
              exact ab_lret rfl dX12_partOf_131 (Nat.le_of_ble_eq_true rfl) (Nat.le_of_ble_eq_true rfl) ht
            · have ht := ht.2 c13
              refine ab_aload_n (i := 0) dX12_partOf_109 rfl rfl ?_
              refine ab_getR (b := 84) f_X12_20 rfl (sh_k hs8 82 12 (by decide) rfl) (sh_r hs8 100 rfl) dX12_partOf_110 ?_
              refine ab_sipush (v := 242) dX12_partOf_113 (by decide) ?_
              refine ab_iald (sh_k hs8 84 14 (by decide) rfl) (sh_in hs8 84 5860 (by decide) (by decide) rfl (by unfold vp_in; decide)) dX12_partOf_116 ?_
              refine ab_i2l dX12_partOf_117 ?_
              refine ab_goto (tgt := 131) dX12_partOf_118 (by decide) ?_
              exact ab_lret rfl dX12_partOf_131 (Nat.le_of_ble_eq_true rfl) (Nat.le_of_ble_eq_true rfl) ht
          · have ht := ht.2 c12
            refine ab_aload_n (i := 0) dX12_partOf_92 rfl rfl ?_
            refine ab_getR (b := 93) f_X12_52 rfl (sh_k hs8 82 12 (by decide) rfl) (sh_r hs8 109 rfl) dX12_partOf_93 ?_
            refine ab_iload_n (i := 2) dX12_partOf_96 rfl rfl ?_
            refine ab_bipush (v := 8) dX12_partOf_97 (by decide) ?_
            refine ab_isub dX12_partOf_99 ?_
            obtain ⟨hc15, ht⟩ := ht
            refine ab_iald (sh_k hs8 93 14 (by decide) rfl) hc15 dX12_partOf_100 ?_
            refine ab_i2l dX12_partOf_101 ?_
            exact ab_lret rfl dX12_partOf_102 (Nat.le_of_ble_eq_true rfl) (Nat.le_of_ble_eq_true rfl) ht
        · have ht := ht.2 c11
          refine ab_aload_n (i := 0) dX12_partOf_68 rfl rfl ?_
          refine ab_getR (b := 84) f_X12_20 rfl (sh_k hs8 82 12 (by decide) rfl) (sh_r hs8 100 rfl) dX12_partOf_69 ?_
          refine ab_sipush (v := 3060) dX12_partOf_72 (by decide) ?_
          refine ab_aload_n (i := 0) dX12_partOf_75 rfl rfl ?_
          refine ab_getI f_X12_309 rfl (sh_k hs8 82 12 (by decide) rfl) dX12_partOf_76 ?_
          refine ab_iadd dX12_partOf_79 ?_
          refine ab_iconst (v := 1) dX12_partOf_80 (by decide) ?_
          refine ab_isub dX12_partOf_81 ?_
          obtain ⟨hc16, ht⟩ := ht
          refine ab_iald (sh_k hs8 84 14 (by decide) rfl) hc16 dX12_partOf_82 ?_
          refine ab_i2l dX12_partOf_83 ?_
          exact ab_lret rfl dX12_partOf_84 (Nat.le_of_ble_eq_true rfl) (Nat.le_of_ble_eq_true rfl) ht
      · have ht := ht.2 c10
        refine ab_lconst (v := 0) dX12_partOf_60 (by decide) ?_
        exact ab_lret rfl dX12_partOf_61 (Nat.le_of_ble_eq_true rfl) (Nat.le_of_ble_eq_true rfl) ht
  · have ht := ht.2 c4
    refine ab_aload_n (i := 0) dX12_partOf_12 rfl rfl ?_
    refine ab_iload_n (i := 1) dX12_partOf_13 rfl rfl ?_
    refine ab_callV (b := 82) (As := [.int x1]) ht (Y_X12_sumOf _) l_X12_336 in_X12_sumOf se_X12_sumOf (sh_k hs2 82 12 (by decide) rfl) (by decide) rfl rfl ⟨(show d - 1 + 1 ≤ d by omega), (Nat.le_of_ble_eq_true rfl), (Nat.le_of_ble_eq_true rfl), (Nat.le_of_ble_eq_true rfl)⟩ dX12_partOf_14 ?_
    rintro _ h17 ⟨v19, rfl, hs18, ht⟩
    refine ab_lstore_n (i := 2) (L' := [some (.ref 82), some (.int x1), some (.long v19), none]) dX12_partOf_17 rfl (by exact (Nat.le_of_ble_eq_true rfl)) rfl rfl ?_
    refine ab_aload_n (i := 0) dX12_partOf_18 rfl rfl ?_
    refine ab_dup dX12_partOf_19 rfl ?_
    refine ab_getI f_X12_309 rfl (sh_k hs18 82 12 (by decide) rfl) dX12_partOf_20 ?_
    refine ab_iconst (v := 1) dX12_partOf_23 (by decide) ?_
    refine ab_iadd dX12_partOf_24 ?_
    refine ab_putI f_X12_309 (Or.inl rfl) rfl (sh_k hs18 82 12 (by decide) rfl) rfl rfl dX12_partOf_25 ?_
    refine Wp.nm fun h20 e21 => ?_
    have ht := ht h20 e21
    have hs22 : Sh h20 := by rw [e21]; exact sh_si hs18
    refine ab_lload_n (i := 2) dX12_partOf_28 rfl rfl ?_
    exact ab_lret rfl dX12_partOf_29 (Nat.le_of_ble_eq_true rfl) (Nat.le_of_ble_eq_true rfl) ht
theorem dX12_testOf_0 : decode cX12_testOf 0 = .ok (.aload_n 0, 1) := by decide +kernel
theorem dX12_testOf_1 : decode cX12_testOf 1 = .ok (.iload_n 1, 1) := by decide +kernel
theorem dX12_testOf_2 : decode cX12_testOf 2 = .ok (.invokevirtual 342, 3) := by decide +kernel
theorem dX12_testOf_5 : decode cX12_testOf 5 = .ok (.istore_n 2, 1) := by decide +kernel
theorem dX12_testOf_6 : decode cX12_testOf 6 = .ok (.aload_n 0, 1) := by decide +kernel
theorem dX12_testOf_7 : decode cX12_testOf 7 = .ok (.iconst 5, 1) := by decide +kernel
theorem dX12_testOf_8 : decode cX12_testOf 8 = .ok (.invokevirtual 333, 3) := by decide +kernel
theorem dX12_testOf_11 : decode cX12_testOf 11 = .ok (.ifCond .eq 38, 3) := by decide +kernel
theorem dX12_testOf_14 : decode cX12_testOf 14 = .ok (.aload_n 0, 1) := by decide +kernel
theorem dX12_testOf_15 : decode cX12_testOf 15 = .ok (.iload_n 1, 1) := by decide +kernel
theorem dX12_testOf_16 : decode cX12_testOf 16 = .ok (.ifCond .eq 11, 3) := by decide +kernel
theorem dX12_testOf_19 : decode cX12_testOf 19 = .ok (.iload_n 2, 1) := by decide +kernel
theorem dX12_testOf_20 : decode cX12_testOf 20 = .ok (.ifCond .ne 7, 3) := by decide +kernel
theorem dX12_testOf_23 : decode cX12_testOf 23 = .ok (.iconst 1, 1) := by decide +kernel
theorem dX12_testOf_24 : decode cX12_testOf 24 = .ok (.goto 4, 3) := by decide +kernel
theorem dX12_testOf_27 : decode cX12_testOf 27 = .ok (.iconst 0, 1) := by decide +kernel
theorem dX12_testOf_28 : decode cX12_testOf 28 = .ok (.invokevirtual 342, 3) := by decide +kernel
theorem dX12_testOf_31 : decode cX12_testOf 31 = .ok (.istore_n 3, 1) := by decide +kernel
theorem dX12_testOf_32 : decode cX12_testOf 32 = .ok (.iload_n 2, 1) := by decide +kernel
theorem dX12_testOf_33 : decode cX12_testOf 33 = .ok (.ifCond .ne 7, 3) := by decide +kernel
theorem dX12_testOf_36 : decode cX12_testOf 36 = .ok (.iload_n 3, 1) := by decide +kernel
theorem dX12_testOf_37 : decode cX12_testOf 37 = .ok (.ifCond .eq 7, 3) := by decide +kernel
theorem dX12_testOf_40 : decode cX12_testOf 40 = .ok (.iconst 1, 1) := by decide +kernel
theorem dX12_testOf_41 : decode cX12_testOf 41 = .ok (.goto 4, 3) := by decide +kernel
theorem dX12_testOf_44 : decode cX12_testOf 44 = .ok (.iconst 0, 1) := by decide +kernel
theorem dX12_testOf_45 : decode cX12_testOf 45 = .ok (.istore_n 2, 1) := by decide +kernel
theorem dX12_testOf_46 : decode cX12_testOf 46 = .ok (.goto (-40), 3) := by decide +kernel
theorem dX12_testOf_49 : decode cX12_testOf 49 = .ok (.iload_n 2, 1) := by decide +kernel
theorem dX12_testOf_50 : decode cX12_testOf 50 = .ok (.ireturn, 1) := by decide +kernel
set_option maxRecDepth 20000 in
theorem T_X12_testOf_6 {d : Nat} (hd : 8 ≤ d) {Q : Option Value → ah_T → Prop} {h : ah_T} (hs : Sh h) (x1 : Int32) (x2 : Int32) (ht : (Mt mX12_passes0 [.ref 82, .int 5] h (ab_qi fun v6 h4 => Sh h4 ∧ ((v6 = 0 → (ab_b x2) ∧ Q (some (.int x2)) h4) ∧ (¬ v6 = 0 → ((x1 = 0 → (Mt (mX12_bothOf (d - 1)) [.ref 82, .int 0] h4 (ab_qi fun v12 h10 => Sh h10 ∧ ((¬ x2 = 0 → Wp (mX12_testOf d) Q 0 0 6 [some (.ref 82), some (.int x1), some (.int 1), none] [] h10) ∧ (x2 = 0 → ((v12 = 0 → Wp (mX12_testOf d) Q 0 0 6 [some (.ref 82), some (.int x1), some (.int 0), none] [] h10) ∧ (¬ v12 = 0 → Wp (mX12_testOf d) Q 0 0 6 [some (.ref 82), some (.int x1), some (.int 1), none] [] h10))))))) ∧ (¬ x1 = 0 → ((¬ x2 = 0 → (Mt (mX12_bothOf (d - 1)) [.ref 82, .int 0] h4 (ab_qi fun v18 h16 => Sh h16 ∧ ((¬ x2 = 0 → Wp (mX12_testOf d) Q 0 0 6 [some (.ref 82), some (.int x1), some (.int 1), none] [] h16) ∧ (x2 = 0 → ((v18 = 0 → Wp (mX12_testOf d) Q 0 0 6 [some (.ref 82), some (.int x1), some (.int 0), none] [] h16) ∧ (¬ v18 = 0 → Wp (mX12_testOf d) Q 0 0 6 [some (.ref 82), some (.int x1), some (.int 1), none] [] h16))))))) ∧ (x2 = 0 → (Mt (mX12_bothOf (d - 1)) [.ref 82, .int 1] h4 (ab_qi fun v23 h21 => Sh h21 ∧ ((¬ x2 = 0 → Wp (mX12_testOf d) Q 0 0 6 [some (.ref 82), some (.int x1), some (.int 1), none] [] h21) ∧ (x2 = 0 → ((v23 = 0 → Wp (mX12_testOf d) Q 0 0 6 [some (.ref 82), some (.int x1), some (.int 0), none] [] h21) ∧ (¬ v23 = 0 → Wp (mX12_testOf d) Q 0 0 6 [some (.ref 82), some (.int x1), some (.int 1), none] [] h21))))))))))))))) : Wp (mX12_testOf d) Q 0 0 6 [some (.ref 82), some (.int x1), some (.int x2), none] [] h := by
  refine ab_aload_n (i := 0) dX12_testOf_6 rfl rfl ?_
  refine ab_iconst (v := 5) dX12_testOf_7 (by decide) ?_
  refine ab_callV (b := 82) (As := [.int 5]) ht (Y_X12_passes0) l_X12_333 in_X12_passes0 se_X12_passes0 (sh_k hs 82 12 (by decide) rfl) (by decide) rfl rfl ⟨(show 2 + 1 ≤ d by omega), (Nat.le_of_ble_eq_true rfl), (Nat.le_of_ble_eq_true rfl), (Nat.le_of_ble_eq_true rfl)⟩ dX12_testOf_8 ?_
  rintro _ h4 ⟨v6, rfl, hs5, ht⟩
  refine ab_if_eq (tgt := 49) dX12_testOf_11 (by decide) (fun c7 => ?_) (fun c7 => ?_)
  · have ht := ht.1 c7
    refine ab_iload_n (i := 2) dX12_testOf_49 rfl rfl ?_
    obtain ⟨hc8, ht⟩ := ht
    exact ab_zret rfl (ab_b_nar hc8) dX12_testOf_50 (Nat.le_of_ble_eq_true rfl) (Nat.le_of_ble_eq_true rfl) ht
  · have ht := ht.2 c7
    refine ab_aload_n (i := 0) dX12_testOf_14 rfl rfl ?_
    refine ab_iload_n (i := 1) dX12_testOf_15 rfl rfl ?_
    refine ab_if_eq (tgt := 27) dX12_testOf_16 (by decide) (fun c9 => ?_) (fun c9 => ?_)
    · have ht := ht.1 c9
      refine ab_iconst (v := 0) dX12_testOf_27 (by decide) ?_
      refine ab_callV (b := 82) (As := [.int 0]) ht (Y_X12_bothOf _) l_X12_342 in_X12_bothOf se_X12_bothOf (sh_k hs5 82 12 (by decide) rfl) (by decide) rfl rfl ⟨(show d - 1 + 1 ≤ d by omega), (Nat.le_of_ble_eq_true rfl), (Nat.le_of_ble_eq_true rfl), (Nat.le_of_ble_eq_true rfl)⟩ dX12_testOf_28 ?_
      rintro _ h10 ⟨v12, rfl, hs11, ht⟩
      refine ab_istore_n (i := 3) (L' := [some (.ref 82), some (.int x1), some (.int x2), some (.int v12)]) dX12_testOf_31 rfl (by exact (Nat.le_of_ble_eq_true rfl)) rfl rfl ?_
      refine ab_iload_n (i := 2) dX12_testOf_32 rfl rfl ?_
      refine ab_if_ne (tgt := 40) dX12_testOf_33 (by decide) (fun c13 => ?_) (fun c13 => ?_)
      · have ht := ht.1 c13
        refine ab_iconst (v := 1) dX12_testOf_40 (by decide) ?_
        refine ab_goto (tgt := 45) dX12_testOf_41 (by decide) ?_
        refine ab_istore_n (i := 2) (L' := [some (.ref 82), some (.int x1), some (.int 1), some (.int v12)]) dX12_testOf_45 rfl (by exact (Nat.le_of_ble_eq_true rfl)) rfl rfl ?_
        refine ab_goto (tgt := 6) dX12_testOf_46 (by decide) ?_
        exact Wp.fewer (L' := [some (.ref 82), some (.int x1), some (.int 1), none]) (show ab_leL _ _ from ⟨rfl, ⟨rfl, ⟨rfl, trivial⟩⟩⟩) ht
      · have ht := ht.2 c13
        refine ab_iload_n (i := 3) dX12_testOf_36 rfl rfl ?_
        refine ab_if_eq (tgt := 44) dX12_testOf_37 (by decide) (fun c14 => ?_) (fun c14 => ?_)
        · have ht := ht.1 c14
          refine ab_iconst (v := 0) dX12_testOf_44 (by decide) ?_
          refine ab_istore_n (i := 2) (L' := [some (.ref 82), some (.int x1), some (.int 0), some (.int v12)]) dX12_testOf_45 rfl (by exact (Nat.le_of_ble_eq_true rfl)) rfl rfl ?_
          refine ab_goto (tgt := 6) dX12_testOf_46 (by decide) ?_
          exact Wp.fewer (L' := [some (.ref 82), some (.int x1), some (.int 0), none]) (show ab_leL _ _ from ⟨rfl, ⟨rfl, ⟨rfl, trivial⟩⟩⟩) ht
        · have ht := ht.2 c14
          refine ab_iconst (v := 1) dX12_testOf_40 (by decide) ?_
          refine ab_goto (tgt := 45) dX12_testOf_41 (by decide) ?_
          refine ab_istore_n (i := 2) (L' := [some (.ref 82), some (.int x1), some (.int 1), some (.int v12)]) dX12_testOf_45 rfl (by exact (Nat.le_of_ble_eq_true rfl)) rfl rfl ?_
          refine ab_goto (tgt := 6) dX12_testOf_46 (by decide) ?_
          exact Wp.fewer (L' := [some (.ref 82), some (.int x1), some (.int 1), none]) (show ab_leL _ _ from ⟨rfl, ⟨rfl, ⟨rfl, trivial⟩⟩⟩) ht
    · have ht := ht.2 c9
      refine ab_iload_n (i := 2) dX12_testOf_19 rfl rfl ?_
      refine ab_if_ne (tgt := 27) dX12_testOf_20 (by decide) (fun c15 => ?_) (fun c15 => ?_)
      · have ht := ht.1 c15
        refine ab_iconst (v := 0) dX12_testOf_27 (by decide) ?_
        refine ab_callV (b := 82) (As := [.int 0]) ht (Y_X12_bothOf _) l_X12_342 in_X12_bothOf se_X12_bothOf (sh_k hs5 82 12 (by decide) rfl) (by decide) rfl rfl ⟨(show d - 1 + 1 ≤ d by omega), (Nat.le_of_ble_eq_true rfl), (Nat.le_of_ble_eq_true rfl), (Nat.le_of_ble_eq_true rfl)⟩ dX12_testOf_28 ?_
        rintro _ h16 ⟨v18, rfl, hs17, ht⟩
        refine ab_istore_n (i := 3) (L' := [some (.ref 82), some (.int x1), some (.int x2), some (.int v18)]) dX12_testOf_31 rfl (by exact (Nat.le_of_ble_eq_true rfl)) rfl rfl ?_
        refine ab_iload_n (i := 2) dX12_testOf_32 rfl rfl ?_
        refine ab_if_ne (tgt := 40) dX12_testOf_33 (by decide) (fun c19 => ?_) (fun c19 => ?_)
        · have ht := ht.1 c19
          refine ab_iconst (v := 1) dX12_testOf_40 (by decide) ?_
          refine ab_goto (tgt := 45) dX12_testOf_41 (by decide) ?_
          refine ab_istore_n (i := 2) (L' := [some (.ref 82), some (.int x1), some (.int 1), some (.int v18)]) dX12_testOf_45 rfl (by exact (Nat.le_of_ble_eq_true rfl)) rfl rfl ?_
          refine ab_goto (tgt := 6) dX12_testOf_46 (by decide) ?_
          exact Wp.fewer (L' := [some (.ref 82), some (.int x1), some (.int 1), none]) (show ab_leL _ _ from ⟨rfl, ⟨rfl, ⟨rfl, trivial⟩⟩⟩) ht
        · have ht := ht.2 c19
          refine ab_iload_n (i := 3) dX12_testOf_36 rfl rfl ?_
          refine ab_if_eq (tgt := 44) dX12_testOf_37 (by decide) (fun c20 => ?_) (fun c20 => ?_)
          · have ht := ht.1 c20
            refine ab_iconst (v := 0) dX12_testOf_44 (by decide) ?_
            refine ab_istore_n (i := 2) (L' := [some (.ref 82), some (.int x1), some (.int 0), some (.int v18)]) dX12_testOf_45 rfl (by exact (Nat.le_of_ble_eq_true rfl)) rfl rfl ?_
            refine ab_goto (tgt := 6) dX12_testOf_46 (by decide) ?_
            exact Wp.fewer (L' := [some (.ref 82), some (.int x1), some (.int 0), none]) (show ab_leL _ _ from ⟨rfl, ⟨rfl, ⟨rfl, trivial⟩⟩⟩) ht
          · have ht := ht.2 c20
            refine ab_iconst (v := 1) dX12_testOf_40 (by decide) ?_
            refine ab_goto (tgt := 45) dX12_testOf_41 (by decide) ?_
            refine ab_istore_n (i := 2) (L' := [some (.ref 82), some (.int x1), some (.int 1), some (.int v18)]) dX12_testOf_45 rfl (by exact (Nat.le_of_ble_eq_true rfl)) rfl rfl ?_
            refine ab_goto (tgt := 6) dX12_testOf_46 (by decide) ?_
            exact Wp.fewer (L' := [some (.ref 82), some (.int x1), some (.int 1), none]) (show ab_leL _ _ from ⟨rfl, ⟨rfl, ⟨rfl, trivial⟩⟩⟩) ht
      · have ht := ht.2 c15
        refine ab_iconst (v := 1) dX12_testOf_23 (by decide) ?_
        refine ab_goto (tgt := 28) dX12_testOf_24 (by decide) ?_
        refine ab_callV (b := 82) (As := [.int 1]) ht (Y_X12_bothOf _) l_X12_342 in_X12_bothOf se_X12_bothOf (sh_k hs5 82 12 (by decide) rfl) (by decide) rfl rfl ⟨(show d - 1 + 1 ≤ d by omega), (Nat.le_of_ble_eq_true rfl), (Nat.le_of_ble_eq_true rfl), (Nat.le_of_ble_eq_true rfl)⟩ dX12_testOf_28 ?_
        rintro _ h21 ⟨v23, rfl, hs22, ht⟩
        refine ab_istore_n (i := 3) (L' := [some (.ref 82), some (.int x1), some (.int x2), some (.int v23)]) dX12_testOf_31 rfl (by exact (Nat.le_of_ble_eq_true rfl)) rfl rfl ?_
        refine ab_iload_n (i := 2) dX12_testOf_32 rfl rfl ?_
        refine ab_if_ne (tgt := 40) dX12_testOf_33 (by decide) (fun c24 => ?_) (fun c24 => ?_)
        · have ht := ht.1 c24
          refine ab_iconst (v := 1) dX12_testOf_40 (by decide) ?_
          refine ab_goto (tgt := 45) dX12_testOf_41 (by decide) ?_
          refine ab_istore_n (i := 2) (L' := [some (.ref 82), some (.int x1), some (.int 1), some (.int v23)]) dX12_testOf_45 rfl (by exact (Nat.le_of_ble_eq_true rfl)) rfl rfl ?_
          refine ab_goto (tgt := 6) dX12_testOf_46 (by decide) ?_
          exact Wp.fewer (L' := [some (.ref 82), some (.int x1), some (.int 1), none]) (show ab_leL _ _ from ⟨rfl, ⟨rfl, ⟨rfl, trivial⟩⟩⟩) ht
        · have ht := ht.2 c24
          refine ab_iload_n (i := 3) dX12_testOf_36 rfl rfl ?_
          refine ab_if_eq (tgt := 44) dX12_testOf_37 (by decide) (fun c25 => ?_) (fun c25 => ?_)
          · have ht := ht.1 c25
            refine ab_iconst (v := 0) dX12_testOf_44 (by decide) ?_
            refine ab_istore_n (i := 2) (L' := [some (.ref 82), some (.int x1), some (.int 0), some (.int v23)]) dX12_testOf_45 rfl (by exact (Nat.le_of_ble_eq_true rfl)) rfl rfl ?_
            refine ab_goto (tgt := 6) dX12_testOf_46 (by decide) ?_
            exact Wp.fewer (L' := [some (.ref 82), some (.int x1), some (.int 0), none]) (show ab_leL _ _ from ⟨rfl, ⟨rfl, ⟨rfl, trivial⟩⟩⟩) ht
          · have ht := ht.2 c25
            refine ab_iconst (v := 1) dX12_testOf_40 (by decide) ?_
            refine ab_goto (tgt := 45) dX12_testOf_41 (by decide) ?_
            refine ab_istore_n (i := 2) (L' := [some (.ref 82), some (.int x1), some (.int 1), some (.int v23)]) dX12_testOf_45 rfl (by exact (Nat.le_of_ble_eq_true rfl)) rfl rfl ?_
            refine ab_goto (tgt := 6) dX12_testOf_46 (by decide) ?_
            exact Wp.fewer (L' := [some (.ref 82), some (.int x1), some (.int 1), none]) (show ab_leL _ _ from ⟨rfl, ⟨rfl, ⟨rfl, trivial⟩⟩⟩) ht
set_option maxRecDepth 20000 in
theorem T_X12_testOf {d : Nat} (hd : 8 ≤ d) {Q : Option Value → ah_T → Prop} {h : ah_T} (hs : Sh h) (x1 : Int32) (ht : (Mt (mX12_bothOf (d - 1)) [.ref 82, .int x1] h (ab_qi fun v3 h1 => Sh h1 ∧ Wp (mX12_testOf d) Q 0 0 6 [some (.ref 82), some (.int x1), some (.int v3), none] [] h1))) : Mt (mX12_testOf d) [.ref 82, .int x1] h Q := by
  refine Mt.ofWp rfl (by exact (Nat.le_of_ble_eq_true rfl)) (Wp.fewer (L' := [some (.ref 82), some (.int x1), none, none]) (show ab_leL _ _ from ⟨rfl, ⟨rfl, trivial⟩⟩) ?_)
  refine ab_aload_n (i := 0) dX12_testOf_0 rfl rfl ?_
  refine ab_iload_n (i := 1) dX12_testOf_1 rfl rfl ?_
  refine ab_callV (b := 82) (As := [.int x1]) ht (Y_X12_bothOf _) l_X12_342 in_X12_bothOf se_X12_bothOf (sh_k hs 82 12 (by decide) rfl) (by decide) rfl rfl ⟨(show d - 1 + 1 ≤ d by omega), (Nat.le_of_ble_eq_true rfl), (Nat.le_of_ble_eq_true rfl), (Nat.le_of_ble_eq_true rfl)⟩ dX12_testOf_2 ?_
  rintro _ h1 ⟨v3, rfl, hs2, ht⟩
  refine ab_istore_n (i := 2) (L' := [some (.ref 82), some (.int x1), some (.int v3), none]) dX12_testOf_5 rfl (by exact (Nat.le_of_ble_eq_true rfl)) rfl rfl ?_
  exact Wp.fewer (L' := [some (.ref 82), some (.int x1), some (.int v3), none]) (show ab_leL _ _ from ⟨rfl, ⟨rfl, ⟨rfl, trivial⟩⟩⟩) ht
theorem dX12_bothOf_0 : decode cX12_bothOf 0 = .ok (.aload_n 0, 1) := by decide +kernel
theorem dX12_bothOf_1 : decode cX12_bothOf 1 = .ok (.iload_n 1, 1) := by decide +kernel
theorem dX12_bothOf_2 : decode cX12_bothOf 2 = .ok (.invokevirtual 346, 3) := by decide +kernel
theorem dX12_bothOf_5 : decode cX12_bothOf 5 = .ok (.istore_n 2, 1) := by decide +kernel
theorem dX12_bothOf_6 : decode cX12_bothOf 6 = .ok (.aload_n 0, 1) := by decide +kernel
theorem dX12_bothOf_7 : decode cX12_bothOf 7 = .ok (.bipush 6, 2) := by decide +kernel
theorem dX12_bothOf_9 : decode cX12_bothOf 9 = .ok (.invokevirtual 333, 3) := by decide +kernel
theorem dX12_bothOf_12 : decode cX12_bothOf 12 = .ok (.ifCond .eq 38, 3) := by decide +kernel
theorem dX12_bothOf_15 : decode cX12_bothOf 15 = .ok (.aload_n 0, 1) := by decide +kernel
theorem dX12_bothOf_16 : decode cX12_bothOf 16 = .ok (.iload_n 1, 1) := by decide +kernel
theorem dX12_bothOf_17 : decode cX12_bothOf 17 = .ok (.ifCond .eq 11, 3) := by decide +kernel
theorem dX12_bothOf_20 : decode cX12_bothOf 20 = .ok (.iload_n 2, 1) := by decide +kernel
theorem dX12_bothOf_21 : decode cX12_bothOf 21 = .ok (.ifCond .eq 7, 3) := by decide +kernel
theorem dX12_bothOf_24 : decode cX12_bothOf 24 = .ok (.iconst 1, 1) := by decide +kernel
theorem dX12_bothOf_25 : decode cX12_bothOf 25 = .ok (.goto 4, 3) := by decide +kernel
theorem dX12_bothOf_28 : decode cX12_bothOf 28 = .ok (.iconst 0, 1) := by decide +kernel
theorem dX12_bothOf_29 : decode cX12_bothOf 29 = .ok (.invokevirtual 346, 3) := by decide +kernel
theorem dX12_bothOf_32 : decode cX12_bothOf 32 = .ok (.istore_n 3, 1) := by decide +kernel
theorem dX12_bothOf_33 : decode cX12_bothOf 33 = .ok (.iload_n 2, 1) := by decide +kernel
theorem dX12_bothOf_34 : decode cX12_bothOf 34 = .ok (.ifCond .eq 11, 3) := by decide +kernel
theorem dX12_bothOf_37 : decode cX12_bothOf 37 = .ok (.iload_n 3, 1) := by decide +kernel
theorem dX12_bothOf_38 : decode cX12_bothOf 38 = .ok (.ifCond .eq 7, 3) := by decide +kernel
theorem dX12_bothOf_41 : decode cX12_bothOf 41 = .ok (.iconst 1, 1) := by decide +kernel
theorem dX12_bothOf_42 : decode cX12_bothOf 42 = .ok (.goto 4, 3) := by decide +kernel
theorem dX12_bothOf_45 : decode cX12_bothOf 45 = .ok (.iconst 0, 1) := by decide +kernel
theorem dX12_bothOf_46 : decode cX12_bothOf 46 = .ok (.istore_n 2, 1) := by decide +kernel
theorem dX12_bothOf_47 : decode cX12_bothOf 47 = .ok (.goto (-41), 3) := by decide +kernel
theorem dX12_bothOf_50 : decode cX12_bothOf 50 = .ok (.iload_n 2, 1) := by decide +kernel
theorem dX12_bothOf_51 : decode cX12_bothOf 51 = .ok (.ireturn, 1) := by decide +kernel
set_option maxRecDepth 20000 in
theorem T_X12_bothOf_6 {d : Nat} (hd : 8 ≤ d) {Q : Option Value → ah_T → Prop} {h : ah_T} (hs : Sh h) (x1 : Int32) (x2 : Int32) (ht : (Mt mX12_passes0 [.ref 82, .int 6] h (ab_qi fun v6 h4 => Sh h4 ∧ ((v6 = 0 → (ab_b x2) ∧ Q (some (.int x2)) h4) ∧ (¬ v6 = 0 → ((x1 = 0 → (Mt (mX12_plainOf (d - 1)) [.ref 82, .int 0] h4 (ab_qi fun v12 h10 => Sh h10 ∧ ((x2 = 0 → Wp (mX12_bothOf d) Q 0 0 6 [some (.ref 82), some (.int x1), some (.int 0), none] [] h10) ∧ (¬ x2 = 0 → ((v12 = 0 → Wp (mX12_bothOf d) Q 0 0 6 [some (.ref 82), some (.int x1), some (.int 0), none] [] h10) ∧ (¬ v12 = 0 → Wp (mX12_bothOf d) Q 0 0 6 [some (.ref 82), some (.int x1), some (.int 1), none] [] h10))))))) ∧ (¬ x1 = 0 → ((x2 = 0 → (Mt (mX12_plainOf (d - 1)) [.ref 82, .int 0] h4 (ab_qi fun v18 h16 => Sh h16 ∧ ((x2 = 0 → Wp (mX12_bothOf d) Q 0 0 6 [some (.ref 82), some (.int x1), some (.int 0), none] [] h16) ∧ (¬ x2 = 0 → ((v18 = 0 → Wp (mX12_bothOf d) Q 0 0 6 [some (.ref 82), some (.int x1), some (.int 0), none] [] h16) ∧ (¬ v18 = 0 → Wp (mX12_bothOf d) Q 0 0 6 [some (.ref 82), some (.int x1), some (.int 1), none] [] h16))))))) ∧ (¬ x2 = 0 → (Mt (mX12_plainOf (d - 1)) [.ref 82, .int 1] h4 (ab_qi fun v23 h21 => Sh h21 ∧ ((x2 = 0 → Wp (mX12_bothOf d) Q 0 0 6 [some (.ref 82), some (.int x1), some (.int 0), none] [] h21) ∧ (¬ x2 = 0 → ((v23 = 0 → Wp (mX12_bothOf d) Q 0 0 6 [some (.ref 82), some (.int x1), some (.int 0), none] [] h21) ∧ (¬ v23 = 0 → Wp (mX12_bothOf d) Q 0 0 6 [some (.ref 82), some (.int x1), some (.int 1), none] [] h21))))))))))))))) : Wp (mX12_bothOf d) Q 0 0 6 [some (.ref 82), some (.int x1), some (.int x2), none] [] h := by
  refine ab_aload_n (i := 0) dX12_bothOf_6 rfl rfl ?_
  refine ab_bipush (v := 6) dX12_bothOf_7 (by decide) ?_
  refine ab_callV (b := 82) (As := [.int 6]) ht (Y_X12_passes0) l_X12_333 in_X12_passes0 se_X12_passes0 (sh_k hs 82 12 (by decide) rfl) (by decide) rfl rfl ⟨(show 2 + 1 ≤ d by omega), (Nat.le_of_ble_eq_true rfl), (Nat.le_of_ble_eq_true rfl), (Nat.le_of_ble_eq_true rfl)⟩ dX12_bothOf_9 ?_
  rintro _ h4 ⟨v6, rfl, hs5, ht⟩
  refine ab_if_eq (tgt := 50) dX12_bothOf_12 (by decide) (fun c7 => ?_) (fun c7 => ?_)
  · have ht := ht.1 c7
    refine ab_iload_n (i := 2) dX12_bothOf_50 rfl rfl ?_
    obtain ⟨hc8, ht⟩ := ht
    exact ab_zret rfl (ab_b_nar hc8) dX12_bothOf_51 (Nat.le_of_ble_eq_true rfl) (Nat.le_of_ble_eq_true rfl) ht
  · have ht := ht.2 c7
    refine ab_aload_n (i := 0) dX12_bothOf_15 rfl rfl ?_
    refine ab_iload_n (i := 1) dX12_bothOf_16 rfl rfl ?_
    refine ab_if_eq (tgt := 28) dX12_bothOf_17 (by decide) (fun c9 => ?_) (fun c9 => ?_)
    · have ht := ht.1 c9
      refine ab_iconst (v := 0) dX12_bothOf_28 (by decide) ?_
      refine ab_callV (b := 82) (As := [.int 0]) ht (Y_X12_plainOf _) l_X12_346 in_X12_plainOf se_X12_plainOf (sh_k hs5 82 12 (by decide) rfl) (by decide) rfl rfl ⟨(show d - 1 + 1 ≤ d by omega), (Nat.le_of_ble_eq_true rfl), (Nat.le_of_ble_eq_true rfl), (Nat.le_of_ble_eq_true rfl)⟩ dX12_bothOf_29 ?_
      rintro _ h10 ⟨v12, rfl, hs11, ht⟩
      refine ab_istore_n (i := 3) (L' := [some (.ref 82), some (.int x1), some (.int x2), some (.int v12)]) dX12_bothOf_32 rfl (by exact (Nat.le_of_ble_eq_true rfl)) rfl rfl ?_
      refine ab_iload_n (i := 2) dX12_bothOf_33 rfl rfl ?_
      refine ab_if_eq (tgt := 45) dX12_bothOf_34 (by decide) (fun c13 => ?_) (fun c13 => ?_)
      · have ht := ht.1 c13
        refine ab_iconst (v := 0) dX12_bothOf_45 (by decide) ?_
        refine ab_istore_n (i := 2) (L' := [some (.ref 82), some (.int x1), some (.int 0), some (.int v12)]) dX12_bothOf_46 rfl (by exact (Nat.le_of_ble_eq_true rfl)) rfl rfl ?_
        refine ab_goto (tgt := 6) dX12_bothOf_47 (by decide) ?_
        exact Wp.fewer (L' := [some (.ref 82), some (.int x1), some (.int 0), none]) (show ab_leL _ _ from ⟨rfl, ⟨rfl, ⟨rfl, trivial⟩⟩⟩) ht
      · have ht := ht.2 c13
        refine ab_iload_n (i := 3) dX12_bothOf_37 rfl rfl ?_
        refine ab_if_eq (tgt := 45) dX12_bothOf_38 (by decide) (fun c14 => ?_) (fun c14 => ?_)
        · have ht := ht.1 c14
          refine ab_iconst (v := 0) dX12_bothOf_45 (by decide) ?_
          refine ab_istore_n (i := 2) (L' := [some (.ref 82), some (.int x1), some (.int 0), some (.int v12)]) dX12_bothOf_46 rfl (by exact (Nat.le_of_ble_eq_true rfl)) rfl rfl ?_
          refine ab_goto (tgt := 6) dX12_bothOf_47 (by decide) ?_
          exact Wp.fewer (L' := [some (.ref 82), some (.int x1), some (.int 0), none]) (show ab_leL _ _ from ⟨rfl, ⟨rfl, ⟨rfl, trivial⟩⟩⟩) ht
        · have ht := ht.2 c14
          refine ab_iconst (v := 1) dX12_bothOf_41 (by decide) ?_
          refine ab_goto (tgt := 46) dX12_bothOf_42 (by decide) ?_
          refine ab_istore_n (i := 2) (L' := [some (.ref 82), some (.int x1), some (.int 1), some (.int v12)]) dX12_bothOf_46 rfl (by exact (Nat.le_of_ble_eq_true rfl)) rfl rfl ?_
          refine ab_goto (tgt := 6) dX12_bothOf_47 (by decide) ?_
          exact Wp.fewer (L' := [some (.ref 82), some (.int x1), some (.int 1), none]) (show ab_leL _ _ from ⟨rfl, ⟨rfl, ⟨rfl, trivial⟩⟩⟩) ht
    · have ht := ht.2 c9
      refine ab_iload_n (i := 2) dX12_bothOf_20 rfl rfl ?_
      refine ab_if_eq (tgt := 28) dX12_bothOf_21 (by decide) (fun c15 => ?_) (fun c15 => ?_)
      · have ht := ht.1 c15
        refine ab_iconst (v := 0) dX12_bothOf_28 (by decide) ?_
        refine ab_callV (b := 82) (As := [.int 0]) ht (Y_X12_plainOf _) l_X12_346 in_X12_plainOf se_X12_plainOf (sh_k hs5 82 12 (by decide) rfl) (by decide) rfl rfl ⟨(show d - 1 + 1 ≤ d by omega), (Nat.le_of_ble_eq_true rfl), (Nat.le_of_ble_eq_true rfl), (Nat.le_of_ble_eq_true rfl)⟩ dX12_bothOf_29 ?_
        rintro _ h16 ⟨v18, rfl, hs17, ht⟩
        refine ab_istore_n (i := 3) (L' := [some (.ref 82), some (.int x1), some (.int x2), some (.int v18)]) dX12_bothOf_32 rfl (by exact (Nat.le_of_ble_eq_true rfl)) rfl rfl ?_
        refine ab_iload_n (i := 2) dX12_bothOf_33 rfl rfl ?_
        refine ab_if_eq (tgt := 45) dX12_bothOf_34 (by decide) (fun c19 => ?_) (fun c19 => ?_)
        · have ht := ht.1 c19
          refine ab_iconst (v := 0) dX12_bothOf_45 (by decide) ?_
          refine ab_istore_n (i := 2) (L' := [some (.ref 82), some (.int x1), some (.int 0), some (.int v18)]) dX12_bothOf_46 rfl (by exact (Nat.le_of_ble_eq_true rfl)) rfl rfl ?_
          refine ab_goto (tgt := 6) dX12_bothOf_47 (by decide) ?_
          exact Wp.fewer (L' := [some (.ref 82), some (.int x1), some (.int 0), none]) (show ab_leL _ _ from ⟨rfl, ⟨rfl, ⟨rfl, trivial⟩⟩⟩) ht
        · have ht := ht.2 c19
          refine ab_iload_n (i := 3) dX12_bothOf_37 rfl rfl ?_
          refine ab_if_eq (tgt := 45) dX12_bothOf_38 (by decide) (fun c20 => ?_) (fun c20 => ?_)
          · have ht := ht.1 c20
            refine ab_iconst (v := 0) dX12_bothOf_45 (by decide) ?_
            refine ab_istore_n (i := 2) (L' := [some (.ref 82), some (.int x1), some (.int 0), some (.int v18)]) dX12_bothOf_46 rfl (by exact (Nat.le_of_ble_eq_true rfl)) rfl rfl ?_
            refine ab_goto (tgt := 6) dX12_bothOf_47 (by decide) ?_
            exact Wp.fewer (L' := [some (.ref 82), some (.int x1), some (.int 0), none]) (show ab_leL _ _ from ⟨rfl, ⟨rfl, ⟨rfl, trivial⟩⟩⟩) ht
          · have ht := ht.2 c20
            refine ab_iconst (v := 1) dX12_bothOf_41 (by decide) ?_
            refine ab_goto (tgt := 46) dX12_bothOf_42 (by decide) ?_
            refine ab_istore_n (i := 2) (L' := [some (.ref 82), some (.int x1), some (.int 1), some (.int v18)]) dX12_bothOf_46 rfl (by exact (Nat.le_of_ble_eq_true rfl)) rfl rfl ?_
            refine ab_goto (tgt := 6) dX12_bothOf_47 (by decide) ?_
            exact Wp.fewer (L' := [some (.ref 82), some (.int x1), some (.int 1), none]) (show ab_leL _ _ from ⟨rfl, ⟨rfl, ⟨rfl, trivial⟩⟩⟩) ht
      · have ht := ht.2 c15
        refine ab_iconst (v := 1) dX12_bothOf_24 (by decide) ?_
        refine ab_goto (tgt := 29) dX12_bothOf_25 (by decide) ?_
        refine ab_callV (b := 82) (As := [.int 1]) ht (Y_X12_plainOf _) l_X12_346 in_X12_plainOf se_X12_plainOf (sh_k hs5 82 12 (by decide) rfl) (by decide) rfl rfl ⟨(show d - 1 + 1 ≤ d by omega), (Nat.le_of_ble_eq_true rfl), (Nat.le_of_ble_eq_true rfl), (Nat.le_of_ble_eq_true rfl)⟩ dX12_bothOf_29 ?_
        rintro _ h21 ⟨v23, rfl, hs22, ht⟩
        refine ab_istore_n (i := 3) (L' := [some (.ref 82), some (.int x1), some (.int x2), some (.int v23)]) dX12_bothOf_32 rfl (by exact (Nat.le_of_ble_eq_true rfl)) rfl rfl ?_
        refine ab_iload_n (i := 2) dX12_bothOf_33 rfl rfl ?_
        refine ab_if_eq (tgt := 45) dX12_bothOf_34 (by decide) (fun c24 => ?_) (fun c24 => ?_)
        · have ht := ht.1 c24
          refine ab_iconst (v := 0) dX12_bothOf_45 (by decide) ?_
          refine ab_istore_n (i := 2) (L' := [some (.ref 82), some (.int x1), some (.int 0), some (.int v23)]) dX12_bothOf_46 rfl (by exact (Nat.le_of_ble_eq_true rfl)) rfl rfl ?_
          refine ab_goto (tgt := 6) dX12_bothOf_47 (by decide) ?_
          exact Wp.fewer (L' := [some (.ref 82), some (.int x1), some (.int 0), none]) (show ab_leL _ _ from ⟨rfl, ⟨rfl, ⟨rfl, trivial⟩⟩⟩) ht
        · have ht := ht.2 c24
          refine ab_iload_n (i := 3) dX12_bothOf_37 rfl rfl ?_
          refine ab_if_eq (tgt := 45) dX12_bothOf_38 (by decide) (fun c25 => ?_) (fun c25 => ?_)
          · have ht := ht.1 c25
            refine ab_iconst (v := 0) dX12_bothOf_45 (by decide) ?_
            refine ab_istore_n (i := 2) (L' := [some (.ref 82), some (.int x1), some (.int 0), some (.int v23)]) dX12_bothOf_46 rfl (by exact (Nat.le_of_ble_eq_true rfl)) rfl rfl ?_
            refine ab_goto (tgt := 6) dX12_bothOf_47 (by decide) ?_
            exact Wp.fewer (L' := [some (.ref 82), some (.int x1), some (.int 0), none]) (show ab_leL _ _ from ⟨rfl, ⟨rfl, ⟨rfl, trivial⟩⟩⟩) ht
          · have ht := ht.2 c25
            refine ab_iconst (v := 1) dX12_bothOf_41 (by decide) ?_
            refine ab_goto (tgt := 46) dX12_bothOf_42 (by decide) ?_
            refine ab_istore_n (i := 2) (L' := [some (.ref 82), some (.int x1), some (.int 1), some (.int v23)]) dX12_bothOf_46 rfl (by exact (Nat.le_of_ble_eq_true rfl)) rfl rfl ?_
            refine ab_goto (tgt := 6) dX12_bothOf_47 (by decide) ?_
            exact Wp.fewer (L' := [some (.ref 82), some (.int x1), some (.int 1), none]) (show ab_leL _ _ from ⟨rfl, ⟨rfl, ⟨rfl, trivial⟩⟩⟩) ht
set_option maxRecDepth 20000 in
theorem T_X12_bothOf {d : Nat} (hd : 8 ≤ d) {Q : Option Value → ah_T → Prop} {h : ah_T} (hs : Sh h) (x1 : Int32) (ht : (Mt (mX12_plainOf (d - 1)) [.ref 82, .int x1] h (ab_qi fun v3 h1 => Sh h1 ∧ Wp (mX12_bothOf d) Q 0 0 6 [some (.ref 82), some (.int x1), some (.int v3), none] [] h1))) : Mt (mX12_bothOf d) [.ref 82, .int x1] h Q := by
  refine Mt.ofWp rfl (by exact (Nat.le_of_ble_eq_true rfl)) (Wp.fewer (L' := [some (.ref 82), some (.int x1), none, none]) (show ab_leL _ _ from ⟨rfl, ⟨rfl, trivial⟩⟩) ?_)
  refine ab_aload_n (i := 0) dX12_bothOf_0 rfl rfl ?_
  refine ab_iload_n (i := 1) dX12_bothOf_1 rfl rfl ?_
  refine ab_callV (b := 82) (As := [.int x1]) ht (Y_X12_plainOf _) l_X12_346 in_X12_plainOf se_X12_plainOf (sh_k hs 82 12 (by decide) rfl) (by decide) rfl rfl ⟨(show d - 1 + 1 ≤ d by omega), (Nat.le_of_ble_eq_true rfl), (Nat.le_of_ble_eq_true rfl), (Nat.le_of_ble_eq_true rfl)⟩ dX12_bothOf_2 ?_
  rintro _ h1 ⟨v3, rfl, hs2, ht⟩
  refine ab_istore_n (i := 2) (L' := [some (.ref 82), some (.int x1), some (.int v3), none]) dX12_bothOf_5 rfl (by exact (Nat.le_of_ble_eq_true rfl)) rfl rfl ?_
  exact Wp.fewer (L' := [some (.ref 82), some (.int x1), some (.int v3), none]) (show ab_leL _ _ from ⟨rfl, ⟨rfl, ⟨rfl, trivial⟩⟩⟩) ht
theorem dX12_plainOf_0 : decode cX12_plainOf 0 = .ok (.iconst 0, 1) := by decide +kernel
theorem dX12_plainOf_1 : decode cX12_plainOf 1 = .ok (.istore_n 2, 1) := by decide +kernel
theorem dX12_plainOf_2 : decode cX12_plainOf 2 = .ok (.aload_n 0, 1) := by decide +kernel
theorem dX12_plainOf_3 : decode cX12_plainOf 3 = .ok (.bipush 7, 2) := by decide +kernel
theorem dX12_plainOf_5 : decode cX12_plainOf 5 = .ok (.invokevirtual 333, 3) := by decide +kernel
theorem dX12_plainOf_8 : decode cX12_plainOf 8 = .ok (.ifCond .eq 16, 3) := by decide +kernel
theorem dX12_plainOf_11 : decode cX12_plainOf 11 = .ok (.iload_n 2, 1) := by decide +kernel
theorem dX12_plainOf_12 : decode cX12_plainOf 12 = .ok (.ifCond .ne 7, 3) := by decide +kernel
theorem dX12_plainOf_15 : decode cX12_plainOf 15 = .ok (.iconst 1, 1) := by decide +kernel
theorem dX12_plainOf_16 : decode cX12_plainOf 16 = .ok (.goto 4, 3) := by decide +kernel
theorem dX12_plainOf_19 : decode cX12_plainOf 19 = .ok (.iconst 0, 1) := by decide +kernel
theorem dX12_plainOf_20 : decode cX12_plainOf 20 = .ok (.istore_n 2, 1) := by decide +kernel
theorem dX12_plainOf_21 : decode cX12_plainOf 21 = .ok (.goto (-19), 3) := by decide +kernel
theorem dX12_plainOf_24 : decode cX12_plainOf 24 = .ok (.aload_n 0, 1) := by decide +kernel
theorem dX12_plainOf_25 : decode cX12_plainOf 25 = .ok (.iload_n 1, 1) := by decide +kernel
theorem dX12_plainOf_26 : decode cX12_plainOf 26 = .ok (.invokevirtual 349, 3) := by decide +kernel
theorem dX12_plainOf_29 : decode cX12_plainOf 29 = .ok (.iload_n 2, 1) := by decide +kernel
theorem dX12_plainOf_30 : decode cX12_plainOf 30 = .ok (.if_icmp .eq 7, 3) := by decide +kernel
theorem dX12_plainOf_33 : decode cX12_plainOf 33 = .ok (.iconst 1, 1) := by decide +kernel
theorem dX12_plainOf_34 : decode cX12_plainOf 34 = .ok (.goto 4, 3) := by decide +kernel
theorem dX12_plainOf_37 : decode cX12_plainOf 37 = .ok (.iconst 0, 1) := by decide +kernel
theorem dX12_plainOf_38 : decode cX12_plainOf 38 = .ok (.ireturn, 1) := by decide +kernel
set_option maxRecDepth 20000 in
theorem T_X12_plainOf_2 {d : Nat} (hd : 8 ≤ d) {Q : Option Value → ah_T → Prop} {h : ah_T} (hs : Sh h) (x1 : Int32) (x2 : Int32) (ht : (Mt mX12_passes0 [.ref 82, .int 7] h (ab_qi fun v3 h1 => Sh h1 ∧ ((v3 = 0 → (Mt (mX12_positiveOf (d - 1)) [.ref 82, .int x1] h1 (ab_qi fun v7 h5 => Sh h5 ∧ ((v7 = x2 → Q (some (.int 0)) h5) ∧ (¬ v7 = x2 → Q (some (.int 1)) h5))))) ∧ (¬ v3 = 0 → ((¬ x2 = 0 → Wp (mX12_plainOf d) Q 0 0 2 [some (.ref 82), some (.int x1), some (.int 0)] [] h1) ∧ (x2 = 0 → Wp (mX12_plainOf d) Q 0 0 2 [some (.ref 82), some (.int x1), some (.int 1)] [] h1))))))) : Wp (mX12_plainOf d) Q 0 0 2 [some (.ref 82), some (.int x1), some (.int x2)] [] h := by
  refine ab_aload_n (i := 0) dX12_plainOf_2 rfl rfl ?_
  refine ab_bipush (v := 7) dX12_plainOf_3 (by decide) ?_
  refine ab_callV (b := 82) (As := [.int 7]) ht (Y_X12_passes0) l_X12_333 in_X12_passes0 se_X12_passes0 (sh_k hs 82 12 (by decide) rfl) (by decide) rfl rfl ⟨(show 2 + 1 ≤ d by omega), (Nat.le_of_ble_eq_true rfl), (Nat.le_of_ble_eq_true rfl), (Nat.le_of_ble_eq_true rfl)⟩ dX12_plainOf_5 ?_
  rintro _ h1 ⟨v3, rfl, hs2, ht⟩
  refine ab_if_eq (tgt := 24) dX12_plainOf_8 (by decide) (fun c4 => ?_) (fun c4 => ?_)
  · have ht := ht.1 c4
    refine ab_aload_n (i := 0) dX12_plainOf_24 rfl rfl ?_
    refine ab_iload_n (i := 1) dX12_plainOf_25 rfl rfl ?_
    refine ab_callV (b := 82) (As := [.int x1]) ht (Y_X12_positiveOf _) l_X12_349 in_X12_positiveOf se_X12_positiveOf (sh_k hs2 82 12 (by decide) rfl) (by decide) rfl rfl ⟨(show d - 1 + 1 ≤ d by omega), (Nat.le_of_ble_eq_true rfl), (Nat.le_of_ble_eq_true rfl), (Nat.le_of_ble_eq_true rfl)⟩ dX12_plainOf_26 ?_
    rintro _ h5 ⟨v7, rfl, hs6, ht⟩
    refine ab_iload_n (i := 2) dX12_plainOf_29 rfl rfl ?_
    refine ab_icmp_eq (tgt := 37) dX12_plainOf_30 (by decide) (fun c8 => ?_) (fun c8 => ?_)
    · have ht := ht.1 c8
      refine ab_iconst (v := 0) dX12_plainOf_37 (by decide) ?_
      exact ab_zret rfl rfl dX12_plainOf_38 (Nat.le_of_ble_eq_true rfl) (Nat.le_of_ble_eq_true rfl) ht
    · have ht := ht.2 c8
      refine ab_iconst (v := 1) dX12_plainOf_33 (by decide) ?_
      refine ab_goto (tgt := 38) dX12_plainOf_34 (by decide) ?_
      exact ab_zret rfl rfl dX12_plainOf_38 (Nat.le_of_ble_eq_true rfl) (Nat.le_of_ble_eq_true rfl) ht
  · have ht := ht.2 c4
    refine ab_iload_n (i := 2) dX12_plainOf_11 rfl rfl ?_
    refine ab_if_ne (tgt := 19) dX12_plainOf_12 (by decide) (fun c9 => ?_) (fun c9 => ?_)
    · have ht := ht.1 c9
      refine ab_iconst (v := 0) dX12_plainOf_19 (by decide) ?_
      refine ab_istore_n (i := 2) (L' := [some (.ref 82), some (.int x1), some (.int 0)]) dX12_plainOf_20 rfl (by exact (Nat.le_of_ble_eq_true rfl)) rfl rfl ?_
      refine ab_goto (tgt := 2) dX12_plainOf_21 (by decide) ?_
      exact Wp.fewer (L' := [some (.ref 82), some (.int x1), some (.int 0)]) (show ab_leL _ _ from ⟨rfl, ⟨rfl, ⟨rfl, trivial⟩⟩⟩) ht
    · have ht := ht.2 c9
      refine ab_iconst (v := 1) dX12_plainOf_15 (by decide) ?_
      refine ab_goto (tgt := 20) dX12_plainOf_16 (by decide) ?_
      refine ab_istore_n (i := 2) (L' := [some (.ref 82), some (.int x1), some (.int 1)]) dX12_plainOf_20 rfl (by exact (Nat.le_of_ble_eq_true rfl)) rfl rfl ?_
      refine ab_goto (tgt := 2) dX12_plainOf_21 (by decide) ?_
      exact Wp.fewer (L' := [some (.ref 82), some (.int x1), some (.int 1)]) (show ab_leL _ _ from ⟨rfl, ⟨rfl, ⟨rfl, trivial⟩⟩⟩) ht
set_option maxRecDepth 20000 in
theorem T_X12_plainOf {d : Nat} (hd : 8 ≤ d) {Q : Option Value → ah_T → Prop} {h : ah_T} (hs : Sh h) (x1 : Int32) (ht : Wp (mX12_plainOf d) Q 0 0 2 [some (.ref 82), some (.int x1), some (.int 0)] [] h) : Mt (mX12_plainOf d) [.ref 82, .int x1] h Q := by
  refine Mt.ofWp rfl (by exact (Nat.le_of_ble_eq_true rfl)) (Wp.fewer (L' := [some (.ref 82), some (.int x1), none]) (show ab_leL _ _ from ⟨rfl, ⟨rfl, trivial⟩⟩) ?_)
  refine ab_iconst (v := 0) dX12_plainOf_0 (by decide) ?_
  refine ab_istore_n (i := 2) (L' := [some (.ref 82), some (.int x1), some (.int 0)]) dX12_plainOf_1 rfl (by exact (Nat.le_of_ble_eq_true rfl)) rfl rfl ?_
  exact Wp.fewer (L' := [some (.ref 82), some (.int x1), some (.int 0)]) (show ab_leL _ _ from ⟨rfl, ⟨rfl, ⟨rfl, trivial⟩⟩⟩) ht
theorem dX12_positiveOf_0 : decode cX12_positiveOf 0 = .ok (.aload_n 0, 1) := by decide +kernel
theorem dX12_positiveOf_1 : decode cX12_positiveOf 1 = .ok (.bipush 40, 2) := by decide +kernel
theorem dX12_positiveOf_3 : decode cX12_positiveOf 3 = .ok (.invokestatic 278, 3) := by decide +kernel
theorem dX12_positiveOf_6 : decode cX12_positiveOf 6 = .ok (.invokevirtual 333, 3) := by decide +kernel
theorem dX12_positiveOf_9 : decode cX12_positiveOf 9 = .ok (.ifCond .eq 21, 3) := by decide +kernel
theorem dX12_positiveOf_12 : decode cX12_positiveOf 12 = .ok (.aload_n 0, 1) := by decide +kernel
theorem dX12_positiveOf_13 : decode cX12_positiveOf 13 = .ok (.iload_n 1, 1) := by decide +kernel
theorem dX12_positiveOf_14 : decode cX12_positiveOf 14 = .ok (.invokevirtual 352, 3) := by decide +kernel
theorem dX12_positiveOf_17 : decode cX12_positiveOf 17 = .ok (.istore_n 2, 1) := by decide +kernel
theorem dX12_positiveOf_18 : decode cX12_positiveOf 18 = .ok (.aload_n 0, 1) := by decide +kernel
theorem dX12_positiveOf_19 : decode cX12_positiveOf 19 = .ok (.dup, 1) := by decide +kernel
theorem dX12_positiveOf_20 : decode cX12_positiveOf 20 = .ok (.getfield 309, 3) := by decide +kernel
theorem dX12_positiveOf_23 : decode cX12_positiveOf 23 = .ok (.iconst 1, 1) := by decide +kernel
theorem dX12_positiveOf_24 : decode cX12_positiveOf 24 = .ok (.iadd, 1) := by decide +kernel
theorem dX12_positiveOf_25 : decode cX12_positiveOf 25 = .ok (.putfield 309, 3) := by decide +kernel
theorem dX12_positiveOf_28 : decode cX12_positiveOf 28 = .ok (.iload_n 2, 1) := by decide +kernel
theorem dX12_positiveOf_29 : decode cX12_positiveOf 29 = .ok (.ireturn, 1) := by decide +kernel
theorem dX12_positiveOf_30 : decode cX12_positiveOf 30 = .ok (.aload_n 0, 1) := by decide +kernel
theorem dX12_positiveOf_31 : decode cX12_positiveOf 31 = .ok (.iload_n 1, 1) := by decide +kernel
theorem dX12_positiveOf_32 : decode cX12_positiveOf 32 = .ok (.invokevirtual 336, 3) := by decide +kernel
theorem dX12_positiveOf_35 : decode cX12_positiveOf 35 = .ok (.lstore_n 2, 1) := by decide +kernel
theorem dX12_positiveOf_36 : decode cX12_positiveOf 36 = .ok (.aload_n 0, 1) := by decide +kernel
theorem dX12_positiveOf_37 : decode cX12_positiveOf 37 = .ok (.aload_n 0, 1) := by decide +kernel
theorem dX12_positiveOf_38 : decode cX12_positiveOf 38 = .ok (.getfield 309, 3) := by decide +kernel
theorem dX12_positiveOf_41 : decode cX12_positiveOf 41 = .ok (.invokevirtual 312, 3) := by decide +kernel
theorem dX12_positiveOf_44 : decode cX12_positiveOf 44 = .ok (.istore 4, 2) := by decide +kernel
theorem dX12_positiveOf_46 : decode cX12_positiveOf 46 = .ok (.aload_n 0, 1) := by decide +kernel
theorem dX12_positiveOf_47 : decode cX12_positiveOf 47 = .ok (.dup, 1) := by decide +kernel
theorem dX12_positiveOf_48 : decode cX12_positiveOf 48 = .ok (.getfield 309, 3) := by decide +kernel
theorem dX12_positiveOf_51 : decode cX12_positiveOf 51 = .ok (.iconst 1, 1) := by decide +kernel
theorem dX12_positiveOf_52 : decode cX12_positiveOf 52 = .ok (.iadd, 1) := by decide +kernel
theorem dX12_positiveOf_53 : decode cX12_positiveOf 53 = .ok (.putfield 309, 3) := by decide +kernel
theorem dX12_positiveOf_56 : decode cX12_positiveOf 56 = .ok (.aload_n 0, 1) := by decide +kernel
theorem dX12_positiveOf_57 : decode cX12_positiveOf 57 = .ok (.iload_n 1, 1) := by decide +kernel
theorem dX12_positiveOf_58 : decode cX12_positiveOf 58 = .ok (.invokevirtual 336, 3) := by decide +kernel
theorem dX12_positiveOf_61 : decode cX12_positiveOf 61 = .ok (.lstore 5, 2) := by decide +kernel
theorem dX12_positiveOf_63 : decode cX12_positiveOf 63 = .ok (.iload_n 1, 1) := by decide +kernel
theorem dX12_positiveOf_64 : decode cX12_positiveOf 64 = .ok (.ifCond .eq 61, 3) := by decide +kernel
theorem dX12_positiveOf_67 : decode cX12_positiveOf 67 = .ok (.aload_n 0, 1) := by decide +kernel
theorem dX12_positiveOf_68 : decode cX12_positiveOf 68 = .ok (.getfield 319, 3) := by decide +kernel
theorem dX12_positiveOf_71 : decode cX12_positiveOf 71 = .ok (.ifCond .ne 54, 3) := by decide +kernel
theorem dX12_positiveOf_74 : decode cX12_positiveOf 74 = .ok (.iload 4, 2) := by decide +kernel
theorem dX12_positiveOf_76 : decode cX12_positiveOf 76 = .ok (.bipush 60, 2) := by decide +kernel
theorem dX12_positiveOf_78 : decode cX12_positiveOf 78 = .ok (.invokestatic 278, 3) := by decide +kernel
theorem dX12_positiveOf_81 : decode cX12_positiveOf 81 = .ok (.if_icmp .ne 13, 3) := by decide +kernel
theorem dX12_positiveOf_84 : decode cX12_positiveOf 84 = .ok (.lload_n 2, 1) := by decide +kernel
theorem dX12_positiveOf_85 : decode cX12_positiveOf 85 = .ok (.lload 5, 2) := by decide +kernel
theorem dX12_positiveOf_87 : decode cX12_positiveOf 87 = .ok (.lcmp, 1) := by decide +kernel
theorem dX12_positiveOf_88 : decode cX12_positiveOf 88 = .ok (.ifCond .ge 37, 3) := by decide +kernel
theorem dX12_positiveOf_91 : decode cX12_positiveOf 91 = .ok (.goto 30, 3) := by decide +kernel
theorem dX12_positiveOf_94 : decode cX12_positiveOf 94 = .ok (.iload 4, 2) := by decide +kernel
theorem dX12_positiveOf_96 : decode cX12_positiveOf 96 = .ok (.bipush 62, 2) := by decide +kernel
theorem dX12_positiveOf_98 : decode cX12_positiveOf 98 = .ok (.invokestatic 278, 3) := by decide +kernel
theorem dX12_positiveOf_101 : decode cX12_positiveOf 101 = .ok (.if_icmp .ne 13, 3) := by decide +kernel
theorem dX12_positiveOf_104 : decode cX12_positiveOf 104 = .ok (.lload_n 2, 1) := by decide +kernel
theorem dX12_positiveOf_105 : decode cX12_positiveOf 105 = .ok (.lload 5, 2) := by decide +kernel
theorem dX12_positiveOf_107 : decode cX12_positiveOf 107 = .ok (.lcmp, 1) := by decide +kernel
theorem dX12_positiveOf_108 : decode cX12_positiveOf 108 = .ok (.ifCond .le 17, 3) := by decide +kernel
theorem dX12_positiveOf_111 : decode cX12_positiveOf 111 = .ok (.goto 10, 3) := by decide +kernel
theorem dX12_positiveOf_114 : decode cX12_positiveOf 114 = .ok (.lload_n 2, 1) := by decide +kernel
theorem dX12_positiveOf_115 : decode cX12_positiveOf 115 = .ok (.lload 5, 2) := by decide +kernel
theorem dX12_positiveOf_117 : decode cX12_positiveOf 117 = .ok (.lcmp, 1) := by decide +kernel
theorem dX12_positiveOf_118 : decode cX12_positiveOf 118 = .ok (.ifCond .ne 7, 3) := by decide +kernel
theorem dX12_positiveOf_121 : decode cX12_positiveOf 121 = .ok (.iconst 1, 1) := by decide +kernel
theorem dX12_positiveOf_122 : decode cX12_positiveOf 122 = .ok (.goto 4, 3) := by decide +kernel
theorem dX12_positiveOf_125 : decode cX12_positiveOf 125 = .ok (.iconst 0, 1) := by decide +kernel
theorem dX12_positiveOf_126 : decode cX12_positiveOf 126 = .ok (.ireturn, 1) := by decide +kernel
set_option maxRecDepth 20000 in
theorem T_X12_positiveOf {d : Nat} (hd : 8 ≤ d) {Q : Option Value → ah_T → Prop} {h : ah_T} (hs : Sh h) (x1 : Int32) (ht : (Mt mX12_passes0 [.ref 82, .int (f_X12_sign 40)] h (ab_qi fun v3 h1 => Sh h1 ∧ ((v3 = 0 → (Mt (mX12_sumOf (d - 1)) [.ref 82, .int x1] h1 (ab_ql fun v7 h5 => Sh h5 ∧ ((¬ (ah_i h5 82 21) ≤ (ah_i h5 82 20) → vp_in (260 + (ah_i h5 82 20)) (ah_n h5 84))) ∧ (∀ h9, h9 = ah_si h5 82 20 ((ah_i h5 82 20) + 1) → (Mt (mX12_sumOf (d - 1)) [.ref 82, .int x1] h9 (ab_ql fun v14 h12 => Sh h12 ∧ ((x1 = 0 → Q (some (.int 0)) h12) ∧ (¬ x1 = 0 → ((¬ (ah_i h12 82 22) = 0 → Q (some (.int 0)) h12) ∧ ((ah_i h12 82 22) = 0 → ((¬ (f_X12_codeAt h5 (ah_i h5 82 20)) = (f_X12_sign 60) → ((¬ (f_X12_codeAt h5 (ah_i h5 82 20)) = (f_X12_sign 62) → ((¬ (lg_cmp v7 v14) = 0 → Q (some (.int 0)) h12) ∧ ((lg_cmp v7 v14) = 0 → Q (some (.int 1)) h12))) ∧ ((f_X12_codeAt h5 (ah_i h5 82 20)) = (f_X12_sign 62) → (((lg_cmp v7 v14) ≤ 0 → Q (some (.int 0)) h12) ∧ (¬ (lg_cmp v7 v14) ≤ 0 → Q (some (.int 1)) h12))))) ∧ ((f_X12_codeAt h5 (ah_i h5 82 20)) = (f_X12_sign 60) → ((0 ≤ (lg_cmp v7 v14) → Q (some (.int 0)) h12) ∧ (¬ 0 ≤ (lg_cmp v7 v14) → Q (some (.int 1)) h12)))))))))))))) ∧ (¬ v3 = 0 → (Mt (mX12_testOf (d - 1)) [.ref 82, .int x1] h1 (ab_qi fun v24 h22 => Sh h22 ∧ (∀ h25, h25 = ah_si h22 82 20 ((ah_i h22 82 20) + 1) → (ab_b v24) ∧ Q (some (.int v24)) h25)))))))) : Mt (mX12_positiveOf d) [.ref 82, .int x1] h Q := by
  refine Mt.ofWp rfl (by exact (Nat.le_of_ble_eq_true rfl)) (Wp.fewer (L' := [some (.ref 82), some (.int x1), none, none, none, none, none]) (show ab_leL _ _ from ⟨rfl, ⟨rfl, trivial⟩⟩) ?_)
  refine ab_aload_n (i := 0) dX12_positiveOf_0 rfl rfl ?_
  refine ab_bipush (v := 40) dX12_positiveOf_1 (by decide) ?_
  refine ab_callS (Q' := fun r h' => r = some (.int (f_X12_sign 40)) ∧ h = h') (As := [.int 40]) (c_X12_sign hs 40 ⟨rfl, rfl⟩) (Y_X12_sign) l_X12_278 st_X12_sign rfl ⟨(show 1 + 1 ≤ d by omega), (Nat.le_of_ble_eq_true rfl), (Nat.le_of_ble_eq_true rfl), (Nat.le_of_ble_eq_true rfl)⟩ dX12_positiveOf_3 ?_
  rintro _ _ ⟨rfl, rfl⟩
  refine ab_callV (b := 82) (As := [.int (f_X12_sign 40)]) ht (Y_X12_passes0) l_X12_333 in_X12_passes0 se_X12_passes0 (sh_k hs 82 12 (by decide) rfl) (by decide) rfl rfl ⟨(show 2 + 1 ≤ d by omega), (Nat.le_of_ble_eq_true rfl), (Nat.le_of_ble_eq_true rfl), (Nat.le_of_ble_eq_true rfl)⟩ dX12_positiveOf_6 ?_
  rintro _ h1 ⟨v3, rfl, hs2, ht⟩
  refine ab_if_eq (tgt := 30) dX12_positiveOf_9 (by decide) (fun c4 => ?_) (fun c4 => ?_)
  · have ht := ht.1 c4
    refine ab_aload_n (i := 0) dX12_positiveOf_30 rfl rfl ?_
    refine ab_iload_n (i := 1) dX12_positiveOf_31 rfl rfl ?_
    refine ab_callV (b := 82) (As := [.int x1]) ht (Y_X12_sumOf _) l_X12_336 in_X12_sumOf se_X12_sumOf (sh_k hs2 82 12 (by decide) rfl) (by decide) rfl rfl ⟨(show d - 1 + 1 ≤ d by omega), (Nat.le_of_ble_eq_true rfl), (Nat.le_of_ble_eq_true rfl), (Nat.le_of_ble_eq_true rfl)⟩ dX12_positiveOf_32 ?_
    rintro _ h5 ⟨v7, rfl, hs6, ht⟩
    refine ab_lstore_n (i := 2) (L' := [some (.ref 82), some (.int x1), some (.long v7), none, none, none, none]) dX12_positiveOf_35 rfl (by exact (Nat.le_of_ble_eq_true rfl)) rfl rfl ?_
    refine ab_aload_n (i := 0) dX12_positiveOf_36 rfl rfl ?_
    refine ab_aload_n (i := 0) dX12_positiveOf_37 rfl rfl ?_
    refine ab_getI f_X12_309 rfl (sh_k hs6 82 12 (by decide) rfl) dX12_positiveOf_38 ?_
    obtain ⟨hc8, ht⟩ := ht
    refine ab_callV (b := 82) (Q' := fun r h' => r = some (.int (f_X12_codeAt h5 (ah_i h5 82 20))) ∧ h5 = h') (As := [.int (ah_i h5 82 20)]) (c_X12_codeAt hs6 (ah_i h5 82 20)  hc8 ⟨rfl, rfl⟩) (Y_X12_codeAt) l_X12_312 in_X12_codeAt se_X12_codeAt (sh_k hs6 82 12 (by decide) rfl) (by decide) rfl rfl ⟨(show 1 + 1 ≤ d by omega), (Nat.le_of_ble_eq_true rfl), (Nat.le_of_ble_eq_true rfl), (Nat.le_of_ble_eq_true rfl)⟩ dX12_positiveOf_41 ?_
    rintro _ _ ⟨rfl, rfl⟩
    refine ab_istore (i := 4) (L' := [some (.ref 82), some (.int x1), some (.long v7), none, some (.int (f_X12_codeAt h5 (ah_i h5 82 20))), none, none]) dX12_positiveOf_44 (by exact (Nat.le_of_ble_eq_true rfl)) rfl rfl ?_
    refine ab_aload_n (i := 0) dX12_positiveOf_46 rfl rfl ?_
    refine ab_dup dX12_positiveOf_47 rfl ?_
    refine ab_getI f_X12_309 rfl (sh_k hs6 82 12 (by decide) rfl) dX12_positiveOf_48 ?_
    refine ab_iconst (v := 1) dX12_positiveOf_51 (by decide) ?_
    refine ab_iadd dX12_positiveOf_52 ?_
    refine ab_putI f_X12_309 (Or.inl rfl) rfl (sh_k hs6 82 12 (by decide) rfl) rfl rfl dX12_positiveOf_53 ?_
    refine Wp.nm fun h9 e10 => ?_
    have ht := ht h9 e10
    have hs11 : Sh h9 := by rw [e10]; exact sh_si hs6
    refine ab_aload_n (i := 0) dX12_positiveOf_56 rfl rfl ?_
    refine ab_iload_n (i := 1) dX12_positiveOf_57 rfl rfl ?_
    refine ab_callV (b := 82) (As := [.int x1]) ht (Y_X12_sumOf _) l_X12_336 in_X12_sumOf se_X12_sumOf (sh_k hs11 82 12 (by decide) rfl) (by decide) rfl rfl ⟨(show d - 1 + 1 ≤ d by omega), (Nat.le_of_ble_eq_true rfl), (Nat.le_of_ble_eq_true rfl), (Nat.le_of_ble_eq_true rfl)⟩ dX12_positiveOf_58 ?_
    rintro _ h12 ⟨v14, rfl, hs13, ht⟩
    refine ab_lstore (i := 5) (L' := [some (.ref 82), some (.int x1), some (.long v7), none, some (.int (f_X12_codeAt h5 (ah_i h5 82 20))), some (.long v14), none]) dX12_positiveOf_61 (by exact (Nat.le_of_ble_eq_true rfl)) rfl rfl ?_
    refine ab_iload_n (i := 1) dX12_positiveOf_63 rfl rfl ?_
    refine ab_if_eq (tgt := 125) dX12_positiveOf_64 (by decide) (fun c15 => ?_) (fun c15 => ?_)
    · have ht := ht.1 c15
      refine ab_iconst (v := 0) dX12_positiveOf_125 (by decide) ?_
      exact ab_zret rfl rfl dX12_positiveOf_126 (Nat.le_of_ble_eq_true rfl) (Nat.le_of_ble_eq_true rfl) ht
    · have ht := ht.2 c15
      refine ab_aload_n (i := 0) dX12_positiveOf_67 rfl rfl ?_
      refine ab_getI f_X12_319 rfl (sh_k hs13 82 12 (by decide) rfl) dX12_positiveOf_68 ?_
      refine ab_if_ne (tgt := 125) dX12_positiveOf_71 (by decide) (fun c16 => ?_) (fun c16 => ?_)
      · have ht := ht.1 c16
        refine ab_iconst (v := 0) dX12_positiveOf_125 (by decide) ?_
        exact ab_zret rfl rfl dX12_positiveOf_126 (Nat.le_of_ble_eq_true rfl) (Nat.le_of_ble_eq_true rfl) ht
      · have ht := ht.2 c16
        refine ab_iload (i := 4) dX12_positiveOf_74 rfl ?_
        refine ab_bipush (v := 60) dX12_positiveOf_76 (by decide) ?_
        refine ab_callS (Q' := fun r h' => r = some (.int (f_X12_sign 60)) ∧ h12 = h') (As := [.int 60]) (c_X12_sign hs13 60 ⟨rfl, rfl⟩) (Y_X12_sign) l_X12_278 st_X12_sign rfl ⟨(show 1 + 1 ≤ d by omega), (Nat.le_of_ble_eq_true rfl), (Nat.le_of_ble_eq_true rfl), (Nat.le_of_ble_eq_true rfl)⟩ dX12_positiveOf_78 ?_
        rintro _ _ ⟨rfl, rfl⟩
        refine ab_icmp_ne (tgt := 94) dX12_positiveOf_81 (by decide) (fun c17 => ?_) (fun c17 => ?_)
        · have ht := ht.1 c17
          refine ab_iload (i := 4) dX12_positiveOf_94 rfl ?_
          refine ab_bipush (v := 62) dX12_positiveOf_96 (by decide) ?_
          refine ab_callS (Q' := fun r h' => r = some (.int (f_X12_sign 62)) ∧ h12 = h') (As := [.int 62]) (c_X12_sign hs13 62 ⟨rfl, rfl⟩) (Y_X12_sign) l_X12_278 st_X12_sign rfl ⟨(show 1 + 1 ≤ d by omega), (Nat.le_of_ble_eq_true rfl), (Nat.le_of_ble_eq_true rfl), (Nat.le_of_ble_eq_true rfl)⟩ dX12_positiveOf_98 ?_
          rintro _ _ ⟨rfl, rfl⟩
          refine ab_icmp_ne (tgt := 114) dX12_positiveOf_101 (by decide) (fun c18 => ?_) (fun c18 => ?_)
          · have ht := ht.1 c18
            refine ab_lload_n (i := 2) dX12_positiveOf_114 rfl rfl ?_
            refine ab_lload (i := 5) dX12_positiveOf_115 rfl ?_
            refine ab_lcmp dX12_positiveOf_117 ?_
            refine ab_if_ne (tgt := 125) dX12_positiveOf_118 (by decide) (fun c19 => ?_) (fun c19 => ?_)
            · have ht := ht.1 c19
              refine ab_iconst (v := 0) dX12_positiveOf_125 (by decide) ?_
              exact ab_zret rfl rfl dX12_positiveOf_126 (Nat.le_of_ble_eq_true rfl) (Nat.le_of_ble_eq_true rfl) ht
            · have ht := ht.2 c19
              refine ab_iconst (v := 1) dX12_positiveOf_121 (by decide) ?_
              refine ab_goto (tgt := 126) dX12_positiveOf_122 (by decide) ?_
              exact ab_zret rfl rfl dX12_positiveOf_126 (Nat.le_of_ble_eq_true rfl) (Nat.le_of_ble_eq_true rfl) ht
          · have ht := ht.2 c18
            refine ab_lload_n (i := 2) dX12_positiveOf_104 rfl rfl ?_
            refine ab_lload (i := 5) dX12_positiveOf_105 rfl ?_
            refine ab_lcmp dX12_positiveOf_107 ?_
            refine ab_if_le (tgt := 125) dX12_positiveOf_108 (by decide) (fun c20 => ?_) (fun c20 => ?_)
            · have ht := ht.1 c20
              refine ab_iconst (v := 0) dX12_positiveOf_125 (by decide) ?_
              exact ab_zret rfl rfl dX12_positiveOf_126 (Nat.le_of_ble_eq_true rfl) (Nat.le_of_ble_eq_true rfl) ht
            · have ht := ht.2 c20
              refine ab_goto (tgt := 121) dX12_positiveOf_111 (by decide) ?_
              refine ab_iconst (v := 1) dX12_positiveOf_121 (by decide) ?_
              refine ab_goto (tgt := 126) dX12_positiveOf_122 (by decide) ?_
              exact ab_zret rfl rfl dX12_positiveOf_126 (Nat.le_of_ble_eq_true rfl) (Nat.le_of_ble_eq_true rfl) ht
        · have ht := ht.2 c17
          refine ab_lload_n (i := 2) dX12_positiveOf_84 rfl rfl ?_
          refine ab_lload (i := 5) dX12_positiveOf_85 rfl ?_
          refine ab_lcmp dX12_positiveOf_87 ?_
          refine ab_if_ge (tgt := 125) dX12_positiveOf_88 (by decide) (fun c21 => ?_) (fun c21 => ?_)
          · have ht := ht.1 c21
            refine ab_iconst (v := 0) dX12_positiveOf_125 (by decide) ?_
            exact ab_zret rfl rfl dX12_positiveOf_126 (Nat.le_of_ble_eq_true rfl) (Nat.le_of_ble_eq_true rfl) ht
          · have ht := ht.2 c21
            refine ab_goto (tgt := 121) dX12_positiveOf_91 (by decide) ?_
            refine ab_iconst (v := 1) dX12_positiveOf_121 (by decide) ?_
            refine ab_goto (tgt := 126) dX12_positiveOf_122 (by decide) ?_
            exact ab_zret rfl rfl dX12_positiveOf_126 (Nat.le_of_ble_eq_true rfl) (Nat.le_of_ble_eq_true rfl) ht
  · have ht := ht.2 c4
    refine ab_aload_n (i := 0) dX12_positiveOf_12 rfl rfl ?_
    refine ab_iload_n (i := 1) dX12_positiveOf_13 rfl rfl ?_
    refine ab_callV (b := 82) (As := [.int x1]) ht (Y_X12_testOf _) l_X12_352 in_X12_testOf se_X12_testOf (sh_k hs2 82 12 (by decide) rfl) (by decide) rfl rfl ⟨(show d - 1 + 1 ≤ d by omega), (Nat.le_of_ble_eq_true rfl), (Nat.le_of_ble_eq_true rfl), (Nat.le_of_ble_eq_true rfl)⟩ dX12_positiveOf_14 ?_
    rintro _ h22 ⟨v24, rfl, hs23, ht⟩
    refine ab_istore_n (i := 2) (L' := [some (.ref 82), some (.int x1), some (.int v24), none, none, none, none]) dX12_positiveOf_17 rfl (by exact (Nat.le_of_ble_eq_true rfl)) rfl rfl ?_
    refine ab_aload_n (i := 0) dX12_positiveOf_18 rfl rfl ?_
    refine ab_dup dX12_positiveOf_19 rfl ?_
    refine ab_getI f_X12_309 rfl (sh_k hs23 82 12 (by decide) rfl) dX12_positiveOf_20 ?_
    refine ab_iconst (v := 1) dX12_positiveOf_23 (by decide) ?_
    refine ab_iadd dX12_positiveOf_24 ?_
    refine ab_putI f_X12_309 (Or.inl rfl) rfl (sh_k hs23 82 12 (by decide) rfl) rfl rfl dX12_positiveOf_25 ?_
    refine Wp.nm fun h25 e26 => ?_
    have ht := ht h25 e26
    have hs27 : Sh h25 := by rw [e26]; exact sh_si hs23
    refine ab_iload_n (i := 2) dX12_positiveOf_28 rfl rfl ?_
    obtain ⟨hc28, ht⟩ := ht
    exact ab_zret rfl (ab_b_nar hc28) dX12_positiveOf_29 (Nat.le_of_ble_eq_true rfl) (Nat.le_of_ble_eq_true rfl) ht
