/-! ===== blocks of methods (printed by wip/whole/mkall.py) ===== -/
theorem dX12_refuses_0 : decode cX12_refuses 0 = .ok (.aload_n 0, 1) := by decide +kernel
theorem dX12_refuses_1 : decode cX12_refuses 1 = .ok (.iload_n 1, 1) := by decide +kernel
theorem dX12_refuses_2 : decode cX12_refuses 2 = .ok (.putfield 3, 3) := by decide +kernel
theorem dX12_refuses_5 : decode cX12_refuses 5 = .ok (.aload_n 0, 1) := by decide +kernel
theorem dX12_refuses_6 : decode cX12_refuses 6 = .ok (.getfield 7, 3) := by decide +kernel
theorem dX12_refuses_9 : decode cX12_refuses 9 = .ok (.iload_n 1, 1) := by decide +kernel
theorem dX12_refuses_10 : decode cX12_refuses 10 = .ok (.ineg, 1) := by decide +kernel
theorem dX12_refuses_11 : decode cX12_refuses 11 = .ok (.dup2, 1) := by decide +kernel
theorem dX12_refuses_12 : decode cX12_refuses 12 = .ok (.iaload, 1) := by decide +kernel
theorem dX12_refuses_13 : decode cX12_refuses 13 = .ok (.iconst 1, 1) := by decide +kernel
theorem dX12_refuses_14 : decode cX12_refuses 14 = .ok (.iadd, 1) := by decide +kernel
theorem dX12_refuses_15 : decode cX12_refuses 15 = .ok (.iastore, 1) := by decide +kernel
theorem dX12_refuses_16 : decode cX12_refuses 16 = .ok (.iload_n 1, 1) := by decide +kernel
theorem dX12_refuses_17 : decode cX12_refuses 17 = .ok (.ireturn, 1) := by decide +kernel
set_option maxRecDepth 20000 in
theorem T_X12_refuses {Q : Option Value → ah_T → Prop} {h : ah_T} (hs : Sh h) (x1 : Int32) (ht : (∀ h1, h1 = ah_si h 82 0 x1 → (vp_in (-x1) (ah_n h1 83)) ∧ (vp_in (-x1) (ah_n h1 83)) ∧ (∀ h6, h6 = ah_si h1 83 (Int32.toNatClampNeg (-x1)) ((ah_i h1 83 (Int32.toNatClampNeg (-x1))) + 1) → Q (some (.int x1)) h6))) : Mt mX12_refuses [.ref 82, .int x1] h Q := by
  refine Mt.ofWp rfl (by exact (Nat.le_of_ble_eq_true rfl)) (Wp.fewer (L' := [some (.ref 82), some (.int x1)]) (show ab_leL _ _ from ⟨rfl, ⟨rfl, trivial⟩⟩) ?_)
  refine ab_aload_n (i := 0) dX12_refuses_0 rfl rfl ?_
  refine ab_iload_n (i := 1) dX12_refuses_1 rfl rfl ?_
  refine ab_putI f_X12_3 (Or.inl rfl) rfl (sh_k hs 82 12 (by decide) rfl) rfl rfl dX12_refuses_2 ?_
  refine Wp.nm fun h1 e2 => ?_
  have ht := ht h1 e2
  have hs3 : Sh h1 := by rw [e2]; exact sh_si hs
  refine ab_aload_n (i := 0) dX12_refuses_5 rfl rfl ?_
  refine ab_getR (b := 83) f_X12_7 rfl (sh_k hs3 82 12 (by decide) rfl) (sh_r hs3 99 rfl) dX12_refuses_6 ?_
  refine ab_iload_n (i := 1) dX12_refuses_9 rfl rfl ?_
  refine ab_ineg dX12_refuses_10 ?_
  refine ab_dup2 dX12_refuses_11 rfl rfl ?_
  obtain ⟨hc4, ht⟩ := ht
  refine ab_iald (sh_k hs3 83 14 (by decide) rfl) hc4 dX12_refuses_12 ?_
  refine ab_iconst (v := 1) dX12_refuses_13 (by decide) ?_
  refine ab_iadd dX12_refuses_14 ?_
  obtain ⟨hc5, ht⟩ := ht
  refine ab_iast (sh_k hs3 83 14 (by decide) rfl) hc5 dX12_refuses_15 ?_
  refine Wp.nm fun h6 e7 => ?_
  have ht := ht h6 e7
  have hs8 : Sh h6 := by rw [e7]; exact sh_si hs3
  refine ab_iload_n (i := 1) dX12_refuses_16 rfl rfl ?_
  exact ab_iret rfl dX12_refuses_17 (Nat.le_of_ble_eq_true rfl) (Nat.le_of_ble_eq_true rfl) ht
theorem dX12_good_0 : decode cX12_good 0 = .ok (.aload_n 0, 1) := by decide +kernel
theorem dX12_good_1 : decode cX12_good 1 = .ok (.iconst 0, 1) := by decide +kernel
theorem dX12_good_2 : decode cX12_good 2 = .ok (.putfield 3, 3) := by decide +kernel
theorem dX12_good_5 : decode cX12_good 5 = .ok (.aload_n 0, 1) := by decide +kernel
theorem dX12_good_6 : decode cX12_good 6 = .ok (.dup, 1) := by decide +kernel
theorem dX12_good_7 : decode cX12_good 7 = .ok (.getfield 11, 3) := by decide +kernel
theorem dX12_good_10 : decode cX12_good 10 = .ok (.iconst 1, 1) := by decide +kernel
theorem dX12_good_11 : decode cX12_good 11 = .ok (.iadd, 1) := by decide +kernel
theorem dX12_good_12 : decode cX12_good 12 = .ok (.putfield 11, 3) := by decide +kernel
theorem dX12_good_15 : decode cX12_good 15 = .ok (.iload_n 1, 1) := by decide +kernel
theorem dX12_good_16 : decode cX12_good 16 = .ok (.ireturn, 1) := by decide +kernel
set_option maxRecDepth 20000 in
theorem T_X12_good {Q : Option Value → ah_T → Prop} {h : ah_T} (hs : Sh h) (x1 : Int32) (ht : (∀ h1, h1 = ah_si h 82 0 0 → (∀ h4, h4 = ah_si h1 82 1 ((ah_i h1 82 1) + 1) → Q (some (.int x1)) h4))) : Mt mX12_good [.ref 82, .int x1] h Q := by
  refine Mt.ofWp rfl (by exact (Nat.le_of_ble_eq_true rfl)) (Wp.fewer (L' := [some (.ref 82), some (.int x1)]) (show ab_leL _ _ from ⟨rfl, ⟨rfl, trivial⟩⟩) ?_)
  refine ab_aload_n (i := 0) dX12_good_0 rfl rfl ?_
  refine ab_iconst (v := 0) dX12_good_1 (by decide) ?_
  refine ab_putI f_X12_3 (Or.inl rfl) rfl (sh_k hs 82 12 (by decide) rfl) rfl rfl dX12_good_2 ?_
  refine Wp.nm fun h1 e2 => ?_
  have ht := ht h1 e2
  have hs3 : Sh h1 := by rw [e2]; exact sh_si hs
  refine ab_aload_n (i := 0) dX12_good_5 rfl rfl ?_
  refine ab_dup dX12_good_6 rfl ?_
  refine ab_getI f_X12_11 rfl (sh_k hs3 82 12 (by decide) rfl) dX12_good_7 ?_
  refine ab_iconst (v := 1) dX12_good_10 (by decide) ?_
  refine ab_iadd dX12_good_11 ?_
  refine ab_putI f_X12_11 (Or.inl rfl) rfl (sh_k hs3 82 12 (by decide) rfl) rfl rfl dX12_good_12 ?_
  refine Wp.nm fun h4 e5 => ?_
  have ht := ht h4 e5
  have hs6 : Sh h4 := by rw [e5]; exact sh_si hs3
  refine ab_iload_n (i := 1) dX12_good_15 rfl rfl ?_
  exact ab_iret rfl dX12_good_16 (Nat.le_of_ble_eq_true rfl) (Nat.le_of_ble_eq_true rfl) ht
theorem dX12_ones_0 : decode cX12_ones 0 = .ok (.iconst 0, 1) := by decide +kernel
theorem dX12_ones_1 : decode cX12_ones 1 = .ok (.istore_n 1, 1) := by decide +kernel
theorem dX12_ones_2 : decode cX12_ones 2 = .ok (.iconst 0, 1) := by decide +kernel
theorem dX12_ones_3 : decode cX12_ones 3 = .ok (.istore_n 2, 1) := by decide +kernel
theorem dX12_ones_4 : decode cX12_ones 4 = .ok (.iload_n 2, 1) := by decide +kernel
theorem dX12_ones_5 : decode cX12_ones 5 = .ok (.bipush 20, 2) := by decide +kernel
theorem dX12_ones_7 : decode cX12_ones 7 = .ok (.if_icmp .ge 17, 3) := by decide +kernel
theorem dX12_ones_10 : decode cX12_ones 10 = .ok (.iload_n 1, 1) := by decide +kernel
theorem dX12_ones_11 : decode cX12_ones 11 = .ok (.iload_n 0, 1) := by decide +kernel
theorem dX12_ones_12 : decode cX12_ones 12 = .ok (.iload_n 2, 1) := by decide +kernel
theorem dX12_ones_13 : decode cX12_ones 13 = .ok (.ishr, 1) := by decide +kernel
theorem dX12_ones_14 : decode cX12_ones 14 = .ok (.iconst 1, 1) := by decide +kernel
theorem dX12_ones_15 : decode cX12_ones 15 = .ok (.iand, 1) := by decide +kernel
theorem dX12_ones_16 : decode cX12_ones 16 = .ok (.iadd, 1) := by decide +kernel
theorem dX12_ones_17 : decode cX12_ones 17 = .ok (.istore_n 1, 1) := by decide +kernel
theorem dX12_ones_18 : decode cX12_ones 18 = .ok (.iinc 2 1, 3) := by decide +kernel
theorem dX12_ones_21 : decode cX12_ones 21 = .ok (.goto (-17), 3) := by decide +kernel
theorem dX12_ones_24 : decode cX12_ones 24 = .ok (.iload_n 1, 1) := by decide +kernel
theorem dX12_ones_25 : decode cX12_ones 25 = .ok (.ireturn, 1) := by decide +kernel
set_option maxRecDepth 20000 in
theorem T_X12_ones_4 {Q : Option Value → ah_T → Prop} {h : ah_T} (hs : Sh h) (x0 : Int32) (x1 : Int32) (x2 : Int32) (ht : ((20 ≤ x2 → Q (some (.int x1)) h) ∧ (¬ 20 ≤ x2 → Wp mX12_ones Q 0 0 4 [some (.int x0), some (.int (x1 + ((x0 >>> (x2 &&& 31)) &&& 1))), some (.int (x2 + 1))] [] h))) : Wp mX12_ones Q 0 0 4 [some (.int x0), some (.int x1), some (.int x2)] [] h := by
  refine ab_iload_n (i := 2) dX12_ones_4 rfl rfl ?_
  refine ab_bipush (v := 20) dX12_ones_5 (by decide) ?_
  refine ab_icmp_ge (tgt := 24) dX12_ones_7 (by decide) (fun c1 => ?_) (fun c1 => ?_)
  · have ht := ht.1 c1
    refine ab_iload_n (i := 1) dX12_ones_24 rfl rfl ?_
    exact ab_iret rfl dX12_ones_25 (Nat.le_of_ble_eq_true rfl) (Nat.le_of_ble_eq_true rfl) ht
  · have ht := ht.2 c1
    refine ab_iload_n (i := 1) dX12_ones_10 rfl rfl ?_
    refine ab_iload_n (i := 0) dX12_ones_11 rfl rfl ?_
    refine ab_iload_n (i := 2) dX12_ones_12 rfl rfl ?_
    refine ab_ishr dX12_ones_13 ?_
    refine ab_iconst (v := 1) dX12_ones_14 (by decide) ?_
    refine ab_iand dX12_ones_15 ?_
    refine ab_iadd dX12_ones_16 ?_
    refine ab_istore_n (i := 1) (L' := [some (.int x0), some (.int (x1 + ((x0 >>> (x2 &&& 31)) &&& 1))), some (.int x2)]) dX12_ones_17 rfl (by exact (Nat.le_of_ble_eq_true rfl)) rfl rfl ?_
    refine ab_iinc (i := 2) (x := x2) (v := (x2 + 1)) (L' := [some (.int x0), some (.int (x1 + ((x0 >>> (x2 &&& 31)) &&& 1))), some (.int (x2 + 1))]) dX12_ones_18 rfl rfl (by exact (Nat.le_of_ble_eq_true rfl)) rfl rfl ?_
    refine ab_goto (tgt := 4) dX12_ones_21 (by decide) ?_
    exact Wp.fewer (L' := [some (.int x0), some (.int (x1 + ((x0 >>> (x2 &&& 31)) &&& 1))), some (.int (x2 + 1))]) (show ab_leL _ _ from ⟨rfl, ⟨rfl, ⟨rfl, trivial⟩⟩⟩) ht
set_option maxRecDepth 20000 in
theorem T_X12_ones {Q : Option Value → ah_T → Prop} {h : ah_T} (hs : Sh h) (x0 : Int32) (ht : Wp mX12_ones Q 0 0 4 [some (.int x0), some (.int 0), some (.int 0)] [] h) : Mt mX12_ones [.int x0] h Q := by
  refine Mt.ofWp rfl (by exact (Nat.le_of_ble_eq_true rfl)) (Wp.fewer (L' := [some (.int x0), none, none]) (show ab_leL _ _ from ⟨rfl, trivial⟩) ?_)
  refine ab_iconst (v := 0) dX12_ones_0 (by decide) ?_
  refine ab_istore_n (i := 1) (L' := [some (.int x0), some (.int 0), none]) dX12_ones_1 rfl (by exact (Nat.le_of_ble_eq_true rfl)) rfl rfl ?_
  refine ab_iconst (v := 0) dX12_ones_2 (by decide) ?_
  refine ab_istore_n (i := 2) (L' := [some (.int x0), some (.int 0), some (.int 0)]) dX12_ones_3 rfl (by exact (Nat.le_of_ble_eq_true rfl)) rfl rfl ?_
  exact Wp.fewer (L' := [some (.int x0), some (.int 0), some (.int 0)]) (show ab_leL _ _ from ⟨rfl, ⟨rfl, ⟨rfl, trivial⟩⟩⟩) ht
theorem dX12_image_0 : decode cX12_image 0 = .ok (.iload_n 1, 1) := by decide +kernel
theorem dX12_image_1 : decode cX12_image 1 = .ok (.iconst 0, 1) := by decide +kernel
theorem dX12_image_2 : decode cX12_image 2 = .ok (.iconst 1, 1) := by decide +kernel
theorem dX12_image_3 : decode cX12_image 3 = .ok (.invokestatic 156, 3) := by decide +kernel
theorem dX12_image_6 : decode cX12_image 6 = .ok (.ifCond .ne 9, 3) := by decide +kernel
theorem dX12_image_9 : decode cX12_image 9 = .ok (.aload_n 0, 1) := by decide +kernel
theorem dX12_image_10 : decode cX12_image 10 = .ok (.iconst (-1), 1) := by decide +kernel
theorem dX12_image_11 : decode cX12_image 11 = .ok (.invokevirtual 160, 3) := by decide +kernel
theorem dX12_image_14 : decode cX12_image 14 = .ok (.ireturn, 1) := by decide +kernel
theorem dX12_image_15 : decode cX12_image 15 = .ok (.iconst 0, 1) := by decide +kernel
theorem dX12_image_16 : decode cX12_image 16 = .ok (.istore_n 2, 1) := by decide +kernel
theorem dX12_image_17 : decode cX12_image 17 = .ok (.iload_n 2, 1) := by decide +kernel
theorem dX12_image_18 : decode cX12_image 18 = .ok (.sipush 5860, 3) := by decide +kernel
theorem dX12_image_21 : decode cX12_image 21 = .ok (.if_icmp .ge 27, 3) := by decide +kernel
theorem dX12_image_24 : decode cX12_image 24 = .ok (.aload_n 0, 1) := by decide +kernel
theorem dX12_image_25 : decode cX12_image 25 = .ok (.getfield 23, 3) := by decide +kernel
theorem dX12_image_28 : decode cX12_image 28 = .ok (.sipush 5860, 3) := by decide +kernel
theorem dX12_image_31 : decode cX12_image 31 = .ok (.iload_n 1, 1) := by decide +kernel
theorem dX12_image_32 : decode cX12_image 32 = .ok (.imul, 1) := by decide +kernel
theorem dX12_image_33 : decode cX12_image 33 = .ok (.iload_n 2, 1) := by decide +kernel
theorem dX12_image_34 : decode cX12_image 34 = .ok (.iadd, 1) := by decide +kernel
theorem dX12_image_35 : decode cX12_image 35 = .ok (.aload_n 0, 1) := by decide +kernel
theorem dX12_image_36 : decode cX12_image 36 = .ok (.getfield 20, 3) := by decide +kernel
theorem dX12_image_39 : decode cX12_image 39 = .ok (.iload_n 2, 1) := by decide +kernel
theorem dX12_image_40 : decode cX12_image 40 = .ok (.iaload, 1) := by decide +kernel
theorem dX12_image_41 : decode cX12_image 41 = .ok (.iastore, 1) := by decide +kernel
theorem dX12_image_42 : decode cX12_image 42 = .ok (.iinc 2 1, 3) := by decide +kernel
theorem dX12_image_45 : decode cX12_image 45 = .ok (.goto (-28), 3) := by decide +kernel
theorem dX12_image_48 : decode cX12_image 48 = .ok (.aload_n 0, 1) := by decide +kernel
theorem dX12_image_49 : decode cX12_image 49 = .ok (.getfield 26, 3) := by decide +kernel
theorem dX12_image_52 : decode cX12_image 52 = .ok (.iload_n 1, 1) := by decide +kernel
theorem dX12_image_53 : decode cX12_image 53 = .ok (.iconst 1, 1) := by decide +kernel
theorem dX12_image_54 : decode cX12_image 54 = .ok (.bastore, 1) := by decide +kernel
theorem dX12_image_55 : decode cX12_image 55 = .ok (.aload_n 0, 1) := by decide +kernel
theorem dX12_image_56 : decode cX12_image 56 = .ok (.iconst 0, 1) := by decide +kernel
theorem dX12_image_57 : decode cX12_image 57 = .ok (.invokevirtual 164, 3) := by decide +kernel
theorem dX12_image_60 : decode cX12_image 60 = .ok (.ireturn, 1) := by decide +kernel
set_option maxRecDepth 20000 in
theorem T_X12_image_17 {Q : Option Value → ah_T → Prop} {h : ah_T} (hs : Sh h) (x1 : Int32) (x2 : Int32) (ht : ((5860 ≤ x2 → (vp_in x1 (ah_n h 86)) ∧ (∀ h7, h7 = ah_si h 86 (Int32.toNatClampNeg x1) (vp_nar .boolean 1) → (Mt mX12_good [.ref 82, .int 0] h7 (ab_qi fun v12 h10 => Sh h10 ∧ Q (some (.int v12)) h10)))) ∧ (¬ 5860 ≤ x2 → (vp_in x2 (ah_n h 84)) ∧ (vp_in ((5860 * x1) + x2) (ah_n h 85)) ∧ (∀ h15, h15 = ah_si h 85 (Int32.toNatClampNeg ((5860 * x1) + x2)) (ah_i h 84 (Int32.toNatClampNeg x2)) → Wp mX12_image Q 0 0 17 [some (.ref 82), some (.int x1), some (.int (x2 + 1))] [] h15)))) : Wp mX12_image Q 0 0 17 [some (.ref 82), some (.int x1), some (.int x2)] [] h := by
  refine ab_iload_n (i := 2) dX12_image_17 rfl rfl ?_
  refine ab_sipush (v := 5860) dX12_image_18 (by decide) ?_
  refine ab_icmp_ge (tgt := 48) dX12_image_21 (by decide) (fun c5 => ?_) (fun c5 => ?_)
  · have ht := ht.1 c5
    refine ab_aload_n (i := 0) dX12_image_48 rfl rfl ?_
    refine ab_getR (b := 86) f_X12_26 rfl (sh_k hs 82 12 (by decide) rfl) (sh_r hs 102 rfl) dX12_image_49 ?_
    refine ab_iload_n (i := 1) dX12_image_52 rfl rfl ?_
    refine ab_iconst (v := 1) dX12_image_53 (by decide) ?_
    obtain ⟨hc6, ht⟩ := ht
    refine ab_zast (sh_k hs 86 16 (by decide) rfl) hc6 dX12_image_54 ?_
    refine Wp.nm fun h7 e8 => ?_
    have ht := ht h7 e8
    have hs9 : Sh h7 := by rw [e8]; exact sh_si hs
    refine ab_aload_n (i := 0) dX12_image_55 rfl rfl ?_
    refine ab_iconst (v := 0) dX12_image_56 (by decide) ?_
    refine ab_callV (b := 82) (As := [.int 0]) ht (Y_X12_good) l_X12_164 in_X12_good se_X12_good (sh_k hs9 82 12 (by decide) rfl) (by decide) rfl rfl ⟨(Nat.le_of_ble_eq_true rfl), (Nat.le_of_ble_eq_true rfl), (Nat.le_of_ble_eq_true rfl), (Nat.le_of_ble_eq_true rfl)⟩ dX12_image_57 ?_
    rintro _ h10 ⟨v12, rfl, hs11, ht⟩
    exact ab_iret rfl dX12_image_60 (Nat.le_of_ble_eq_true rfl) (Nat.le_of_ble_eq_true rfl) ht
  · have ht := ht.2 c5
    refine ab_aload_n (i := 0) dX12_image_24 rfl rfl ?_
    refine ab_getR (b := 85) f_X12_23 rfl (sh_k hs 82 12 (by decide) rfl) (sh_r hs 101 rfl) dX12_image_25 ?_
    refine ab_sipush (v := 5860) dX12_image_28 (by decide) ?_
    refine ab_iload_n (i := 1) dX12_image_31 rfl rfl ?_
    refine ab_imul dX12_image_32 ?_
    refine ab_iload_n (i := 2) dX12_image_33 rfl rfl ?_
    refine ab_iadd dX12_image_34 ?_
    refine ab_aload_n (i := 0) dX12_image_35 rfl rfl ?_
    refine ab_getR (b := 84) f_X12_20 rfl (sh_k hs 82 12 (by decide) rfl) (sh_r hs 100 rfl) dX12_image_36 ?_
    refine ab_iload_n (i := 2) dX12_image_39 rfl rfl ?_
    obtain ⟨hc13, ht⟩ := ht
    refine ab_iald (sh_k hs 84 14 (by decide) rfl) hc13 dX12_image_40 ?_
    obtain ⟨hc14, ht⟩ := ht
    refine ab_iast (sh_k hs 85 14 (by decide) rfl) hc14 dX12_image_41 ?_
    refine Wp.nm fun h15 e16 => ?_
    have ht := ht h15 e16
    have hs17 : Sh h15 := by rw [e16]; exact sh_si hs
    refine ab_iinc (i := 2) (x := x2) (v := (x2 + 1)) (L' := [some (.ref 82), some (.int x1), some (.int (x2 + 1))]) dX12_image_42 rfl rfl (by exact (Nat.le_of_ble_eq_true rfl)) rfl rfl ?_
    refine ab_goto (tgt := 17) dX12_image_45 (by decide) ?_
    exact Wp.fewer (L' := [some (.ref 82), some (.int x1), some (.int (x2 + 1))]) (show ab_leL _ _ from ⟨rfl, ⟨rfl, ⟨rfl, trivial⟩⟩⟩) ht
set_option maxRecDepth 20000 in
theorem T_X12_image {Q : Option Value → ah_T → Prop} {h : ah_T} (hs : Sh h) (x1 : Int32) (ht : ((¬ (f_X12_lies x1 0 1) = 0 → Wp mX12_image Q 0 0 17 [some (.ref 82), some (.int x1), some (.int 0)] [] h) ∧ ((f_X12_lies x1 0 1) = 0 → (Mt mX12_refuses [.ref 82, .int (-1)] h (ab_qi fun v4 h2 => Sh h2 ∧ Q (some (.int v4)) h2))))) : Mt mX12_image [.ref 82, .int x1] h Q := by
  refine Mt.ofWp rfl (by exact (Nat.le_of_ble_eq_true rfl)) (Wp.fewer (L' := [some (.ref 82), some (.int x1), none]) (show ab_leL _ _ from ⟨rfl, ⟨rfl, trivial⟩⟩) ?_)
  refine ab_iload_n (i := 1) dX12_image_0 rfl rfl ?_
  refine ab_iconst (v := 0) dX12_image_1 (by decide) ?_
  refine ab_iconst (v := 1) dX12_image_2 (by decide) ?_
  refine ab_callS (Q' := fun r h' => r = some (.int (f_X12_lies x1 0 1)) ∧ h = h') (As := [.int x1, .int 0, .int 1]) (c_X12_lies hs x1 0 1 ⟨rfl, rfl⟩) (Y_X12_lies) l_X12_156 st_X12_lies rfl ⟨(Nat.le_of_ble_eq_true rfl), (Nat.le_of_ble_eq_true rfl), (Nat.le_of_ble_eq_true rfl), (Nat.le_of_ble_eq_true rfl)⟩ dX12_image_3 ?_
  rintro _ _ ⟨rfl, rfl⟩
  refine ab_if_ne (tgt := 15) dX12_image_6 (by decide) (fun c1 => ?_) (fun c1 => ?_)
  · have ht := ht.1 c1
    refine ab_iconst (v := 0) dX12_image_15 (by decide) ?_
    refine ab_istore_n (i := 2) (L' := [some (.ref 82), some (.int x1), some (.int 0)]) dX12_image_16 rfl (by exact (Nat.le_of_ble_eq_true rfl)) rfl rfl ?_
    exact Wp.fewer (L' := [some (.ref 82), some (.int x1), some (.int 0)]) (show ab_leL _ _ from ⟨rfl, ⟨rfl, ⟨rfl, trivial⟩⟩⟩) ht
  · have ht := ht.2 c1
    refine ab_aload_n (i := 0) dX12_image_9 rfl rfl ?_
    refine ab_iconst (v := (-1)) dX12_image_10 (by decide) ?_
    refine ab_callV (b := 82) (As := [.int (-1)]) ht (Y_X12_refuses) l_X12_160 in_X12_refuses se_X12_refuses (sh_k hs 82 12 (by decide) rfl) (by decide) rfl rfl ⟨(Nat.le_of_ble_eq_true rfl), (Nat.le_of_ble_eq_true rfl), (Nat.le_of_ble_eq_true rfl), (Nat.le_of_ble_eq_true rfl)⟩ dX12_image_11 ?_
    rintro _ h2 ⟨v4, rfl, hs3, ht⟩
    exact ab_iret rfl dX12_image_14 (Nat.le_of_ble_eq_true rfl) (Nat.le_of_ble_eq_true rfl) ht
theorem dX12_back_0 : decode cX12_back 0 = .ok (.iload_n 1, 1) := by decide +kernel
theorem dX12_back_1 : decode cX12_back 1 = .ok (.iconst 0, 1) := by decide +kernel
theorem dX12_back_2 : decode cX12_back 2 = .ok (.iconst 1, 1) := by decide +kernel
theorem dX12_back_3 : decode cX12_back 3 = .ok (.invokestatic 156, 3) := by decide +kernel
theorem dX12_back_6 : decode cX12_back 6 = .ok (.ifCond .ne 9, 3) := by decide +kernel
theorem dX12_back_9 : decode cX12_back 9 = .ok (.aload_n 0, 1) := by decide +kernel
theorem dX12_back_10 : decode cX12_back 10 = .ok (.iconst (-1), 1) := by decide +kernel
theorem dX12_back_11 : decode cX12_back 11 = .ok (.invokevirtual 160, 3) := by decide +kernel
theorem dX12_back_14 : decode cX12_back 14 = .ok (.ireturn, 1) := by decide +kernel
theorem dX12_back_15 : decode cX12_back 15 = .ok (.aload_n 0, 1) := by decide +kernel
theorem dX12_back_16 : decode cX12_back 16 = .ok (.getfield 26, 3) := by decide +kernel
theorem dX12_back_19 : decode cX12_back 19 = .ok (.iload_n 1, 1) := by decide +kernel
theorem dX12_back_20 : decode cX12_back 20 = .ok (.baload, 1) := by decide +kernel
theorem dX12_back_21 : decode cX12_back 21 = .ok (.ifCond .ne 10, 3) := by decide +kernel
theorem dX12_back_24 : decode cX12_back 24 = .ok (.aload_n 0, 1) := by decide +kernel
theorem dX12_back_25 : decode cX12_back 25 = .ok (.bipush (-2), 2) := by decide +kernel
theorem dX12_back_27 : decode cX12_back 27 = .ok (.invokevirtual 160, 3) := by decide +kernel
theorem dX12_back_30 : decode cX12_back 30 = .ok (.ireturn, 1) := by decide +kernel
theorem dX12_back_31 : decode cX12_back 31 = .ok (.iconst 0, 1) := by decide +kernel
theorem dX12_back_32 : decode cX12_back 32 = .ok (.istore_n 2, 1) := by decide +kernel
theorem dX12_back_33 : decode cX12_back 33 = .ok (.iload_n 2, 1) := by decide +kernel
theorem dX12_back_34 : decode cX12_back 34 = .ok (.sipush 5860, 3) := by decide +kernel
theorem dX12_back_37 : decode cX12_back 37 = .ok (.if_icmp .ge 27, 3) := by decide +kernel
theorem dX12_back_40 : decode cX12_back 40 = .ok (.aload_n 0, 1) := by decide +kernel
theorem dX12_back_41 : decode cX12_back 41 = .ok (.getfield 20, 3) := by decide +kernel
theorem dX12_back_44 : decode cX12_back 44 = .ok (.iload_n 2, 1) := by decide +kernel
theorem dX12_back_45 : decode cX12_back 45 = .ok (.aload_n 0, 1) := by decide +kernel
theorem dX12_back_46 : decode cX12_back 46 = .ok (.getfield 23, 3) := by decide +kernel
theorem dX12_back_49 : decode cX12_back 49 = .ok (.sipush 5860, 3) := by decide +kernel
theorem dX12_back_52 : decode cX12_back 52 = .ok (.iload_n 1, 1) := by decide +kernel
theorem dX12_back_53 : decode cX12_back 53 = .ok (.imul, 1) := by decide +kernel
theorem dX12_back_54 : decode cX12_back 54 = .ok (.iload_n 2, 1) := by decide +kernel
theorem dX12_back_55 : decode cX12_back 55 = .ok (.iadd, 1) := by decide +kernel
theorem dX12_back_56 : decode cX12_back 56 = .ok (.iaload, 1) := by decide +kernel
theorem dX12_back_57 : decode cX12_back 57 = .ok (.iastore, 1) := by decide +kernel
theorem dX12_back_58 : decode cX12_back 58 = .ok (.iinc 2 1, 3) := by decide +kernel
theorem dX12_back_61 : decode cX12_back 61 = .ok (.goto (-28), 3) := by decide +kernel
theorem dX12_back_64 : decode cX12_back 64 = .ok (.aload_n 0, 1) := by decide +kernel
theorem dX12_back_65 : decode cX12_back 65 = .ok (.iconst 0, 1) := by decide +kernel
theorem dX12_back_66 : decode cX12_back 66 = .ok (.invokevirtual 164, 3) := by decide +kernel
theorem dX12_back_69 : decode cX12_back 69 = .ok (.ireturn, 1) := by decide +kernel
set_option maxRecDepth 20000 in
theorem T_X12_back_33 {Q : Option Value → ah_T → Prop} {h : ah_T} (hs : Sh h) (x1 : Int32) (x2 : Int32) (ht : ((5860 ≤ x2 → (Mt mX12_good [.ref 82, .int 0] h (ab_qi fun v13 h11 => Sh h11 ∧ Q (some (.int v13)) h11))) ∧ (¬ 5860 ≤ x2 → (vp_in ((5860 * x1) + x2) (ah_n h 85)) ∧ (vp_in x2 (ah_n h 84)) ∧ (∀ h16, h16 = ah_si h 84 (Int32.toNatClampNeg x2) (ah_i h 85 (Int32.toNatClampNeg ((5860 * x1) + x2))) → Wp mX12_back Q 0 0 33 [some (.ref 82), some (.int x1), some (.int (x2 + 1))] [] h16)))) : Wp mX12_back Q 0 0 33 [some (.ref 82), some (.int x1), some (.int x2)] [] h := by
  refine ab_iload_n (i := 2) dX12_back_33 rfl rfl ?_
  refine ab_sipush (v := 5860) dX12_back_34 (by decide) ?_
  refine ab_icmp_ge (tgt := 64) dX12_back_37 (by decide) (fun c10 => ?_) (fun c10 => ?_)
  · have ht := ht.1 c10
    refine ab_aload_n (i := 0) dX12_back_64 rfl rfl ?_
    refine ab_iconst (v := 0) dX12_back_65 (by decide) ?_
    refine ab_callV (b := 82) (As := [.int 0]) ht (Y_X12_good) l_X12_164 in_X12_good se_X12_good (sh_k hs 82 12 (by decide) rfl) (by decide) rfl rfl ⟨(Nat.le_of_ble_eq_true rfl), (Nat.le_of_ble_eq_true rfl), (Nat.le_of_ble_eq_true rfl), (Nat.le_of_ble_eq_true rfl)⟩ dX12_back_66 ?_
    rintro _ h11 ⟨v13, rfl, hs12, ht⟩
    exact ab_iret rfl dX12_back_69 (Nat.le_of_ble_eq_true rfl) (Nat.le_of_ble_eq_true rfl) ht
  · have ht := ht.2 c10
    refine ab_aload_n (i := 0) dX12_back_40 rfl rfl ?_
    refine ab_getR (b := 84) f_X12_20 rfl (sh_k hs 82 12 (by decide) rfl) (sh_r hs 100 rfl) dX12_back_41 ?_
    refine ab_iload_n (i := 2) dX12_back_44 rfl rfl ?_
    refine ab_aload_n (i := 0) dX12_back_45 rfl rfl ?_
    refine ab_getR (b := 85) f_X12_23 rfl (sh_k hs 82 12 (by decide) rfl) (sh_r hs 101 rfl) dX12_back_46 ?_
    refine ab_sipush (v := 5860) dX12_back_49 (by decide) ?_
    refine ab_iload_n (i := 1) dX12_back_52 rfl rfl ?_
    refine ab_imul dX12_back_53 ?_
    refine ab_iload_n (i := 2) dX12_back_54 rfl rfl ?_
    refine ab_iadd dX12_back_55 ?_
    obtain ⟨hc14, ht⟩ := ht
    refine ab_iald (sh_k hs 85 14 (by decide) rfl) hc14 dX12_back_56 ?_
    obtain ⟨hc15, ht⟩ := ht
    refine ab_iast (sh_k hs 84 14 (by decide) rfl) hc15 dX12_back_57 ?_
    refine Wp.nm fun h16 e17 => ?_
    have ht := ht h16 e17
    have hs18 : Sh h16 := by rw [e17]; exact sh_si hs
    refine ab_iinc (i := 2) (x := x2) (v := (x2 + 1)) (L' := [some (.ref 82), some (.int x1), some (.int (x2 + 1))]) dX12_back_58 rfl rfl (by exact (Nat.le_of_ble_eq_true rfl)) rfl rfl ?_
    refine ab_goto (tgt := 33) dX12_back_61 (by decide) ?_
    exact Wp.fewer (L' := [some (.ref 82), some (.int x1), some (.int (x2 + 1))]) (show ab_leL _ _ from ⟨rfl, ⟨rfl, ⟨rfl, trivial⟩⟩⟩) ht
set_option maxRecDepth 20000 in
theorem T_X12_back {Q : Option Value → ah_T → Prop} {h : ah_T} (hs : Sh h) (x1 : Int32) (ht : ((¬ (f_X12_lies x1 0 1) = 0 → (vp_in x1 (ah_n h 86)) ∧ ((¬ (ah_i h 86 (Int32.toNatClampNeg x1)) = 0 → Wp mX12_back Q 0 0 33 [some (.ref 82), some (.int x1), some (.int 0)] [] h) ∧ ((ah_i h 86 (Int32.toNatClampNeg x1)) = 0 → (Mt mX12_refuses [.ref 82, .int (-2)] h (ab_qi fun v6 h4 => Sh h4 ∧ Q (some (.int v6)) h4))))) ∧ ((f_X12_lies x1 0 1) = 0 → (Mt mX12_refuses [.ref 82, .int (-1)] h (ab_qi fun v9 h7 => Sh h7 ∧ Q (some (.int v9)) h7))))) : Mt mX12_back [.ref 82, .int x1] h Q := by
  refine Mt.ofWp rfl (by exact (Nat.le_of_ble_eq_true rfl)) (Wp.fewer (L' := [some (.ref 82), some (.int x1), none]) (show ab_leL _ _ from ⟨rfl, ⟨rfl, trivial⟩⟩) ?_)
  refine ab_iload_n (i := 1) dX12_back_0 rfl rfl ?_
  refine ab_iconst (v := 0) dX12_back_1 (by decide) ?_
  refine ab_iconst (v := 1) dX12_back_2 (by decide) ?_
  refine ab_callS (Q' := fun r h' => r = some (.int (f_X12_lies x1 0 1)) ∧ h = h') (As := [.int x1, .int 0, .int 1]) (c_X12_lies hs x1 0 1 ⟨rfl, rfl⟩) (Y_X12_lies) l_X12_156 st_X12_lies rfl ⟨(Nat.le_of_ble_eq_true rfl), (Nat.le_of_ble_eq_true rfl), (Nat.le_of_ble_eq_true rfl), (Nat.le_of_ble_eq_true rfl)⟩ dX12_back_3 ?_
  rintro _ _ ⟨rfl, rfl⟩
  refine ab_if_ne (tgt := 15) dX12_back_6 (by decide) (fun c1 => ?_) (fun c1 => ?_)
  · have ht := ht.1 c1
    refine ab_aload_n (i := 0) dX12_back_15 rfl rfl ?_
    refine ab_getR (b := 86) f_X12_26 rfl (sh_k hs 82 12 (by decide) rfl) (sh_r hs 102 rfl) dX12_back_16 ?_
    refine ab_iload_n (i := 1) dX12_back_19 rfl rfl ?_
    obtain ⟨hc2, ht⟩ := ht
    refine ab_zald (sh_k hs 86 16 (by decide) rfl) hc2 dX12_back_20 ?_
    refine ab_if_ne (tgt := 31) dX12_back_21 (by decide) (fun c3 => ?_) (fun c3 => ?_)
    · have ht := ht.1 c3
      refine ab_iconst (v := 0) dX12_back_31 (by decide) ?_
      refine ab_istore_n (i := 2) (L' := [some (.ref 82), some (.int x1), some (.int 0)]) dX12_back_32 rfl (by exact (Nat.le_of_ble_eq_true rfl)) rfl rfl ?_
      exact Wp.fewer (L' := [some (.ref 82), some (.int x1), some (.int 0)]) (show ab_leL _ _ from ⟨rfl, ⟨rfl, ⟨rfl, trivial⟩⟩⟩) ht
    · have ht := ht.2 c3
      refine ab_aload_n (i := 0) dX12_back_24 rfl rfl ?_
      refine ab_bipush (v := (-2)) dX12_back_25 (by decide) ?_
      refine ab_callV (b := 82) (As := [.int (-2)]) ht (Y_X12_refuses) l_X12_160 in_X12_refuses se_X12_refuses (sh_k hs 82 12 (by decide) rfl) (by decide) rfl rfl ⟨(Nat.le_of_ble_eq_true rfl), (Nat.le_of_ble_eq_true rfl), (Nat.le_of_ble_eq_true rfl), (Nat.le_of_ble_eq_true rfl)⟩ dX12_back_27 ?_
      rintro _ h4 ⟨v6, rfl, hs5, ht⟩
      exact ab_iret rfl dX12_back_30 (Nat.le_of_ble_eq_true rfl) (Nat.le_of_ble_eq_true rfl) ht
  · have ht := ht.2 c1
    refine ab_aload_n (i := 0) dX12_back_9 rfl rfl ?_
    refine ab_iconst (v := (-1)) dX12_back_10 (by decide) ?_
    refine ab_callV (b := 82) (As := [.int (-1)]) ht (Y_X12_refuses) l_X12_160 in_X12_refuses se_X12_refuses (sh_k hs 82 12 (by decide) rfl) (by decide) rfl rfl ⟨(Nat.le_of_ble_eq_true rfl), (Nat.le_of_ble_eq_true rfl), (Nat.le_of_ble_eq_true rfl), (Nat.le_of_ble_eq_true rfl)⟩ dX12_back_11 ?_
    rintro _ h7 ⟨v9, rfl, hs8, ht⟩
    exact ab_iret rfl dX12_back_14 (Nat.le_of_ble_eq_true rfl) (Nat.le_of_ble_eq_true rfl) ht
theorem dX12_hasWay_0 : decode cX12_hasWay 0 = .ok (.iconst 0, 1) := by decide +kernel
theorem dX12_hasWay_1 : decode cX12_hasWay 1 = .ok (.istore_n 3, 1) := by decide +kernel
theorem dX12_hasWay_2 : decode cX12_hasWay 2 = .ok (.iload_n 3, 1) := by decide +kernel
theorem dX12_hasWay_3 : decode cX12_hasWay 3 = .ok (.aload_n 0, 1) := by decide +kernel
theorem dX12_hasWay_4 : decode cX12_hasWay 4 = .ok (.getfield 20, 3) := by decide +kernel
theorem dX12_hasWay_7 : decode cX12_hasWay 7 = .ok (.sipush 245, 3) := by decide +kernel
theorem dX12_hasWay_10 : decode cX12_hasWay 10 = .ok (.iaload, 1) := by decide +kernel
theorem dX12_hasWay_11 : decode cX12_hasWay 11 = .ok (.if_icmp .ge 26, 3) := by decide +kernel
theorem dX12_hasWay_14 : decode cX12_hasWay 14 = .ok (.iload_n 1, 1) := by decide +kernel
theorem dX12_hasWay_15 : decode cX12_hasWay 15 = .ok (.iload_n 2, 1) := by decide +kernel
theorem dX12_hasWay_16 : decode cX12_hasWay 16 = .ok (.if_icmp .eq 15, 3) := by decide +kernel
theorem dX12_hasWay_19 : decode cX12_hasWay 19 = .ok (.aload_n 0, 1) := by decide +kernel
theorem dX12_hasWay_20 : decode cX12_hasWay 20 = .ok (.iload_n 3, 1) := by decide +kernel
theorem dX12_hasWay_21 : decode cX12_hasWay 21 = .ok (.iload_n 1, 1) := by decide +kernel
theorem dX12_hasWay_22 : decode cX12_hasWay 22 = .ok (.iload_n 2, 1) := by decide +kernel
theorem dX12_hasWay_23 : decode cX12_hasWay 23 = .ok (.invokevirtual 171, 3) := by decide +kernel
theorem dX12_hasWay_26 : decode cX12_hasWay 26 = .ok (.ifCond .eq 5, 3) := by decide +kernel
theorem dX12_hasWay_29 : decode cX12_hasWay 29 = .ok (.iconst 1, 1) := by decide +kernel
theorem dX12_hasWay_30 : decode cX12_hasWay 30 = .ok (.ireturn, 1) := by decide +kernel
theorem dX12_hasWay_31 : decode cX12_hasWay 31 = .ok (.iinc 3 1, 3) := by decide +kernel
theorem dX12_hasWay_34 : decode cX12_hasWay 34 = .ok (.goto (-32), 3) := by decide +kernel
theorem dX12_hasWay_37 : decode cX12_hasWay 37 = .ok (.iconst 0, 1) := by decide +kernel
theorem dX12_hasWay_38 : decode cX12_hasWay 38 = .ok (.ireturn, 1) := by decide +kernel
set_option maxRecDepth 20000 in
theorem T_X12_hasWay_2 {Q : Option Value → ah_T → Prop} {h : ah_T} (hs : Sh h) (x1 : Int32) (x2 : Int32) (x3 : Int32) (ht : (((ah_i h 84 (Int32.toNatClampNeg 245)) ≤ x3 → Q (some (.int 0)) h) ∧ (¬ (ah_i h 84 (Int32.toNatClampNeg 245)) ≤ x3 → ((x1 = x2 → Wp mX12_hasWay Q 0 0 2 [some (.ref 82), some (.int x1), some (.int x2), some (.int (x3 + 1))] [] h) ∧ (¬ x1 = x2 → (vp_in (0 + (3 * x3)) (ah_n h 84)) ∧ (((ah_i h 84 (Int32.toNatClampNeg (0 + (3 * x3)))) = (f_X12_lesser x1 x2) → vp_in ((0 + (3 * x3)) + 1) (ah_n h 84))) ∧ (((f_X12_joins h x3 x1 x2) = 0 → Wp mX12_hasWay Q 0 0 2 [some (.ref 82), some (.int x1), some (.int x2), some (.int (x3 + 1))] [] h) ∧ (¬ (f_X12_joins h x3 x1 x2) = 0 → Q (some (.int 1)) h))))))) : Wp mX12_hasWay Q 0 0 2 [some (.ref 82), some (.int x1), some (.int x2), some (.int x3)] [] h := by
  refine ab_iload_n (i := 3) dX12_hasWay_2 rfl rfl ?_
  refine ab_aload_n (i := 0) dX12_hasWay_3 rfl rfl ?_
  refine ab_getR (b := 84) f_X12_20 rfl (sh_k hs 82 12 (by decide) rfl) (sh_r hs 100 rfl) dX12_hasWay_4 ?_
  refine ab_sipush (v := 245) dX12_hasWay_7 (by decide) ?_
  refine ab_iald (sh_k hs 84 14 (by decide) rfl) (sh_in hs 84 5860 (by decide) (by decide) rfl (by unfold vp_in; decide)) dX12_hasWay_10 ?_
  refine ab_icmp_ge (tgt := 37) dX12_hasWay_11 (by decide) (fun c1 => ?_) (fun c1 => ?_)
  · have ht := ht.1 c1
    refine ab_iconst (v := 0) dX12_hasWay_37 (by decide) ?_
    exact ab_zret rfl rfl dX12_hasWay_38 (Nat.le_of_ble_eq_true rfl) (Nat.le_of_ble_eq_true rfl) ht
  · have ht := ht.2 c1
    refine ab_iload_n (i := 1) dX12_hasWay_14 rfl rfl ?_
    refine ab_iload_n (i := 2) dX12_hasWay_15 rfl rfl ?_
    refine ab_icmp_eq (tgt := 31) dX12_hasWay_16 (by decide) (fun c2 => ?_) (fun c2 => ?_)
    · have ht := ht.1 c2
      refine ab_iinc (i := 3) (x := x3) (v := (x3 + 1)) (L' := [some (.ref 82), some (.int x1), some (.int x2), some (.int (x3 + 1))]) dX12_hasWay_31 rfl rfl (by exact (Nat.le_of_ble_eq_true rfl)) rfl rfl ?_
      refine ab_goto (tgt := 2) dX12_hasWay_34 (by decide) ?_
      exact Wp.fewer (L' := [some (.ref 82), some (.int x1), some (.int x2), some (.int (x3 + 1))]) (show ab_leL _ _ from ⟨rfl, ⟨rfl, ⟨rfl, ⟨rfl, trivial⟩⟩⟩⟩) ht
    · have ht := ht.2 c2
      refine ab_aload_n (i := 0) dX12_hasWay_19 rfl rfl ?_
      refine ab_iload_n (i := 3) dX12_hasWay_20 rfl rfl ?_
      refine ab_iload_n (i := 1) dX12_hasWay_21 rfl rfl ?_
      refine ab_iload_n (i := 2) dX12_hasWay_22 rfl rfl ?_
      obtain ⟨hc3, ht⟩ := ht
      obtain ⟨hc4, ht⟩ := ht
      refine ab_callV (b := 82) (Q' := fun r h' => r = some (.int (f_X12_joins h x3 x1 x2)) ∧ h = h') (As := [.int x3, .int x1, .int x2]) (c_X12_joins hs x3 x1 x2  hc3 hc4 ⟨rfl, rfl⟩) (Y_X12_joins) l_X12_171 in_X12_joins se_X12_joins (sh_k hs 82 12 (by decide) rfl) (by decide) rfl rfl ⟨(Nat.le_of_ble_eq_true rfl), (Nat.le_of_ble_eq_true rfl), (Nat.le_of_ble_eq_true rfl), (Nat.le_of_ble_eq_true rfl)⟩ dX12_hasWay_23 ?_
      rintro _ _ ⟨rfl, rfl⟩
      refine ab_if_eq (tgt := 31) dX12_hasWay_26 (by decide) (fun c5 => ?_) (fun c5 => ?_)
      · have ht := ht.1 c5
        refine ab_iinc (i := 3) (x := x3) (v := (x3 + 1)) (L' := [some (.ref 82), some (.int x1), some (.int x2), some (.int (x3 + 1))]) dX12_hasWay_31 rfl rfl (by exact (Nat.le_of_ble_eq_true rfl)) rfl rfl ?_
        refine ab_goto (tgt := 2) dX12_hasWay_34 (by decide) ?_
        exact Wp.fewer (L' := [some (.ref 82), some (.int x1), some (.int x2), some (.int (x3 + 1))]) (show ab_leL _ _ from ⟨rfl, ⟨rfl, ⟨rfl, ⟨rfl, trivial⟩⟩⟩⟩) ht
      · have ht := ht.2 c5
        refine ab_iconst (v := 1) dX12_hasWay_29 (by decide) ?_
        exact ab_zret rfl rfl dX12_hasWay_30 (Nat.le_of_ble_eq_true rfl) (Nat.le_of_ble_eq_true rfl) ht
set_option maxRecDepth 20000 in
theorem T_X12_hasWay {Q : Option Value → ah_T → Prop} {h : ah_T} (hs : Sh h) (x1 : Int32) (x2 : Int32) (ht : Wp mX12_hasWay Q 0 0 2 [some (.ref 82), some (.int x1), some (.int x2), some (.int 0)] [] h) : Mt mX12_hasWay [.ref 82, .int x1, .int x2] h Q := by
  refine Mt.ofWp rfl (by exact (Nat.le_of_ble_eq_true rfl)) (Wp.fewer (L' := [some (.ref 82), some (.int x1), some (.int x2), none]) (show ab_leL _ _ from ⟨rfl, ⟨rfl, ⟨rfl, trivial⟩⟩⟩) ?_)
  refine ab_iconst (v := 0) dX12_hasWay_0 (by decide) ?_
  refine ab_istore_n (i := 3) (L' := [some (.ref 82), some (.int x1), some (.int x2), some (.int 0)]) dX12_hasWay_1 rfl (by exact (Nat.le_of_ble_eq_true rfl)) rfl rfl ?_
  exact Wp.fewer (L' := [some (.ref 82), some (.int x1), some (.int x2), some (.int 0)]) (show ab_leL _ _ from ⟨rfl, ⟨rfl, ⟨rfl, ⟨rfl, trivial⟩⟩⟩⟩) ht
theorem dX12_comesBehind_0 : decode cX12_comesBehind 0 = .ok (.iload_n 1, 1) := by decide +kernel
theorem dX12_comesBehind_1 : decode cX12_comesBehind 1 = .ok (.iconst 3, 1) := by decide +kernel
theorem dX12_comesBehind_2 : decode cX12_comesBehind 2 = .ok (.aload_n 0, 1) := by decide +kernel
theorem dX12_comesBehind_3 : decode cX12_comesBehind 3 = .ok (.getfield 20, 3) := by decide +kernel
theorem dX12_comesBehind_6 : decode cX12_comesBehind 6 = .ok (.iload_n 2, 1) := by decide +kernel
theorem dX12_comesBehind_7 : decode cX12_comesBehind 7 = .ok (.iaload, 1) := by decide +kernel
theorem dX12_comesBehind_8 : decode cX12_comesBehind 8 = .ok (.imul, 1) := by decide +kernel
theorem dX12_comesBehind_9 : decode cX12_comesBehind 9 = .ok (.iadd, 1) := by decide +kernel
theorem dX12_comesBehind_10 : decode cX12_comesBehind 10 = .ok (.istore 6, 2) := by decide +kernel
theorem dX12_comesBehind_12 : decode cX12_comesBehind 12 = .ok (.aload_n 0, 1) := by decide +kernel
theorem dX12_comesBehind_13 : decode cX12_comesBehind 13 = .ok (.getfield 20, 3) := by decide +kernel
theorem dX12_comesBehind_16 : decode cX12_comesBehind 16 = .ok (.iload 6, 2) := by decide +kernel
theorem dX12_comesBehind_18 : decode cX12_comesBehind 18 = .ok (.iload_n 3, 1) := by decide +kernel
theorem dX12_comesBehind_19 : decode cX12_comesBehind 19 = .ok (.iastore, 1) := by decide +kernel
theorem dX12_comesBehind_20 : decode cX12_comesBehind 20 = .ok (.aload_n 0, 1) := by decide +kernel
theorem dX12_comesBehind_21 : decode cX12_comesBehind 21 = .ok (.getfield 20, 3) := by decide +kernel
theorem dX12_comesBehind_24 : decode cX12_comesBehind 24 = .ok (.iload 6, 2) := by decide +kernel
theorem dX12_comesBehind_26 : decode cX12_comesBehind 26 = .ok (.iconst 1, 1) := by decide +kernel
theorem dX12_comesBehind_27 : decode cX12_comesBehind 27 = .ok (.iadd, 1) := by decide +kernel
theorem dX12_comesBehind_28 : decode cX12_comesBehind 28 = .ok (.iload 4, 2) := by decide +kernel
theorem dX12_comesBehind_30 : decode cX12_comesBehind 30 = .ok (.iastore, 1) := by decide +kernel
theorem dX12_comesBehind_31 : decode cX12_comesBehind 31 = .ok (.aload_n 0, 1) := by decide +kernel
theorem dX12_comesBehind_32 : decode cX12_comesBehind 32 = .ok (.getfield 20, 3) := by decide +kernel
theorem dX12_comesBehind_35 : decode cX12_comesBehind 35 = .ok (.iload 6, 2) := by decide +kernel
theorem dX12_comesBehind_37 : decode cX12_comesBehind 37 = .ok (.iconst 2, 1) := by decide +kernel
theorem dX12_comesBehind_38 : decode cX12_comesBehind 38 = .ok (.iadd, 1) := by decide +kernel
theorem dX12_comesBehind_39 : decode cX12_comesBehind 39 = .ok (.iload 5, 2) := by decide +kernel
theorem dX12_comesBehind_41 : decode cX12_comesBehind 41 = .ok (.iastore, 1) := by decide +kernel
theorem dX12_comesBehind_42 : decode cX12_comesBehind 42 = .ok (.aload_n 0, 1) := by decide +kernel
theorem dX12_comesBehind_43 : decode cX12_comesBehind 43 = .ok (.getfield 20, 3) := by decide +kernel
theorem dX12_comesBehind_46 : decode cX12_comesBehind 46 = .ok (.iload_n 2, 1) := by decide +kernel
theorem dX12_comesBehind_47 : decode cX12_comesBehind 47 = .ok (.dup2, 1) := by decide +kernel
theorem dX12_comesBehind_48 : decode cX12_comesBehind 48 = .ok (.iaload, 1) := by decide +kernel
theorem dX12_comesBehind_49 : decode cX12_comesBehind 49 = .ok (.iconst 1, 1) := by decide +kernel
theorem dX12_comesBehind_50 : decode cX12_comesBehind 50 = .ok (.iadd, 1) := by decide +kernel
theorem dX12_comesBehind_51 : decode cX12_comesBehind 51 = .ok (.iastore, 1) := by decide +kernel
theorem dX12_comesBehind_52 : decode cX12_comesBehind 52 = .ok (.aload_n 0, 1) := by decide +kernel
theorem dX12_comesBehind_53 : decode cX12_comesBehind 53 = .ok (.getfield 20, 3) := by decide +kernel
theorem dX12_comesBehind_56 : decode cX12_comesBehind 56 = .ok (.iload_n 2, 1) := by decide +kernel
theorem dX12_comesBehind_57 : decode cX12_comesBehind 57 = .ok (.iaload, 1) := by decide +kernel
theorem dX12_comesBehind_58 : decode cX12_comesBehind 58 = .ok (.ireturn, 1) := by decide +kernel
set_option maxRecDepth 20000 in
theorem T_X12_comesBehind {Q : Option Value → ah_T → Prop} {h : ah_T} (hs : Sh h) (x1 : Int32) (x2 : Int32) (x3 : Int32) (x4 : Int32) (x5 : Int32) (ht : (vp_in x2 (ah_n h 84)) ∧ (vp_in (x1 + (3 * (ah_i h 84 (Int32.toNatClampNeg x2)))) (ah_n h 84)) ∧ (∀ h3, h3 = ah_si h 84 (Int32.toNatClampNeg (x1 + (3 * (ah_i h 84 (Int32.toNatClampNeg x2))))) x3 → (vp_in ((x1 + (3 * (ah_i h 84 (Int32.toNatClampNeg x2)))) + 1) (ah_n h3 84)) ∧ (∀ h7, h7 = ah_si h3 84 (Int32.toNatClampNeg ((x1 + (3 * (ah_i h 84 (Int32.toNatClampNeg x2)))) + 1)) x4 → (vp_in ((x1 + (3 * (ah_i h 84 (Int32.toNatClampNeg x2)))) + 2) (ah_n h7 84)) ∧ (∀ h11, h11 = ah_si h7 84 (Int32.toNatClampNeg ((x1 + (3 * (ah_i h 84 (Int32.toNatClampNeg x2)))) + 2)) x5 → (vp_in x2 (ah_n h11 84)) ∧ (vp_in x2 (ah_n h11 84)) ∧ (∀ h16, h16 = ah_si h11 84 (Int32.toNatClampNeg x2) ((ah_i h11 84 (Int32.toNatClampNeg x2)) + 1) → (vp_in x2 (ah_n h16 84)) ∧ Q (some (.int (ah_i h16 84 (Int32.toNatClampNeg x2)))) h16))))) : Mt mX12_comesBehind [.ref 82, .int x1, .int x2, .int x3, .int x4, .int x5] h Q := by
  refine Mt.ofWp rfl (by exact (Nat.le_of_ble_eq_true rfl)) (Wp.fewer (L' := [some (.ref 82), some (.int x1), some (.int x2), some (.int x3), some (.int x4), some (.int x5), none]) (show ab_leL _ _ from ⟨rfl, ⟨rfl, ⟨rfl, ⟨rfl, ⟨rfl, ⟨rfl, trivial⟩⟩⟩⟩⟩⟩) ?_)
  refine ab_iload_n (i := 1) dX12_comesBehind_0 rfl rfl ?_
  refine ab_iconst (v := 3) dX12_comesBehind_1 (by decide) ?_
  refine ab_aload_n (i := 0) dX12_comesBehind_2 rfl rfl ?_
  refine ab_getR (b := 84) f_X12_20 rfl (sh_k hs 82 12 (by decide) rfl) (sh_r hs 100 rfl) dX12_comesBehind_3 ?_
  refine ab_iload_n (i := 2) dX12_comesBehind_6 rfl rfl ?_
  obtain ⟨hc1, ht⟩ := ht
  refine ab_iald (sh_k hs 84 14 (by decide) rfl) hc1 dX12_comesBehind_7 ?_
  refine ab_imul dX12_comesBehind_8 ?_
  refine ab_iadd dX12_comesBehind_9 ?_
  refine ab_istore (i := 6) (L' := [some (.ref 82), some (.int x1), some (.int x2), some (.int x3), some (.int x4), some (.int x5), some (.int (x1 + (3 * (ah_i h 84 (Int32.toNatClampNeg x2)))))]) dX12_comesBehind_10 (by exact (Nat.le_of_ble_eq_true rfl)) rfl rfl ?_
  refine ab_aload_n (i := 0) dX12_comesBehind_12 rfl rfl ?_
  refine ab_getR (b := 84) f_X12_20 rfl (sh_k hs 82 12 (by decide) rfl) (sh_r hs 100 rfl) dX12_comesBehind_13 ?_
  refine ab_iload (i := 6) dX12_comesBehind_16 rfl ?_
  refine ab_iload_n (i := 3) dX12_comesBehind_18 rfl rfl ?_
  obtain ⟨hc2, ht⟩ := ht
  refine ab_iast (sh_k hs 84 14 (by decide) rfl) hc2 dX12_comesBehind_19 ?_
  refine Wp.nm fun h3 e4 => ?_
  have ht := ht h3 e4
  have hs5 : Sh h3 := by rw [e4]; exact sh_si hs
  refine ab_aload_n (i := 0) dX12_comesBehind_20 rfl rfl ?_
  refine ab_getR (b := 84) f_X12_20 rfl (sh_k hs5 82 12 (by decide) rfl) (sh_r hs5 100 rfl) dX12_comesBehind_21 ?_
  refine ab_iload (i := 6) dX12_comesBehind_24 rfl ?_
  refine ab_iconst (v := 1) dX12_comesBehind_26 (by decide) ?_
  refine ab_iadd dX12_comesBehind_27 ?_
  refine ab_iload (i := 4) dX12_comesBehind_28 rfl ?_
  obtain ⟨hc6, ht⟩ := ht
  refine ab_iast (sh_k hs5 84 14 (by decide) rfl) hc6 dX12_comesBehind_30 ?_
  refine Wp.nm fun h7 e8 => ?_
  have ht := ht h7 e8
  have hs9 : Sh h7 := by rw [e8]; exact sh_si hs5
  refine ab_aload_n (i := 0) dX12_comesBehind_31 rfl rfl ?_
  refine ab_getR (b := 84) f_X12_20 rfl (sh_k hs9 82 12 (by decide) rfl) (sh_r hs9 100 rfl) dX12_comesBehind_32 ?_
  refine ab_iload (i := 6) dX12_comesBehind_35 rfl ?_
  refine ab_iconst (v := 2) dX12_comesBehind_37 (by decide) ?_
  refine ab_iadd dX12_comesBehind_38 ?_
  refine ab_iload (i := 5) dX12_comesBehind_39 rfl ?_
  obtain ⟨hc10, ht⟩ := ht
  refine ab_iast (sh_k hs9 84 14 (by decide) rfl) hc10 dX12_comesBehind_41 ?_
  refine Wp.nm fun h11 e12 => ?_
  have ht := ht h11 e12
  have hs13 : Sh h11 := by rw [e12]; exact sh_si hs9
  refine ab_aload_n (i := 0) dX12_comesBehind_42 rfl rfl ?_
  refine ab_getR (b := 84) f_X12_20 rfl (sh_k hs13 82 12 (by decide) rfl) (sh_r hs13 100 rfl) dX12_comesBehind_43 ?_
  refine ab_iload_n (i := 2) dX12_comesBehind_46 rfl rfl ?_
  refine ab_dup2 dX12_comesBehind_47 rfl rfl ?_
  obtain ⟨hc14, ht⟩ := ht
  refine ab_iald (sh_k hs13 84 14 (by decide) rfl) hc14 dX12_comesBehind_48 ?_
  refine ab_iconst (v := 1) dX12_comesBehind_49 (by decide) ?_
  refine ab_iadd dX12_comesBehind_50 ?_
  obtain ⟨hc15, ht⟩ := ht
  refine ab_iast (sh_k hs13 84 14 (by decide) rfl) hc15 dX12_comesBehind_51 ?_
  refine Wp.nm fun h16 e17 => ?_
  have ht := ht h16 e17
  have hs18 : Sh h16 := by rw [e17]; exact sh_si hs13
  refine ab_aload_n (i := 0) dX12_comesBehind_52 rfl rfl ?_
  refine ab_getR (b := 84) f_X12_20 rfl (sh_k hs18 82 12 (by decide) rfl) (sh_r hs18 100 rfl) dX12_comesBehind_53 ?_
  refine ab_iload_n (i := 2) dX12_comesBehind_56 rfl rfl ?_
  obtain ⟨hc19, ht⟩ := ht
  refine ab_iald (sh_k hs18 84 14 (by decide) rfl) hc19 dX12_comesBehind_57 ?_
  exact ab_iret rfl dX12_comesBehind_58 (Nat.le_of_ble_eq_true rfl) (Nat.le_of_ble_eq_true rfl) ht
theorem dX12_way_0 : decode cX12_way 0 = .ok (.iload_n 1, 1) := by decide +kernel
theorem dX12_way_1 : decode cX12_way 1 = .ok (.invokestatic 174, 3) := by decide +kernel
theorem dX12_way_4 : decode cX12_way 4 = .ok (.ifCond .eq 15, 3) := by decide +kernel
theorem dX12_way_7 : decode cX12_way 7 = .ok (.iload_n 2, 1) := by decide +kernel
theorem dX12_way_8 : decode cX12_way 8 = .ok (.invokestatic 174, 3) := by decide +kernel
theorem dX12_way_11 : decode cX12_way 11 = .ok (.ifCond .eq 8, 3) := by decide +kernel
theorem dX12_way_14 : decode cX12_way 14 = .ok (.iload_n 1, 1) := by decide +kernel
theorem dX12_way_15 : decode cX12_way 15 = .ok (.iload_n 2, 1) := by decide +kernel
theorem dX12_way_16 : decode cX12_way 16 = .ok (.if_icmp .ne 9, 3) := by decide +kernel
theorem dX12_way_19 : decode cX12_way 19 = .ok (.aload_n 0, 1) := by decide +kernel
theorem dX12_way_20 : decode cX12_way 20 = .ok (.iconst (-1), 1) := by decide +kernel
theorem dX12_way_21 : decode cX12_way 21 = .ok (.invokevirtual 160, 3) := by decide +kernel
theorem dX12_way_24 : decode cX12_way 24 = .ok (.ireturn, 1) := by decide +kernel
theorem dX12_way_25 : decode cX12_way 25 = .ok (.aload_n 0, 1) := by decide +kernel
theorem dX12_way_26 : decode cX12_way 26 = .ok (.iload_n 1, 1) := by decide +kernel
theorem dX12_way_27 : decode cX12_way 27 = .ok (.iload_n 2, 1) := by decide +kernel
theorem dX12_way_28 : decode cX12_way 28 = .ok (.invokevirtual 178, 3) := by decide +kernel
theorem dX12_way_31 : decode cX12_way 31 = .ok (.ifCond .eq 10, 3) := by decide +kernel
theorem dX12_way_34 : decode cX12_way 34 = .ok (.aload_n 0, 1) := by decide +kernel
theorem dX12_way_35 : decode cX12_way 35 = .ok (.bipush (-3), 2) := by decide +kernel
theorem dX12_way_37 : decode cX12_way 37 = .ok (.invokevirtual 160, 3) := by decide +kernel
theorem dX12_way_40 : decode cX12_way 40 = .ok (.ireturn, 1) := by decide +kernel
theorem dX12_way_41 : decode cX12_way 41 = .ok (.aload_n 0, 1) := by decide +kernel
theorem dX12_way_42 : decode cX12_way 42 = .ok (.getfield 20, 3) := by decide +kernel
theorem dX12_way_45 : decode cX12_way 45 = .ok (.sipush 245, 3) := by decide +kernel
theorem dX12_way_48 : decode cX12_way 48 = .ok (.iaload, 1) := by decide +kernel
theorem dX12_way_49 : decode cX12_way 49 = .ok (.bipush 20, 2) := by decide +kernel
theorem dX12_way_51 : decode cX12_way 51 = .ok (.if_icmp .ne 10, 3) := by decide +kernel
theorem dX12_way_54 : decode cX12_way 54 = .ok (.aload_n 0, 1) := by decide +kernel
theorem dX12_way_55 : decode cX12_way 55 = .ok (.bipush (-5), 2) := by decide +kernel
theorem dX12_way_57 : decode cX12_way 57 = .ok (.invokevirtual 160, 3) := by decide +kernel
theorem dX12_way_60 : decode cX12_way 60 = .ok (.ireturn, 1) := by decide +kernel
theorem dX12_way_61 : decode cX12_way 61 = .ok (.aload_n 0, 1) := by decide +kernel
theorem dX12_way_62 : decode cX12_way 62 = .ok (.aload_n 0, 1) := by decide +kernel
theorem dX12_way_63 : decode cX12_way 63 = .ok (.iconst 0, 1) := by decide +kernel
theorem dX12_way_64 : decode cX12_way 64 = .ok (.sipush 245, 3) := by decide +kernel
theorem dX12_way_67 : decode cX12_way 67 = .ok (.iload_n 1, 1) := by decide +kernel
theorem dX12_way_68 : decode cX12_way 68 = .ok (.iload_n 2, 1) := by decide +kernel
theorem dX12_way_69 : decode cX12_way 69 = .ok (.invokestatic 167, 3) := by decide +kernel
theorem dX12_way_72 : decode cX12_way 72 = .ok (.iload_n 1, 1) := by decide +kernel
theorem dX12_way_73 : decode cX12_way 73 = .ok (.iload_n 2, 1) := by decide +kernel
theorem dX12_way_74 : decode cX12_way 74 = .ok (.iadd, 1) := by decide +kernel
theorem dX12_way_75 : decode cX12_way 75 = .ok (.iload_n 1, 1) := by decide +kernel
theorem dX12_way_76 : decode cX12_way 76 = .ok (.iload_n 2, 1) := by decide +kernel
theorem dX12_way_77 : decode cX12_way 77 = .ok (.invokestatic 167, 3) := by decide +kernel
theorem dX12_way_80 : decode cX12_way 80 = .ok (.isub, 1) := by decide +kernel
theorem dX12_way_81 : decode cX12_way 81 = .ok (.iconst 0, 1) := by decide +kernel
theorem dX12_way_82 : decode cX12_way 82 = .ok (.invokevirtual 182, 3) := by decide +kernel
theorem dX12_way_85 : decode cX12_way 85 = .ok (.iconst 1, 1) := by decide +kernel
theorem dX12_way_86 : decode cX12_way 86 = .ok (.isub, 1) := by decide +kernel
theorem dX12_way_87 : decode cX12_way 87 = .ok (.invokevirtual 164, 3) := by decide +kernel
theorem dX12_way_90 : decode cX12_way 90 = .ok (.ireturn, 1) := by decide +kernel
set_option maxRecDepth 20000 in
theorem T_X12_way {Q : Option Value → ah_T → Prop} {h : ah_T} (hs : Sh h) (x1 : Int32) (x2 : Int32) (ht : (((f_X12_isCorner x1) = 0 → (Mt mX12_refuses [.ref 82, .int (-1)] h (ab_qi fun v4 h2 => Sh h2 ∧ Q (some (.int v4)) h2))) ∧ (¬ (f_X12_isCorner x1) = 0 → (((f_X12_isCorner x2) = 0 → (Mt mX12_refuses [.ref 82, .int (-1)] h (ab_qi fun v8 h6 => Sh h6 ∧ Q (some (.int v8)) h6))) ∧ (¬ (f_X12_isCorner x2) = 0 → ((¬ x1 = x2 → (Mt mX12_hasWay [.ref 82, .int x1, .int x2] h (ab_qi fun v12 h10 => Sh h10 ∧ ((v12 = 0 → ((¬ (ah_i h10 84 (Int32.toNatClampNeg 245)) = 20 → (Mt mX12_comesBehind [.ref 82, .int 0, .int 245, .int (f_X12_lesser x1 x2), .int ((x1 + x2) - (f_X12_lesser x1 x2)), .int 0] h10 (ab_qi fun v17 h15 => Sh h15 ∧ (Mt mX12_good [.ref 82, .int (v17 - 1)] h15 (ab_qi fun v20 h18 => Sh h18 ∧ Q (some (.int v20)) h18))))) ∧ ((ah_i h10 84 (Int32.toNatClampNeg 245)) = 20 → (Mt mX12_refuses [.ref 82, .int (-5)] h10 (ab_qi fun v23 h21 => Sh h21 ∧ Q (some (.int v23)) h21))))) ∧ (¬ v12 = 0 → (Mt mX12_refuses [.ref 82, .int (-3)] h10 (ab_qi fun v26 h24 => Sh h24 ∧ Q (some (.int v26)) h24))))))) ∧ (x1 = x2 → (Mt mX12_refuses [.ref 82, .int (-1)] h (ab_qi fun v29 h27 => Sh h27 ∧ Q (some (.int v29)) h27))))))))) : Mt mX12_way [.ref 82, .int x1, .int x2] h Q := by
  refine Mt.ofWp rfl (by exact (Nat.le_of_ble_eq_true rfl)) (Wp.fewer (L' := [some (.ref 82), some (.int x1), some (.int x2)]) (show ab_leL _ _ from ⟨rfl, ⟨rfl, ⟨rfl, trivial⟩⟩⟩) ?_)
  refine ab_iload_n (i := 1) dX12_way_0 rfl rfl ?_
  refine ab_callS (Q' := fun r h' => r = some (.int (f_X12_isCorner x1)) ∧ h = h') (As := [.int x1]) (c_X12_isCorner hs x1 ⟨rfl, rfl⟩) (Y_X12_isCorner) l_X12_174 st_X12_isCorner rfl ⟨(Nat.le_of_ble_eq_true rfl), (Nat.le_of_ble_eq_true rfl), (Nat.le_of_ble_eq_true rfl), (Nat.le_of_ble_eq_true rfl)⟩ dX12_way_1 ?_
  rintro _ _ ⟨rfl, rfl⟩
  refine ab_if_eq (tgt := 19) dX12_way_4 (by decide) (fun c1 => ?_) (fun c1 => ?_)
  · have ht := ht.1 c1
    refine ab_aload_n (i := 0) dX12_way_19 rfl rfl ?_
    refine ab_iconst (v := (-1)) dX12_way_20 (by decide) ?_
    refine ab_callV (b := 82) (As := [.int (-1)]) ht (Y_X12_refuses) l_X12_160 in_X12_refuses se_X12_refuses (sh_k hs 82 12 (by decide) rfl) (by decide) rfl rfl ⟨(Nat.le_of_ble_eq_true rfl), (Nat.le_of_ble_eq_true rfl), (Nat.le_of_ble_eq_true rfl), (Nat.le_of_ble_eq_true rfl)⟩ dX12_way_21 ?_
    rintro _ h2 ⟨v4, rfl, hs3, ht⟩
    exact ab_iret rfl dX12_way_24 (Nat.le_of_ble_eq_true rfl) (Nat.le_of_ble_eq_true rfl) ht
  · have ht := ht.2 c1
    refine ab_iload_n (i := 2) dX12_way_7 rfl rfl ?_
    refine ab_callS (Q' := fun r h' => r = some (.int (f_X12_isCorner x2)) ∧ h = h') (As := [.int x2]) (c_X12_isCorner hs x2 ⟨rfl, rfl⟩) (Y_X12_isCorner) l_X12_174 st_X12_isCorner rfl ⟨(Nat.le_of_ble_eq_true rfl), (Nat.le_of_ble_eq_true rfl), (Nat.le_of_ble_eq_true rfl), (Nat.le_of_ble_eq_true rfl)⟩ dX12_way_8 ?_
    rintro _ _ ⟨rfl, rfl⟩
    refine ab_if_eq (tgt := 19) dX12_way_11 (by decide) (fun c5 => ?_) (fun c5 => ?_)
    · have ht := ht.1 c5
      refine ab_aload_n (i := 0) dX12_way_19 rfl rfl ?_
      refine ab_iconst (v := (-1)) dX12_way_20 (by decide) ?_
      refine ab_callV (b := 82) (As := [.int (-1)]) ht (Y_X12_refuses) l_X12_160 in_X12_refuses se_X12_refuses (sh_k hs 82 12 (by decide) rfl) (by decide) rfl rfl ⟨(Nat.le_of_ble_eq_true rfl), (Nat.le_of_ble_eq_true rfl), (Nat.le_of_ble_eq_true rfl), (Nat.le_of_ble_eq_true rfl)⟩ dX12_way_21 ?_
      rintro _ h6 ⟨v8, rfl, hs7, ht⟩
      exact ab_iret rfl dX12_way_24 (Nat.le_of_ble_eq_true rfl) (Nat.le_of_ble_eq_true rfl) ht
    · have ht := ht.2 c5
      refine ab_iload_n (i := 1) dX12_way_14 rfl rfl ?_
      refine ab_iload_n (i := 2) dX12_way_15 rfl rfl ?_
      refine ab_icmp_ne (tgt := 25) dX12_way_16 (by decide) (fun c9 => ?_) (fun c9 => ?_)
      · have ht := ht.1 c9
        refine ab_aload_n (i := 0) dX12_way_25 rfl rfl ?_
        refine ab_iload_n (i := 1) dX12_way_26 rfl rfl ?_
        refine ab_iload_n (i := 2) dX12_way_27 rfl rfl ?_
        refine ab_callV (b := 82) (As := [.int x1, .int x2]) ht (Y_X12_hasWay) l_X12_178 in_X12_hasWay se_X12_hasWay (sh_k hs 82 12 (by decide) rfl) (by decide) rfl rfl ⟨(Nat.le_of_ble_eq_true rfl), (Nat.le_of_ble_eq_true rfl), (Nat.le_of_ble_eq_true rfl), (Nat.le_of_ble_eq_true rfl)⟩ dX12_way_28 ?_
        rintro _ h10 ⟨v12, rfl, hs11, ht⟩
        refine ab_if_eq (tgt := 41) dX12_way_31 (by decide) (fun c13 => ?_) (fun c13 => ?_)
        · have ht := ht.1 c13
          refine ab_aload_n (i := 0) dX12_way_41 rfl rfl ?_
          refine ab_getR (b := 84) f_X12_20 rfl (sh_k hs11 82 12 (by decide) rfl) (sh_r hs11 100 rfl) dX12_way_42 ?_
          refine ab_sipush (v := 245) dX12_way_45 (by decide) ?_
          refine ab_iald (sh_k hs11 84 14 (by decide) rfl) (sh_in hs11 84 5860 (by decide) (by decide) rfl (by unfold vp_in; decide)) dX12_way_48 ?_
          refine ab_bipush (v := 20) dX12_way_49 (by decide) ?_
          refine ab_icmp_ne (tgt := 61) dX12_way_51 (by decide) (fun c14 => ?_) (fun c14 => ?_)
          · have ht := ht.1 c14
            refine ab_aload_n (i := 0) dX12_way_61 rfl rfl ?_
            refine ab_aload_n (i := 0) dX12_way_62 rfl rfl ?_
            refine ab_iconst (v := 0) dX12_way_63 (by decide) ?_
            refine ab_sipush (v := 245) dX12_way_64 (by decide) ?_
            refine ab_iload_n (i := 1) dX12_way_67 rfl rfl ?_
            refine ab_iload_n (i := 2) dX12_way_68 rfl rfl ?_
            refine ab_callS (Q' := fun r h' => r = some (.int (f_X12_lesser x1 x2)) ∧ h10 = h') (As := [.int x1, .int x2]) (c_X12_lesser hs11 x1 x2 ⟨rfl, rfl⟩) (Y_X12_lesser) l_X12_167 st_X12_lesser rfl ⟨(Nat.le_of_ble_eq_true rfl), (Nat.le_of_ble_eq_true rfl), (Nat.le_of_ble_eq_true rfl), (Nat.le_of_ble_eq_true rfl)⟩ dX12_way_69 ?_
            rintro _ _ ⟨rfl, rfl⟩
            refine ab_iload_n (i := 1) dX12_way_72 rfl rfl ?_
            refine ab_iload_n (i := 2) dX12_way_73 rfl rfl ?_
            refine ab_iadd dX12_way_74 ?_
            refine ab_iload_n (i := 1) dX12_way_75 rfl rfl ?_
            refine ab_iload_n (i := 2) dX12_way_76 rfl rfl ?_
            refine ab_callS (Q' := fun r h' => r = some (.int (f_X12_lesser x1 x2)) ∧ h10 = h') (As := [.int x1, .int x2]) (c_X12_lesser hs11 x1 x2 ⟨rfl, rfl⟩) (Y_X12_lesser) l_X12_167 st_X12_lesser rfl ⟨(Nat.le_of_ble_eq_true rfl), (Nat.le_of_ble_eq_true rfl), (Nat.le_of_ble_eq_true rfl), (Nat.le_of_ble_eq_true rfl)⟩ dX12_way_77 ?_
            rintro _ _ ⟨rfl, rfl⟩
            refine ab_isub dX12_way_80 ?_
            refine ab_iconst (v := 0) dX12_way_81 (by decide) ?_
            refine ab_callV (b := 82) (As := [.int 0, .int 245, .int (f_X12_lesser x1 x2), .int ((x1 + x2) - (f_X12_lesser x1 x2)), .int 0]) ht (Y_X12_comesBehind) l_X12_182 in_X12_comesBehind se_X12_comesBehind (sh_k hs11 82 12 (by decide) rfl) (by decide) rfl rfl ⟨(Nat.le_of_ble_eq_true rfl), (Nat.le_of_ble_eq_true rfl), (Nat.le_of_ble_eq_true rfl), (Nat.le_of_ble_eq_true rfl)⟩ dX12_way_82 ?_
            rintro _ h15 ⟨v17, rfl, hs16, ht⟩
            refine ab_iconst (v := 1) dX12_way_85 (by decide) ?_
            refine ab_isub dX12_way_86 ?_
            refine ab_callV (b := 82) (As := [.int (v17 - 1)]) ht (Y_X12_good) l_X12_164 in_X12_good se_X12_good (sh_k hs16 82 12 (by decide) rfl) (by decide) rfl rfl ⟨(Nat.le_of_ble_eq_true rfl), (Nat.le_of_ble_eq_true rfl), (Nat.le_of_ble_eq_true rfl), (Nat.le_of_ble_eq_true rfl)⟩ dX12_way_87 ?_
            rintro _ h18 ⟨v20, rfl, hs19, ht⟩
            exact ab_iret rfl dX12_way_90 (Nat.le_of_ble_eq_true rfl) (Nat.le_of_ble_eq_true rfl) ht
          · have ht := ht.2 c14
            refine ab_aload_n (i := 0) dX12_way_54 rfl rfl ?_
            refine ab_bipush (v := (-5)) dX12_way_55 (by decide) ?_
            refine ab_callV (b := 82) (As := [.int (-5)]) ht (Y_X12_refuses) l_X12_160 in_X12_refuses se_X12_refuses (sh_k hs11 82 12 (by decide) rfl) (by decide) rfl rfl ⟨(Nat.le_of_ble_eq_true rfl), (Nat.le_of_ble_eq_true rfl), (Nat.le_of_ble_eq_true rfl), (Nat.le_of_ble_eq_true rfl)⟩ dX12_way_57 ?_
            rintro _ h21 ⟨v23, rfl, hs22, ht⟩
            exact ab_iret rfl dX12_way_60 (Nat.le_of_ble_eq_true rfl) (Nat.le_of_ble_eq_true rfl) ht
        · have ht := ht.2 c13
          refine ab_aload_n (i := 0) dX12_way_34 rfl rfl ?_
          refine ab_bipush (v := (-3)) dX12_way_35 (by decide) ?_
          refine ab_callV (b := 82) (As := [.int (-3)]) ht (Y_X12_refuses) l_X12_160 in_X12_refuses se_X12_refuses (sh_k hs11 82 12 (by decide) rfl) (by decide) rfl rfl ⟨(Nat.le_of_ble_eq_true rfl), (Nat.le_of_ble_eq_true rfl), (Nat.le_of_ble_eq_true rfl), (Nat.le_of_ble_eq_true rfl)⟩ dX12_way_37 ?_
          rintro _ h24 ⟨v26, rfl, hs25, ht⟩
          exact ab_iret rfl dX12_way_40 (Nat.le_of_ble_eq_true rfl) (Nat.le_of_ble_eq_true rfl) ht
      · have ht := ht.2 c9
        refine ab_aload_n (i := 0) dX12_way_19 rfl rfl ?_
        refine ab_iconst (v := (-1)) dX12_way_20 (by decide) ?_
        refine ab_callV (b := 82) (As := [.int (-1)]) ht (Y_X12_refuses) l_X12_160 in_X12_refuses se_X12_refuses (sh_k hs 82 12 (by decide) rfl) (by decide) rfl rfl ⟨(Nat.le_of_ble_eq_true rfl), (Nat.le_of_ble_eq_true rfl), (Nat.le_of_ble_eq_true rfl), (Nat.le_of_ble_eq_true rfl)⟩ dX12_way_21 ?_
        rintro _ h27 ⟨v29, rfl, hs28, ht⟩
        exact ab_iret rfl dX12_way_24 (Nat.le_of_ble_eq_true rfl) (Nat.le_of_ble_eq_true rfl) ht
theorem dX12_replaces_0 : decode cX12_replaces 0 = .ok (.aload_n 0, 1) := by decide +kernel
theorem dX12_replaces_1 : decode cX12_replaces 1 = .ok (.getfield 20, 3) := by decide +kernel
theorem dX12_replaces_4 : decode cX12_replaces 4 = .ok (.iload_n 1, 1) := by decide +kernel
theorem dX12_replaces_5 : decode cX12_replaces 5 = .ok (.iaload, 1) := by decide +kernel
theorem dX12_replaces_6 : decode cX12_replaces 6 = .ok (.istore_n 3, 1) := by decide +kernel
theorem dX12_replaces_7 : decode cX12_replaces 7 = .ok (.aload_n 0, 1) := by decide +kernel
theorem dX12_replaces_8 : decode cX12_replaces 8 = .ok (.getfield 20, 3) := by decide +kernel
theorem dX12_replaces_11 : decode cX12_replaces 11 = .ok (.iload_n 1, 1) := by decide +kernel
theorem dX12_replaces_12 : decode cX12_replaces 12 = .ok (.iload_n 2, 1) := by decide +kernel
theorem dX12_replaces_13 : decode cX12_replaces 13 = .ok (.iastore, 1) := by decide +kernel
theorem dX12_replaces_14 : decode cX12_replaces 14 = .ok (.aload_n 0, 1) := by decide +kernel
theorem dX12_replaces_15 : decode cX12_replaces 15 = .ok (.iload_n 3, 1) := by decide +kernel
theorem dX12_replaces_16 : decode cX12_replaces 16 = .ok (.invokevirtual 164, 3) := by decide +kernel
theorem dX12_replaces_19 : decode cX12_replaces 19 = .ok (.ireturn, 1) := by decide +kernel
set_option maxRecDepth 20000 in
theorem T_X12_replaces {Q : Option Value → ah_T → Prop} {h : ah_T} (hs : Sh h) (x1 : Int32) (x2 : Int32) (ht : (vp_in x1 (ah_n h 84)) ∧ (vp_in x1 (ah_n h 84)) ∧ (∀ h3, h3 = ah_si h 84 (Int32.toNatClampNeg x1) x2 → (Mt mX12_good [.ref 82, .int (ah_i h 84 (Int32.toNatClampNeg x1))] h3 (ab_qi fun v8 h6 => Sh h6 ∧ Q (some (.int v8)) h6)))) : Mt mX12_replaces [.ref 82, .int x1, .int x2] h Q := by
  refine Mt.ofWp rfl (by exact (Nat.le_of_ble_eq_true rfl)) (Wp.fewer (L' := [some (.ref 82), some (.int x1), some (.int x2), none]) (show ab_leL _ _ from ⟨rfl, ⟨rfl, ⟨rfl, trivial⟩⟩⟩) ?_)
  refine ab_aload_n (i := 0) dX12_replaces_0 rfl rfl ?_
  refine ab_getR (b := 84) f_X12_20 rfl (sh_k hs 82 12 (by decide) rfl) (sh_r hs 100 rfl) dX12_replaces_1 ?_
  refine ab_iload_n (i := 1) dX12_replaces_4 rfl rfl ?_
  obtain ⟨hc1, ht⟩ := ht
  refine ab_iald (sh_k hs 84 14 (by decide) rfl) hc1 dX12_replaces_5 ?_
  refine ab_istore_n (i := 3) (L' := [some (.ref 82), some (.int x1), some (.int x2), some (.int (ah_i h 84 (Int32.toNatClampNeg x1)))]) dX12_replaces_6 rfl (by exact (Nat.le_of_ble_eq_true rfl)) rfl rfl ?_
  refine ab_aload_n (i := 0) dX12_replaces_7 rfl rfl ?_
  refine ab_getR (b := 84) f_X12_20 rfl (sh_k hs 82 12 (by decide) rfl) (sh_r hs 100 rfl) dX12_replaces_8 ?_
  refine ab_iload_n (i := 1) dX12_replaces_11 rfl rfl ?_
  refine ab_iload_n (i := 2) dX12_replaces_12 rfl rfl ?_
  obtain ⟨hc2, ht⟩ := ht
  refine ab_iast (sh_k hs 84 14 (by decide) rfl) hc2 dX12_replaces_13 ?_
  refine Wp.nm fun h3 e4 => ?_
  have ht := ht h3 e4
  have hs5 : Sh h3 := by rw [e4]; exact sh_si hs
  refine ab_aload_n (i := 0) dX12_replaces_14 rfl rfl ?_
  refine ab_iload_n (i := 3) dX12_replaces_15 rfl rfl ?_
  refine ab_callV (b := 82) (As := [.int (ah_i h 84 (Int32.toNatClampNeg x1))]) ht (Y_X12_good) l_X12_164 in_X12_good se_X12_good (sh_k hs5 82 12 (by decide) rfl) (by decide) rfl rfl ⟨(Nat.le_of_ble_eq_true rfl), (Nat.le_of_ble_eq_true rfl), (Nat.le_of_ble_eq_true rfl), (Nat.le_of_ble_eq_true rfl)⟩ dX12_replaces_16 ?_
  rintro _ h6 ⟨v8, rfl, hs7, ht⟩
  exact ab_iret rfl dX12_replaces_19 (Nat.le_of_ble_eq_true rfl) (Nat.le_of_ble_eq_true rfl) ht
theorem dX12_shutter_0 : decode cX12_shutter 0 = .ok (.iload_n 2, 1) := by decide +kernel
theorem dX12_shutter_1 : decode cX12_shutter 1 = .ok (.iconst 0, 1) := by decide +kernel
theorem dX12_shutter_2 : decode cX12_shutter 2 = .ok (.iconst 1, 1) := by decide +kernel
theorem dX12_shutter_3 : decode cX12_shutter 3 = .ok (.invokestatic 156, 3) := by decide +kernel
theorem dX12_shutter_6 : decode cX12_shutter 6 = .ok (.ifCond .ne 9, 3) := by decide +kernel
theorem dX12_shutter_9 : decode cX12_shutter 9 = .ok (.aload_n 0, 1) := by decide +kernel
theorem dX12_shutter_10 : decode cX12_shutter 10 = .ok (.iconst (-1), 1) := by decide +kernel
theorem dX12_shutter_11 : decode cX12_shutter 11 = .ok (.invokevirtual 160, 3) := by decide +kernel
theorem dX12_shutter_14 : decode cX12_shutter 14 = .ok (.ireturn, 1) := by decide +kernel
theorem dX12_shutter_15 : decode cX12_shutter 15 = .ok (.aload_n 0, 1) := by decide +kernel
theorem dX12_shutter_16 : decode cX12_shutter 16 = .ok (.iload_n 1, 1) := by decide +kernel
theorem dX12_shutter_17 : decode cX12_shutter 17 = .ok (.invokevirtual 186, 3) := by decide +kernel
theorem dX12_shutter_20 : decode cX12_shutter 20 = .ok (.ifCond .eq 18, 3) := by decide +kernel
theorem dX12_shutter_23 : decode cX12_shutter 23 = .ok (.aload_n 0, 1) := by decide +kernel
theorem dX12_shutter_24 : decode cX12_shutter 24 = .ok (.iconst 0, 1) := by decide +kernel
theorem dX12_shutter_25 : decode cX12_shutter 25 = .ok (.iconst 3, 1) := by decide +kernel
theorem dX12_shutter_26 : decode cX12_shutter 26 = .ok (.iload_n 1, 1) := by decide +kernel
theorem dX12_shutter_27 : decode cX12_shutter 27 = .ok (.imul, 1) := by decide +kernel
theorem dX12_shutter_28 : decode cX12_shutter 28 = .ok (.iadd, 1) := by decide +kernel
theorem dX12_shutter_29 : decode cX12_shutter 29 = .ok (.iconst 2, 1) := by decide +kernel
theorem dX12_shutter_30 : decode cX12_shutter 30 = .ok (.iadd, 1) := by decide +kernel
theorem dX12_shutter_31 : decode cX12_shutter 31 = .ok (.iload_n 2, 1) := by decide +kernel
theorem dX12_shutter_32 : decode cX12_shutter 32 = .ok (.invokevirtual 189, 3) := by decide +kernel
theorem dX12_shutter_35 : decode cX12_shutter 35 = .ok (.goto 9, 3) := by decide +kernel
theorem dX12_shutter_38 : decode cX12_shutter 38 = .ok (.aload_n 0, 1) := by decide +kernel
theorem dX12_shutter_39 : decode cX12_shutter 39 = .ok (.bipush (-2), 2) := by decide +kernel
theorem dX12_shutter_41 : decode cX12_shutter 41 = .ok (.invokevirtual 160, 3) := by decide +kernel
theorem dX12_shutter_44 : decode cX12_shutter 44 = .ok (.ireturn, 1) := by decide +kernel
set_option maxRecDepth 20000 in
theorem T_X12_shutter {Q : Option Value → ah_T → Prop} {h : ah_T} (hs : Sh h) (x1 : Int32) (x2 : Int32) (ht : ((¬ (f_X12_lies x2 0 1) = 0 → (((f_X12_isWay h x1) = 0 → (Mt mX12_refuses [.ref 82, .int (-2)] h (ab_qi fun v5 h3 => Sh h3 ∧ Q (some (.int v5)) h3))) ∧ (¬ (f_X12_isWay h x1) = 0 → (Mt mX12_replaces [.ref 82, .int ((0 + (3 * x1)) + 2), .int x2] h (ab_qi fun v8 h6 => Sh h6 ∧ Q (some (.int v8)) h6))))) ∧ ((f_X12_lies x2 0 1) = 0 → (Mt mX12_refuses [.ref 82, .int (-1)] h (ab_qi fun v11 h9 => Sh h9 ∧ Q (some (.int v11)) h9))))) : Mt mX12_shutter [.ref 82, .int x1, .int x2] h Q := by
  refine Mt.ofWp rfl (by exact (Nat.le_of_ble_eq_true rfl)) (Wp.fewer (L' := [some (.ref 82), some (.int x1), some (.int x2)]) (show ab_leL _ _ from ⟨rfl, ⟨rfl, ⟨rfl, trivial⟩⟩⟩) ?_)
  refine ab_iload_n (i := 2) dX12_shutter_0 rfl rfl ?_
  refine ab_iconst (v := 0) dX12_shutter_1 (by decide) ?_
  refine ab_iconst (v := 1) dX12_shutter_2 (by decide) ?_
  refine ab_callS (Q' := fun r h' => r = some (.int (f_X12_lies x2 0 1)) ∧ h = h') (As := [.int x2, .int 0, .int 1]) (c_X12_lies hs x2 0 1 ⟨rfl, rfl⟩) (Y_X12_lies) l_X12_156 st_X12_lies rfl ⟨(Nat.le_of_ble_eq_true rfl), (Nat.le_of_ble_eq_true rfl), (Nat.le_of_ble_eq_true rfl), (Nat.le_of_ble_eq_true rfl)⟩ dX12_shutter_3 ?_
  rintro _ _ ⟨rfl, rfl⟩
  refine ab_if_ne (tgt := 15) dX12_shutter_6 (by decide) (fun c1 => ?_) (fun c1 => ?_)
  · have ht := ht.1 c1
    refine ab_aload_n (i := 0) dX12_shutter_15 rfl rfl ?_
    refine ab_iload_n (i := 1) dX12_shutter_16 rfl rfl ?_
    refine ab_callV (b := 82) (Q' := fun r h' => r = some (.int (f_X12_isWay h x1)) ∧ h = h') (As := [.int x1]) (c_X12_isWay hs x1 ⟨rfl, rfl⟩) (Y_X12_isWay) l_X12_186 in_X12_isWay se_X12_isWay (sh_k hs 82 12 (by decide) rfl) (by decide) rfl rfl ⟨(Nat.le_of_ble_eq_true rfl), (Nat.le_of_ble_eq_true rfl), (Nat.le_of_ble_eq_true rfl), (Nat.le_of_ble_eq_true rfl)⟩ dX12_shutter_17 ?_
    rintro _ _ ⟨rfl, rfl⟩
    refine ab_if_eq (tgt := 38) dX12_shutter_20 (by decide) (fun c2 => ?_) (fun c2 => ?_)
    · have ht := ht.1 c2
      refine ab_aload_n (i := 0) dX12_shutter_38 rfl rfl ?_
      refine ab_bipush (v := (-2)) dX12_shutter_39 (by decide) ?_
      refine ab_callV (b := 82) (As := [.int (-2)]) ht (Y_X12_refuses) l_X12_160 in_X12_refuses se_X12_refuses (sh_k hs 82 12 (by decide) rfl) (by decide) rfl rfl ⟨(Nat.le_of_ble_eq_true rfl), (Nat.le_of_ble_eq_true rfl), (Nat.le_of_ble_eq_true rfl), (Nat.le_of_ble_eq_true rfl)⟩ dX12_shutter_41 ?_
      rintro _ h3 ⟨v5, rfl, hs4, ht⟩
      exact ab_iret rfl dX12_shutter_44 (Nat.le_of_ble_eq_true rfl) (Nat.le_of_ble_eq_true rfl) ht
    · have ht := ht.2 c2
      refine ab_aload_n (i := 0) dX12_shutter_23 rfl rfl ?_
      refine ab_iconst (v := 0) dX12_shutter_24 (by decide) ?_
      refine ab_iconst (v := 3) dX12_shutter_25 (by decide) ?_
      refine ab_iload_n (i := 1) dX12_shutter_26 rfl rfl ?_
      refine ab_imul dX12_shutter_27 ?_
      refine ab_iadd dX12_shutter_28 ?_
      refine ab_iconst (v := 2) dX12_shutter_29 (by decide) ?_
      refine ab_iadd dX12_shutter_30 ?_
      refine ab_iload_n (i := 2) dX12_shutter_31 rfl rfl ?_
      refine ab_callV (b := 82) (As := [.int ((0 + (3 * x1)) + 2), .int x2]) ht (Y_X12_replaces) l_X12_189 in_X12_replaces se_X12_replaces (sh_k hs 82 12 (by decide) rfl) (by decide) rfl rfl ⟨(Nat.le_of_ble_eq_true rfl), (Nat.le_of_ble_eq_true rfl), (Nat.le_of_ble_eq_true rfl), (Nat.le_of_ble_eq_true rfl)⟩ dX12_shutter_32 ?_
      rintro _ h6 ⟨v8, rfl, hs7, ht⟩
      refine ab_goto (tgt := 44) dX12_shutter_35 (by decide) ?_
      exact ab_iret rfl dX12_shutter_44 (Nat.le_of_ble_eq_true rfl) (Nat.le_of_ble_eq_true rfl) ht
  · have ht := ht.2 c1
    refine ab_aload_n (i := 0) dX12_shutter_9 rfl rfl ?_
    refine ab_iconst (v := (-1)) dX12_shutter_10 (by decide) ?_
    refine ab_callV (b := 82) (As := [.int (-1)]) ht (Y_X12_refuses) l_X12_160 in_X12_refuses se_X12_refuses (sh_k hs 82 12 (by decide) rfl) (by decide) rfl rfl ⟨(Nat.le_of_ble_eq_true rfl), (Nat.le_of_ble_eq_true rfl), (Nat.le_of_ble_eq_true rfl), (Nat.le_of_ble_eq_true rfl)⟩ dX12_shutter_11 ?_
    rintro _ h9 ⟨v11, rfl, hs10, ht⟩
    exact ab_iret rfl dX12_shutter_14 (Nat.le_of_ble_eq_true rfl) (Nat.le_of_ble_eq_true rfl) ht
theorem dX12_lamp_0 : decode cX12_lamp 0 = .ok (.iconst 0, 1) := by decide +kernel
theorem dX12_lamp_1 : decode cX12_lamp 1 = .ok (.iload_n 1, 1) := by decide +kernel
theorem dX12_lamp_2 : decode cX12_lamp 2 = .ok (.invokestatic 195, 3) := by decide +kernel
theorem dX12_lamp_5 : decode cX12_lamp 5 = .ok (.ifCond .eq 19, 3) := by decide +kernel
theorem dX12_lamp_8 : decode cX12_lamp 8 = .ok (.iconst 1, 1) := by decide +kernel
theorem dX12_lamp_9 : decode cX12_lamp 9 = .ok (.iload_n 2, 1) := by decide +kernel
theorem dX12_lamp_10 : decode cX12_lamp 10 = .ok (.invokestatic 195, 3) := by decide +kernel
theorem dX12_lamp_13 : decode cX12_lamp 13 = .ok (.ifCond .eq 11, 3) := by decide +kernel
theorem dX12_lamp_16 : decode cX12_lamp 16 = .ok (.iconst 2, 1) := by decide +kernel
theorem dX12_lamp_17 : decode cX12_lamp 17 = .ok (.iload_n 3, 1) := by decide +kernel
theorem dX12_lamp_18 : decode cX12_lamp 18 = .ok (.invokestatic 195, 3) := by decide +kernel
theorem dX12_lamp_21 : decode cX12_lamp 21 = .ok (.ifCond .ne 9, 3) := by decide +kernel
theorem dX12_lamp_24 : decode cX12_lamp 24 = .ok (.aload_n 0, 1) := by decide +kernel
theorem dX12_lamp_25 : decode cX12_lamp 25 = .ok (.iconst (-1), 1) := by decide +kernel
theorem dX12_lamp_26 : decode cX12_lamp 26 = .ok (.invokevirtual 160, 3) := by decide +kernel
theorem dX12_lamp_29 : decode cX12_lamp 29 = .ok (.ireturn, 1) := by decide +kernel
theorem dX12_lamp_30 : decode cX12_lamp 30 = .ok (.aload_n 0, 1) := by decide +kernel
theorem dX12_lamp_31 : decode cX12_lamp 31 = .ok (.getfield 20, 3) := by decide +kernel
theorem dX12_lamp_34 : decode cX12_lamp 34 = .ok (.sipush 246, 3) := by decide +kernel
theorem dX12_lamp_37 : decode cX12_lamp 37 = .ok (.iaload, 1) := by decide +kernel
theorem dX12_lamp_38 : decode cX12_lamp 38 = .ok (.bipush 10, 2) := by decide +kernel
theorem dX12_lamp_40 : decode cX12_lamp 40 = .ok (.if_icmp .ne 10, 3) := by decide +kernel
theorem dX12_lamp_43 : decode cX12_lamp 43 = .ok (.aload_n 0, 1) := by decide +kernel
theorem dX12_lamp_44 : decode cX12_lamp 44 = .ok (.bipush (-5), 2) := by decide +kernel
theorem dX12_lamp_46 : decode cX12_lamp 46 = .ok (.invokevirtual 160, 3) := by decide +kernel
theorem dX12_lamp_49 : decode cX12_lamp 49 = .ok (.ireturn, 1) := by decide +kernel
theorem dX12_lamp_50 : decode cX12_lamp 50 = .ok (.aload_n 0, 1) := by decide +kernel
theorem dX12_lamp_51 : decode cX12_lamp 51 = .ok (.aload_n 0, 1) := by decide +kernel
theorem dX12_lamp_52 : decode cX12_lamp 52 = .ok (.bipush 60, 2) := by decide +kernel
theorem dX12_lamp_54 : decode cX12_lamp 54 = .ok (.sipush 246, 3) := by decide +kernel
theorem dX12_lamp_57 : decode cX12_lamp 57 = .ok (.iload_n 1, 1) := by decide +kernel
theorem dX12_lamp_58 : decode cX12_lamp 58 = .ok (.iload_n 2, 1) := by decide +kernel
theorem dX12_lamp_59 : decode cX12_lamp 59 = .ok (.iload_n 3, 1) := by decide +kernel
theorem dX12_lamp_60 : decode cX12_lamp 60 = .ok (.invokevirtual 182, 3) := by decide +kernel
theorem dX12_lamp_63 : decode cX12_lamp 63 = .ok (.iconst 1, 1) := by decide +kernel
theorem dX12_lamp_64 : decode cX12_lamp 64 = .ok (.isub, 1) := by decide +kernel
theorem dX12_lamp_65 : decode cX12_lamp 65 = .ok (.invokevirtual 164, 3) := by decide +kernel
theorem dX12_lamp_68 : decode cX12_lamp 68 = .ok (.ireturn, 1) := by decide +kernel
set_option maxRecDepth 20000 in
theorem T_X12_lamp {Q : Option Value → ah_T → Prop} {h : ah_T} (hs : Sh h) (x1 : Int32) (x2 : Int32) (x3 : Int32) (ht : (((f_X12_isFact 0 x1) = 0 → (Mt mX12_refuses [.ref 82, .int (-1)] h (ab_qi fun v4 h2 => Sh h2 ∧ Q (some (.int v4)) h2))) ∧ (¬ (f_X12_isFact 0 x1) = 0 → (((f_X12_isFact 1 x2) = 0 → (Mt mX12_refuses [.ref 82, .int (-1)] h (ab_qi fun v8 h6 => Sh h6 ∧ Q (some (.int v8)) h6))) ∧ (¬ (f_X12_isFact 1 x2) = 0 → ((¬ (f_X12_isFact 2 x3) = 0 → ((¬ (ah_i h 84 (Int32.toNatClampNeg 246)) = 10 → (Mt mX12_comesBehind [.ref 82, .int 60, .int 246, .int x1, .int x2, .int x3] h (ab_qi fun v13 h11 => Sh h11 ∧ (Mt mX12_good [.ref 82, .int (v13 - 1)] h11 (ab_qi fun v16 h14 => Sh h14 ∧ Q (some (.int v16)) h14))))) ∧ ((ah_i h 84 (Int32.toNatClampNeg 246)) = 10 → (Mt mX12_refuses [.ref 82, .int (-5)] h (ab_qi fun v19 h17 => Sh h17 ∧ Q (some (.int v19)) h17))))) ∧ ((f_X12_isFact 2 x3) = 0 → (Mt mX12_refuses [.ref 82, .int (-1)] h (ab_qi fun v22 h20 => Sh h20 ∧ Q (some (.int v22)) h20))))))))) : Mt mX12_lamp [.ref 82, .int x1, .int x2, .int x3] h Q := by
  refine Mt.ofWp rfl (by exact (Nat.le_of_ble_eq_true rfl)) (Wp.fewer (L' := [some (.ref 82), some (.int x1), some (.int x2), some (.int x3)]) (show ab_leL _ _ from ⟨rfl, ⟨rfl, ⟨rfl, ⟨rfl, trivial⟩⟩⟩⟩) ?_)
  refine ab_iconst (v := 0) dX12_lamp_0 (by decide) ?_
  refine ab_iload_n (i := 1) dX12_lamp_1 rfl rfl ?_
  refine ab_callS (Q' := fun r h' => r = some (.int (f_X12_isFact 0 x1)) ∧ h = h') (As := [.int 0, .int x1]) (c_X12_isFact hs 0 x1 ⟨rfl, rfl⟩) (Y_X12_isFact) l_X12_195 st_X12_isFact rfl ⟨(Nat.le_of_ble_eq_true rfl), (Nat.le_of_ble_eq_true rfl), (Nat.le_of_ble_eq_true rfl), (Nat.le_of_ble_eq_true rfl)⟩ dX12_lamp_2 ?_
  rintro _ _ ⟨rfl, rfl⟩
  refine ab_if_eq (tgt := 24) dX12_lamp_5 (by decide) (fun c1 => ?_) (fun c1 => ?_)
  · have ht := ht.1 c1
    refine ab_aload_n (i := 0) dX12_lamp_24 rfl rfl ?_
    refine ab_iconst (v := (-1)) dX12_lamp_25 (by decide) ?_
    refine ab_callV (b := 82) (As := [.int (-1)]) ht (Y_X12_refuses) l_X12_160 in_X12_refuses se_X12_refuses (sh_k hs 82 12 (by decide) rfl) (by decide) rfl rfl ⟨(Nat.le_of_ble_eq_true rfl), (Nat.le_of_ble_eq_true rfl), (Nat.le_of_ble_eq_true rfl), (Nat.le_of_ble_eq_true rfl)⟩ dX12_lamp_26 ?_
    rintro _ h2 ⟨v4, rfl, hs3, ht⟩
    exact ab_iret rfl dX12_lamp_29 (Nat.le_of_ble_eq_true rfl) (Nat.le_of_ble_eq_true rfl) ht
  · have ht := ht.2 c1
    refine ab_iconst (v := 1) dX12_lamp_8 (by decide) ?_
    refine ab_iload_n (i := 2) dX12_lamp_9 rfl rfl ?_
    refine ab_callS (Q' := fun r h' => r = some (.int (f_X12_isFact 1 x2)) ∧ h = h') (As := [.int 1, .int x2]) (c_X12_isFact hs 1 x2 ⟨rfl, rfl⟩) (Y_X12_isFact) l_X12_195 st_X12_isFact rfl ⟨(Nat.le_of_ble_eq_true rfl), (Nat.le_of_ble_eq_true rfl), (Nat.le_of_ble_eq_true rfl), (Nat.le_of_ble_eq_true rfl)⟩ dX12_lamp_10 ?_
    rintro _ _ ⟨rfl, rfl⟩
    refine ab_if_eq (tgt := 24) dX12_lamp_13 (by decide) (fun c5 => ?_) (fun c5 => ?_)
    · have ht := ht.1 c5
      refine ab_aload_n (i := 0) dX12_lamp_24 rfl rfl ?_
      refine ab_iconst (v := (-1)) dX12_lamp_25 (by decide) ?_
      refine ab_callV (b := 82) (As := [.int (-1)]) ht (Y_X12_refuses) l_X12_160 in_X12_refuses se_X12_refuses (sh_k hs 82 12 (by decide) rfl) (by decide) rfl rfl ⟨(Nat.le_of_ble_eq_true rfl), (Nat.le_of_ble_eq_true rfl), (Nat.le_of_ble_eq_true rfl), (Nat.le_of_ble_eq_true rfl)⟩ dX12_lamp_26 ?_
      rintro _ h6 ⟨v8, rfl, hs7, ht⟩
      exact ab_iret rfl dX12_lamp_29 (Nat.le_of_ble_eq_true rfl) (Nat.le_of_ble_eq_true rfl) ht
    · have ht := ht.2 c5
      refine ab_iconst (v := 2) dX12_lamp_16 (by decide) ?_
      refine ab_iload_n (i := 3) dX12_lamp_17 rfl rfl ?_
      refine ab_callS (Q' := fun r h' => r = some (.int (f_X12_isFact 2 x3)) ∧ h = h') (As := [.int 2, .int x3]) (c_X12_isFact hs 2 x3 ⟨rfl, rfl⟩) (Y_X12_isFact) l_X12_195 st_X12_isFact rfl ⟨(Nat.le_of_ble_eq_true rfl), (Nat.le_of_ble_eq_true rfl), (Nat.le_of_ble_eq_true rfl), (Nat.le_of_ble_eq_true rfl)⟩ dX12_lamp_18 ?_
      rintro _ _ ⟨rfl, rfl⟩
      refine ab_if_ne (tgt := 30) dX12_lamp_21 (by decide) (fun c9 => ?_) (fun c9 => ?_)
      · have ht := ht.1 c9
        refine ab_aload_n (i := 0) dX12_lamp_30 rfl rfl ?_
        refine ab_getR (b := 84) f_X12_20 rfl (sh_k hs 82 12 (by decide) rfl) (sh_r hs 100 rfl) dX12_lamp_31 ?_
        refine ab_sipush (v := 246) dX12_lamp_34 (by decide) ?_
        refine ab_iald (sh_k hs 84 14 (by decide) rfl) (sh_in hs 84 5860 (by decide) (by decide) rfl (by unfold vp_in; decide)) dX12_lamp_37 ?_
        refine ab_bipush (v := 10) dX12_lamp_38 (by decide) ?_
        refine ab_icmp_ne (tgt := 50) dX12_lamp_40 (by decide) (fun c10 => ?_) (fun c10 => ?_)
        · have ht := ht.1 c10
          refine ab_aload_n (i := 0) dX12_lamp_50 rfl rfl ?_
          refine ab_aload_n (i := 0) dX12_lamp_51 rfl rfl ?_
          refine ab_bipush (v := 60) dX12_lamp_52 (by decide) ?_
          refine ab_sipush (v := 246) dX12_lamp_54 (by decide) ?_
          refine ab_iload_n (i := 1) dX12_lamp_57 rfl rfl ?_
          refine ab_iload_n (i := 2) dX12_lamp_58 rfl rfl ?_
          refine ab_iload_n (i := 3) dX12_lamp_59 rfl rfl ?_
          refine ab_callV (b := 82) (As := [.int 60, .int 246, .int x1, .int x2, .int x3]) ht (Y_X12_comesBehind) l_X12_182 in_X12_comesBehind se_X12_comesBehind (sh_k hs 82 12 (by decide) rfl) (by decide) rfl rfl ⟨(Nat.le_of_ble_eq_true rfl), (Nat.le_of_ble_eq_true rfl), (Nat.le_of_ble_eq_true rfl), (Nat.le_of_ble_eq_true rfl)⟩ dX12_lamp_60 ?_
          rintro _ h11 ⟨v13, rfl, hs12, ht⟩
          refine ab_iconst (v := 1) dX12_lamp_63 (by decide) ?_
          refine ab_isub dX12_lamp_64 ?_
          refine ab_callV (b := 82) (As := [.int (v13 - 1)]) ht (Y_X12_good) l_X12_164 in_X12_good se_X12_good (sh_k hs12 82 12 (by decide) rfl) (by decide) rfl rfl ⟨(Nat.le_of_ble_eq_true rfl), (Nat.le_of_ble_eq_true rfl), (Nat.le_of_ble_eq_true rfl), (Nat.le_of_ble_eq_true rfl)⟩ dX12_lamp_65 ?_
          rintro _ h14 ⟨v16, rfl, hs15, ht⟩
          exact ab_iret rfl dX12_lamp_68 (Nat.le_of_ble_eq_true rfl) (Nat.le_of_ble_eq_true rfl) ht
        · have ht := ht.2 c10
          refine ab_aload_n (i := 0) dX12_lamp_43 rfl rfl ?_
          refine ab_bipush (v := (-5)) dX12_lamp_44 (by decide) ?_
          refine ab_callV (b := 82) (As := [.int (-5)]) ht (Y_X12_refuses) l_X12_160 in_X12_refuses se_X12_refuses (sh_k hs 82 12 (by decide) rfl) (by decide) rfl rfl ⟨(Nat.le_of_ble_eq_true rfl), (Nat.le_of_ble_eq_true rfl), (Nat.le_of_ble_eq_true rfl), (Nat.le_of_ble_eq_true rfl)⟩ dX12_lamp_46 ?_
          rintro _ h17 ⟨v19, rfl, hs18, ht⟩
          exact ab_iret rfl dX12_lamp_49 (Nat.le_of_ble_eq_true rfl) (Nat.le_of_ble_eq_true rfl) ht
      · have ht := ht.2 c9
        refine ab_aload_n (i := 0) dX12_lamp_24 rfl rfl ?_
        refine ab_iconst (v := (-1)) dX12_lamp_25 (by decide) ?_
        refine ab_callV (b := 82) (As := [.int (-1)]) ht (Y_X12_refuses) l_X12_160 in_X12_refuses se_X12_refuses (sh_k hs 82 12 (by decide) rfl) (by decide) rfl rfl ⟨(Nat.le_of_ble_eq_true rfl), (Nat.le_of_ble_eq_true rfl), (Nat.le_of_ble_eq_true rfl), (Nat.le_of_ble_eq_true rfl)⟩ dX12_lamp_26 ?_
        rintro _ h20 ⟨v22, rfl, hs21, ht⟩
        exact ab_iret rfl dX12_lamp_29 (Nat.le_of_ble_eq_true rfl) (Nat.le_of_ble_eq_true rfl) ht
theorem dX12_put_0 : decode cX12_put 0 = .ok (.iload_n 2, 1) := by decide +kernel
theorem dX12_put_1 : decode cX12_put 1 = .ok (.iload_n 3, 1) := by decide +kernel
theorem dX12_put_2 : decode cX12_put 2 = .ok (.invokestatic 195, 3) := by decide +kernel
theorem dX12_put_5 : decode cX12_put 5 = .ok (.ifCond .ne 9, 3) := by decide +kernel
theorem dX12_put_8 : decode cX12_put 8 = .ok (.aload_n 0, 1) := by decide +kernel
theorem dX12_put_9 : decode cX12_put 9 = .ok (.iconst (-1), 1) := by decide +kernel
theorem dX12_put_10 : decode cX12_put 10 = .ok (.invokevirtual 160, 3) := by decide +kernel
theorem dX12_put_13 : decode cX12_put 13 = .ok (.ireturn, 1) := by decide +kernel
theorem dX12_put_14 : decode cX12_put 14 = .ok (.aload_n 0, 1) := by decide +kernel
theorem dX12_put_15 : decode cX12_put 15 = .ok (.iload_n 1, 1) := by decide +kernel
theorem dX12_put_16 : decode cX12_put 16 = .ok (.invokevirtual 198, 3) := by decide +kernel
theorem dX12_put_19 : decode cX12_put 19 = .ok (.ifCond .eq 19, 3) := by decide +kernel
theorem dX12_put_22 : decode cX12_put 22 = .ok (.aload_n 0, 1) := by decide +kernel
theorem dX12_put_23 : decode cX12_put 23 = .ok (.bipush 60, 2) := by decide +kernel
theorem dX12_put_25 : decode cX12_put 25 = .ok (.iconst 3, 1) := by decide +kernel
theorem dX12_put_26 : decode cX12_put 26 = .ok (.iload_n 1, 1) := by decide +kernel
theorem dX12_put_27 : decode cX12_put 27 = .ok (.imul, 1) := by decide +kernel
theorem dX12_put_28 : decode cX12_put 28 = .ok (.iadd, 1) := by decide +kernel
theorem dX12_put_29 : decode cX12_put 29 = .ok (.iload_n 2, 1) := by decide +kernel
theorem dX12_put_30 : decode cX12_put 30 = .ok (.iadd, 1) := by decide +kernel
theorem dX12_put_31 : decode cX12_put 31 = .ok (.iload_n 3, 1) := by decide +kernel
theorem dX12_put_32 : decode cX12_put 32 = .ok (.invokevirtual 189, 3) := by decide +kernel
theorem dX12_put_35 : decode cX12_put 35 = .ok (.goto 9, 3) := by decide +kernel
theorem dX12_put_38 : decode cX12_put 38 = .ok (.aload_n 0, 1) := by decide +kernel
theorem dX12_put_39 : decode cX12_put 39 = .ok (.bipush (-2), 2) := by decide +kernel
theorem dX12_put_41 : decode cX12_put 41 = .ok (.invokevirtual 160, 3) := by decide +kernel
theorem dX12_put_44 : decode cX12_put 44 = .ok (.ireturn, 1) := by decide +kernel
set_option maxRecDepth 20000 in
theorem T_X12_put {Q : Option Value → ah_T → Prop} {h : ah_T} (hs : Sh h) (x1 : Int32) (x2 : Int32) (x3 : Int32) (ht : ((¬ (f_X12_isFact x2 x3) = 0 → (((f_X12_isLamp h x1) = 0 → (Mt mX12_refuses [.ref 82, .int (-2)] h (ab_qi fun v5 h3 => Sh h3 ∧ Q (some (.int v5)) h3))) ∧ (¬ (f_X12_isLamp h x1) = 0 → (Mt mX12_replaces [.ref 82, .int ((60 + (3 * x1)) + x2), .int x3] h (ab_qi fun v8 h6 => Sh h6 ∧ Q (some (.int v8)) h6))))) ∧ ((f_X12_isFact x2 x3) = 0 → (Mt mX12_refuses [.ref 82, .int (-1)] h (ab_qi fun v11 h9 => Sh h9 ∧ Q (some (.int v11)) h9))))) : Mt mX12_put [.ref 82, .int x1, .int x2, .int x3] h Q := by
  refine Mt.ofWp rfl (by exact (Nat.le_of_ble_eq_true rfl)) (Wp.fewer (L' := [some (.ref 82), some (.int x1), some (.int x2), some (.int x3)]) (show ab_leL _ _ from ⟨rfl, ⟨rfl, ⟨rfl, ⟨rfl, trivial⟩⟩⟩⟩) ?_)
  refine ab_iload_n (i := 2) dX12_put_0 rfl rfl ?_
  refine ab_iload_n (i := 3) dX12_put_1 rfl rfl ?_
  refine ab_callS (Q' := fun r h' => r = some (.int (f_X12_isFact x2 x3)) ∧ h = h') (As := [.int x2, .int x3]) (c_X12_isFact hs x2 x3 ⟨rfl, rfl⟩) (Y_X12_isFact) l_X12_195 st_X12_isFact rfl ⟨(Nat.le_of_ble_eq_true rfl), (Nat.le_of_ble_eq_true rfl), (Nat.le_of_ble_eq_true rfl), (Nat.le_of_ble_eq_true rfl)⟩ dX12_put_2 ?_
  rintro _ _ ⟨rfl, rfl⟩
  refine ab_if_ne (tgt := 14) dX12_put_5 (by decide) (fun c1 => ?_) (fun c1 => ?_)
  · have ht := ht.1 c1
    refine ab_aload_n (i := 0) dX12_put_14 rfl rfl ?_
    refine ab_iload_n (i := 1) dX12_put_15 rfl rfl ?_
    refine ab_callV (b := 82) (Q' := fun r h' => r = some (.int (f_X12_isLamp h x1)) ∧ h = h') (As := [.int x1]) (c_X12_isLamp hs x1 ⟨rfl, rfl⟩) (Y_X12_isLamp) l_X12_198 in_X12_isLamp se_X12_isLamp (sh_k hs 82 12 (by decide) rfl) (by decide) rfl rfl ⟨(Nat.le_of_ble_eq_true rfl), (Nat.le_of_ble_eq_true rfl), (Nat.le_of_ble_eq_true rfl), (Nat.le_of_ble_eq_true rfl)⟩ dX12_put_16 ?_
    rintro _ _ ⟨rfl, rfl⟩
    refine ab_if_eq (tgt := 38) dX12_put_19 (by decide) (fun c2 => ?_) (fun c2 => ?_)
    · have ht := ht.1 c2
      refine ab_aload_n (i := 0) dX12_put_38 rfl rfl ?_
      refine ab_bipush (v := (-2)) dX12_put_39 (by decide) ?_
      refine ab_callV (b := 82) (As := [.int (-2)]) ht (Y_X12_refuses) l_X12_160 in_X12_refuses se_X12_refuses (sh_k hs 82 12 (by decide) rfl) (by decide) rfl rfl ⟨(Nat.le_of_ble_eq_true rfl), (Nat.le_of_ble_eq_true rfl), (Nat.le_of_ble_eq_true rfl), (Nat.le_of_ble_eq_true rfl)⟩ dX12_put_41 ?_
      rintro _ h3 ⟨v5, rfl, hs4, ht⟩
      exact ab_iret rfl dX12_put_44 (Nat.le_of_ble_eq_true rfl) (Nat.le_of_ble_eq_true rfl) ht
    · have ht := ht.2 c2
      refine ab_aload_n (i := 0) dX12_put_22 rfl rfl ?_
      refine ab_bipush (v := 60) dX12_put_23 (by decide) ?_
      refine ab_iconst (v := 3) dX12_put_25 (by decide) ?_
      refine ab_iload_n (i := 1) dX12_put_26 rfl rfl ?_
      refine ab_imul dX12_put_27 ?_
      refine ab_iadd dX12_put_28 ?_
      refine ab_iload_n (i := 2) dX12_put_29 rfl rfl ?_
      refine ab_iadd dX12_put_30 ?_
      refine ab_iload_n (i := 3) dX12_put_31 rfl rfl ?_
      refine ab_callV (b := 82) (As := [.int ((60 + (3 * x1)) + x2), .int x3]) ht (Y_X12_replaces) l_X12_189 in_X12_replaces se_X12_replaces (sh_k hs 82 12 (by decide) rfl) (by decide) rfl rfl ⟨(Nat.le_of_ble_eq_true rfl), (Nat.le_of_ble_eq_true rfl), (Nat.le_of_ble_eq_true rfl), (Nat.le_of_ble_eq_true rfl)⟩ dX12_put_32 ?_
      rintro _ h6 ⟨v8, rfl, hs7, ht⟩
      refine ab_goto (tgt := 44) dX12_put_35 (by decide) ?_
      exact ab_iret rfl dX12_put_44 (Nat.le_of_ble_eq_true rfl) (Nat.le_of_ble_eq_true rfl) ht
  · have ht := ht.2 c1
    refine ab_aload_n (i := 0) dX12_put_8 rfl rfl ?_
    refine ab_iconst (v := (-1)) dX12_put_9 (by decide) ?_
    refine ab_callV (b := 82) (As := [.int (-1)]) ht (Y_X12_refuses) l_X12_160 in_X12_refuses se_X12_refuses (sh_k hs 82 12 (by decide) rfl) (by decide) rfl rfl ⟨(Nat.le_of_ble_eq_true rfl), (Nat.le_of_ble_eq_true rfl), (Nat.le_of_ble_eq_true rfl), (Nat.le_of_ble_eq_true rfl)⟩ dX12_put_10 ?_
    rintro _ h9 ⟨v11, rfl, hs10, ht⟩
    exact ab_iret rfl dX12_put_13 (Nat.le_of_ble_eq_true rfl) (Nat.le_of_ble_eq_true rfl) ht
theorem dX12_tellsSwitch_0 : decode cX12_tellsSwitch 0 = .ok (.iload_n 2, 1) := by decide +kernel
theorem dX12_tellsSwitch_1 : decode cX12_tellsSwitch 1 = .ok (.invokestatic 201, 3) := by decide +kernel
theorem dX12_tellsSwitch_4 : decode cX12_tellsSwitch 4 = .ok (.ifCond .eq 12, 3) := by decide +kernel
theorem dX12_tellsSwitch_7 : decode cX12_tellsSwitch 7 = .ok (.iload_n 3, 1) := by decide +kernel
theorem dX12_tellsSwitch_8 : decode cX12_tellsSwitch 8 = .ok (.iconst 0, 1) := by decide +kernel
theorem dX12_tellsSwitch_9 : decode cX12_tellsSwitch 9 = .ok (.iconst 1, 1) := by decide +kernel
theorem dX12_tellsSwitch_10 : decode cX12_tellsSwitch 10 = .ok (.invokestatic 156, 3) := by decide +kernel
theorem dX12_tellsSwitch_13 : decode cX12_tellsSwitch 13 = .ok (.ifCond .ne 5, 3) := by decide +kernel
theorem dX12_tellsSwitch_16 : decode cX12_tellsSwitch 16 = .ok (.iconst (-1), 1) := by decide +kernel
theorem dX12_tellsSwitch_17 : decode cX12_tellsSwitch 17 = .ok (.ireturn, 1) := by decide +kernel
theorem dX12_tellsSwitch_18 : decode cX12_tellsSwitch 18 = .ok (.aload_n 0, 1) := by decide +kernel
theorem dX12_tellsSwitch_19 : decode cX12_tellsSwitch 19 = .ok (.iload_n 1, 1) := by decide +kernel
theorem dX12_tellsSwitch_20 : decode cX12_tellsSwitch 20 = .ok (.invokevirtual 198, 3) := by decide +kernel
theorem dX12_tellsSwitch_23 : decode cX12_tellsSwitch 23 = .ok (.ifCond .ne 6, 3) := by decide +kernel
theorem dX12_tellsSwitch_26 : decode cX12_tellsSwitch 26 = .ok (.bipush (-2), 2) := by decide +kernel
theorem dX12_tellsSwitch_28 : decode cX12_tellsSwitch 28 = .ok (.ireturn, 1) := by decide +kernel
theorem dX12_tellsSwitch_29 : decode cX12_tellsSwitch 29 = .ok (.aload_n 0, 1) := by decide +kernel
theorem dX12_tellsSwitch_30 : decode cX12_tellsSwitch 30 = .ok (.getfield 20, 3) := by decide +kernel
theorem dX12_tellsSwitch_33 : decode cX12_tellsSwitch 33 = .ok (.sipush 247, 3) := by decide +kernel
theorem dX12_tellsSwitch_36 : decode cX12_tellsSwitch 36 = .ok (.iaload, 1) := by decide +kernel
theorem dX12_tellsSwitch_37 : decode cX12_tellsSwitch 37 = .ok (.bipush 24, 2) := by decide +kernel
theorem dX12_tellsSwitch_39 : decode cX12_tellsSwitch 39 = .ok (.if_icmp .ne 6, 3) := by decide +kernel
theorem dX12_tellsSwitch_42 : decode cX12_tellsSwitch 42 = .ok (.bipush (-5), 2) := by decide +kernel
theorem dX12_tellsSwitch_44 : decode cX12_tellsSwitch 44 = .ok (.ireturn, 1) := by decide +kernel
theorem dX12_tellsSwitch_45 : decode cX12_tellsSwitch 45 = .ok (.aload_n 0, 1) := by decide +kernel
theorem dX12_tellsSwitch_46 : decode cX12_tellsSwitch 46 = .ok (.bipush 90, 2) := by decide +kernel
theorem dX12_tellsSwitch_48 : decode cX12_tellsSwitch 48 = .ok (.sipush 247, 3) := by decide +kernel
theorem dX12_tellsSwitch_51 : decode cX12_tellsSwitch 51 = .ok (.iload_n 1, 1) := by decide +kernel
theorem dX12_tellsSwitch_52 : decode cX12_tellsSwitch 52 = .ok (.iload_n 2, 1) := by decide +kernel
theorem dX12_tellsSwitch_53 : decode cX12_tellsSwitch 53 = .ok (.iload_n 3, 1) := by decide +kernel
theorem dX12_tellsSwitch_54 : decode cX12_tellsSwitch 54 = .ok (.invokevirtual 182, 3) := by decide +kernel
theorem dX12_tellsSwitch_57 : decode cX12_tellsSwitch 57 = .ok (.pop, 1) := by decide +kernel
theorem dX12_tellsSwitch_58 : decode cX12_tellsSwitch 58 = .ok (.iconst 0, 1) := by decide +kernel
theorem dX12_tellsSwitch_59 : decode cX12_tellsSwitch 59 = .ok (.ireturn, 1) := by decide +kernel
set_option maxRecDepth 20000 in
theorem T_X12_tellsSwitch {Q : Option Value → ah_T → Prop} {h : ah_T} (hs : Sh h) (x1 : Int32) (x2 : Int32) (x3 : Int32) (ht : (((f_X12_isMinute x2) = 0 → Q (some (.int (-1))) h) ∧ (¬ (f_X12_isMinute x2) = 0 → ((¬ (f_X12_lies x3 0 1) = 0 → ((¬ (f_X12_isLamp h x1) = 0 → ((¬ (ah_i h 84 (Int32.toNatClampNeg 247)) = 24 → (Mt mX12_comesBehind [.ref 82, .int 90, .int 247, .int x1, .int x2, .int x3] h (ab_qi fun v7 h5 => Sh h5 ∧ Q (some (.int 0)) h5))) ∧ ((ah_i h 84 (Int32.toNatClampNeg 247)) = 24 → Q (some (.int (-5))) h))) ∧ ((f_X12_isLamp h x1) = 0 → Q (some (.int (-2))) h))) ∧ ((f_X12_lies x3 0 1) = 0 → Q (some (.int (-1))) h))))) : Mt mX12_tellsSwitch [.ref 82, .int x1, .int x2, .int x3] h Q := by
  refine Mt.ofWp rfl (by exact (Nat.le_of_ble_eq_true rfl)) (Wp.fewer (L' := [some (.ref 82), some (.int x1), some (.int x2), some (.int x3)]) (show ab_leL _ _ from ⟨rfl, ⟨rfl, ⟨rfl, ⟨rfl, trivial⟩⟩⟩⟩) ?_)
  refine ab_iload_n (i := 2) dX12_tellsSwitch_0 rfl rfl ?_
  refine ab_callS (Q' := fun r h' => r = some (.int (f_X12_isMinute x2)) ∧ h = h') (As := [.int x2]) (c_X12_isMinute hs x2 ⟨rfl, rfl⟩) (Y_X12_isMinute) l_X12_201 st_X12_isMinute rfl ⟨(Nat.le_of_ble_eq_true rfl), (Nat.le_of_ble_eq_true rfl), (Nat.le_of_ble_eq_true rfl), (Nat.le_of_ble_eq_true rfl)⟩ dX12_tellsSwitch_1 ?_
  rintro _ _ ⟨rfl, rfl⟩
  refine ab_if_eq (tgt := 16) dX12_tellsSwitch_4 (by decide) (fun c1 => ?_) (fun c1 => ?_)
  · have ht := ht.1 c1
    refine ab_iconst (v := (-1)) dX12_tellsSwitch_16 (by decide) ?_
    exact ab_iret rfl dX12_tellsSwitch_17 (Nat.le_of_ble_eq_true rfl) (Nat.le_of_ble_eq_true rfl) ht
  · have ht := ht.2 c1
    refine ab_iload_n (i := 3) dX12_tellsSwitch_7 rfl rfl ?_
    refine ab_iconst (v := 0) dX12_tellsSwitch_8 (by decide) ?_
    refine ab_iconst (v := 1) dX12_tellsSwitch_9 (by decide) ?_
    refine ab_callS (Q' := fun r h' => r = some (.int (f_X12_lies x3 0 1)) ∧ h = h') (As := [.int x3, .int 0, .int 1]) (c_X12_lies hs x3 0 1 ⟨rfl, rfl⟩) (Y_X12_lies) l_X12_156 st_X12_lies rfl ⟨(Nat.le_of_ble_eq_true rfl), (Nat.le_of_ble_eq_true rfl), (Nat.le_of_ble_eq_true rfl), (Nat.le_of_ble_eq_true rfl)⟩ dX12_tellsSwitch_10 ?_
    rintro _ _ ⟨rfl, rfl⟩
    refine ab_if_ne (tgt := 18) dX12_tellsSwitch_13 (by decide) (fun c2 => ?_) (fun c2 => ?_)
    · have ht := ht.1 c2
      refine ab_aload_n (i := 0) dX12_tellsSwitch_18 rfl rfl ?_
      refine ab_iload_n (i := 1) dX12_tellsSwitch_19 rfl rfl ?_
      refine ab_callV (b := 82) (Q' := fun r h' => r = some (.int (f_X12_isLamp h x1)) ∧ h = h') (As := [.int x1]) (c_X12_isLamp hs x1 ⟨rfl, rfl⟩) (Y_X12_isLamp) l_X12_198 in_X12_isLamp se_X12_isLamp (sh_k hs 82 12 (by decide) rfl) (by decide) rfl rfl ⟨(Nat.le_of_ble_eq_true rfl), (Nat.le_of_ble_eq_true rfl), (Nat.le_of_ble_eq_true rfl), (Nat.le_of_ble_eq_true rfl)⟩ dX12_tellsSwitch_20 ?_
      rintro _ _ ⟨rfl, rfl⟩
      refine ab_if_ne (tgt := 29) dX12_tellsSwitch_23 (by decide) (fun c3 => ?_) (fun c3 => ?_)
      · have ht := ht.1 c3
        refine ab_aload_n (i := 0) dX12_tellsSwitch_29 rfl rfl ?_
        refine ab_getR (b := 84) f_X12_20 rfl (sh_k hs 82 12 (by decide) rfl) (sh_r hs 100 rfl) dX12_tellsSwitch_30 ?_
        refine ab_sipush (v := 247) dX12_tellsSwitch_33 (by decide) ?_
        refine ab_iald (sh_k hs 84 14 (by decide) rfl) (sh_in hs 84 5860 (by decide) (by decide) rfl (by unfold vp_in; decide)) dX12_tellsSwitch_36 ?_
        refine ab_bipush (v := 24) dX12_tellsSwitch_37 (by decide) ?_
        refine ab_icmp_ne (tgt := 45) dX12_tellsSwitch_39 (by decide) (fun c4 => ?_) (fun c4 => ?_)
        · have ht := ht.1 c4
          refine ab_aload_n (i := 0) dX12_tellsSwitch_45 rfl rfl ?_
          refine ab_bipush (v := 90) dX12_tellsSwitch_46 (by decide) ?_
          refine ab_sipush (v := 247) dX12_tellsSwitch_48 (by decide) ?_
          refine ab_iload_n (i := 1) dX12_tellsSwitch_51 rfl rfl ?_
          refine ab_iload_n (i := 2) dX12_tellsSwitch_52 rfl rfl ?_
          refine ab_iload_n (i := 3) dX12_tellsSwitch_53 rfl rfl ?_
          refine ab_callV (b := 82) (As := [.int 90, .int 247, .int x1, .int x2, .int x3]) ht (Y_X12_comesBehind) l_X12_182 in_X12_comesBehind se_X12_comesBehind (sh_k hs 82 12 (by decide) rfl) (by decide) rfl rfl ⟨(Nat.le_of_ble_eq_true rfl), (Nat.le_of_ble_eq_true rfl), (Nat.le_of_ble_eq_true rfl), (Nat.le_of_ble_eq_true rfl)⟩ dX12_tellsSwitch_54 ?_
          rintro _ h5 ⟨v7, rfl, hs6, ht⟩
          refine ab_pop dX12_tellsSwitch_57 rfl ?_
          refine ab_iconst (v := 0) dX12_tellsSwitch_58 (by decide) ?_
          exact ab_iret rfl dX12_tellsSwitch_59 (Nat.le_of_ble_eq_true rfl) (Nat.le_of_ble_eq_true rfl) ht
        · have ht := ht.2 c4
          refine ab_bipush (v := (-5)) dX12_tellsSwitch_42 (by decide) ?_
          exact ab_iret rfl dX12_tellsSwitch_44 (Nat.le_of_ble_eq_true rfl) (Nat.le_of_ble_eq_true rfl) ht
      · have ht := ht.2 c3
        refine ab_bipush (v := (-2)) dX12_tellsSwitch_26 (by decide) ?_
        exact ab_iret rfl dX12_tellsSwitch_28 (Nat.le_of_ble_eq_true rfl) (Nat.le_of_ble_eq_true rfl) ht
    · have ht := ht.2 c2
      refine ab_iconst (v := (-1)) dX12_tellsSwitch_16 (by decide) ?_
      exact ab_iret rfl dX12_tellsSwitch_17 (Nat.le_of_ble_eq_true rfl) (Nat.le_of_ble_eq_true rfl) ht
theorem dX12_turn_0 : decode cX12_turn 0 = .ok (.aload_n 0, 1) := by decide +kernel
theorem dX12_turn_1 : decode cX12_turn 1 = .ok (.iload_n 1, 1) := by decide +kernel
theorem dX12_turn_2 : decode cX12_turn 2 = .ok (.iload_n 2, 1) := by decide +kernel
theorem dX12_turn_3 : decode cX12_turn 3 = .ok (.iload_n 3, 1) := by decide +kernel
theorem dX12_turn_4 : decode cX12_turn 4 = .ok (.invokevirtual 204, 3) := by decide +kernel
theorem dX12_turn_7 : decode cX12_turn 7 = .ok (.istore 4, 2) := by decide +kernel
theorem dX12_turn_9 : decode cX12_turn 9 = .ok (.iload 4, 2) := by decide +kernel
theorem dX12_turn_11 : decode cX12_turn 11 = .ok (.ifCond .ge 12, 3) := by decide +kernel
theorem dX12_turn_14 : decode cX12_turn 14 = .ok (.aload_n 0, 1) := by decide +kernel
theorem dX12_turn_15 : decode cX12_turn 15 = .ok (.iload 4, 2) := by decide +kernel
theorem dX12_turn_17 : decode cX12_turn 17 = .ok (.invokevirtual 160, 3) := by decide +kernel
theorem dX12_turn_20 : decode cX12_turn 20 = .ok (.goto 15, 3) := by decide +kernel
theorem dX12_turn_23 : decode cX12_turn 23 = .ok (.aload_n 0, 1) := by decide +kernel
theorem dX12_turn_24 : decode cX12_turn 24 = .ok (.aload_n 0, 1) := by decide +kernel
theorem dX12_turn_25 : decode cX12_turn 25 = .ok (.getfield 20, 3) := by decide +kernel
theorem dX12_turn_28 : decode cX12_turn 28 = .ok (.sipush 247, 3) := by decide +kernel
theorem dX12_turn_31 : decode cX12_turn 31 = .ok (.iaload, 1) := by decide +kernel
theorem dX12_turn_32 : decode cX12_turn 32 = .ok (.invokevirtual 164, 3) := by decide +kernel
theorem dX12_turn_35 : decode cX12_turn 35 = .ok (.ireturn, 1) := by decide +kernel
set_option maxRecDepth 20000 in
theorem T_X12_turn {Q : Option Value → ah_T → Prop} {h : ah_T} (hs : Sh h) (x1 : Int32) (x2 : Int32) (x3 : Int32) (ht : (Mt mX12_tellsSwitch [.ref 82, .int x1, .int x2, .int x3] h (ab_qi fun v3 h1 => Sh h1 ∧ ((0 ≤ v3 → (Mt mX12_good [.ref 82, .int (ah_i h1 84 (Int32.toNatClampNeg 247))] h1 (ab_qi fun v7 h5 => Sh h5 ∧ Q (some (.int v7)) h5))) ∧ (¬ 0 ≤ v3 → (Mt mX12_refuses [.ref 82, .int v3] h1 (ab_qi fun v10 h8 => Sh h8 ∧ Q (some (.int v10)) h8))))))) : Mt mX12_turn [.ref 82, .int x1, .int x2, .int x3] h Q := by
  refine Mt.ofWp rfl (by exact (Nat.le_of_ble_eq_true rfl)) (Wp.fewer (L' := [some (.ref 82), some (.int x1), some (.int x2), some (.int x3), none]) (show ab_leL _ _ from ⟨rfl, ⟨rfl, ⟨rfl, ⟨rfl, trivial⟩⟩⟩⟩) ?_)
  refine ab_aload_n (i := 0) dX12_turn_0 rfl rfl ?_
  refine ab_iload_n (i := 1) dX12_turn_1 rfl rfl ?_
  refine ab_iload_n (i := 2) dX12_turn_2 rfl rfl ?_
  refine ab_iload_n (i := 3) dX12_turn_3 rfl rfl ?_
  refine ab_callV (b := 82) (As := [.int x1, .int x2, .int x3]) ht (Y_X12_tellsSwitch) l_X12_204 in_X12_tellsSwitch se_X12_tellsSwitch (sh_k hs 82 12 (by decide) rfl) (by decide) rfl rfl ⟨(Nat.le_of_ble_eq_true rfl), (Nat.le_of_ble_eq_true rfl), (Nat.le_of_ble_eq_true rfl), (Nat.le_of_ble_eq_true rfl)⟩ dX12_turn_4 ?_
  rintro _ h1 ⟨v3, rfl, hs2, ht⟩
  refine ab_istore (i := 4) (L' := [some (.ref 82), some (.int x1), some (.int x2), some (.int x3), some (.int v3)]) dX12_turn_7 (by exact (Nat.le_of_ble_eq_true rfl)) rfl rfl ?_
  refine ab_iload (i := 4) dX12_turn_9 rfl ?_
  refine ab_if_ge (tgt := 23) dX12_turn_11 (by decide) (fun c4 => ?_) (fun c4 => ?_)
  · have ht := ht.1 c4
    refine ab_aload_n (i := 0) dX12_turn_23 rfl rfl ?_
    refine ab_aload_n (i := 0) dX12_turn_24 rfl rfl ?_
    refine ab_getR (b := 84) f_X12_20 rfl (sh_k hs2 82 12 (by decide) rfl) (sh_r hs2 100 rfl) dX12_turn_25 ?_
    refine ab_sipush (v := 247) dX12_turn_28 (by decide) ?_
    refine ab_iald (sh_k hs2 84 14 (by decide) rfl) (sh_in hs2 84 5860 (by decide) (by decide) rfl (by unfold vp_in; decide)) dX12_turn_31 ?_
    refine ab_callV (b := 82) (As := [.int (ah_i h1 84 (Int32.toNatClampNeg 247))]) ht (Y_X12_good) l_X12_164 in_X12_good se_X12_good (sh_k hs2 82 12 (by decide) rfl) (by decide) rfl rfl ⟨(Nat.le_of_ble_eq_true rfl), (Nat.le_of_ble_eq_true rfl), (Nat.le_of_ble_eq_true rfl), (Nat.le_of_ble_eq_true rfl)⟩ dX12_turn_32 ?_
    rintro _ h5 ⟨v7, rfl, hs6, ht⟩
    exact ab_iret rfl dX12_turn_35 (Nat.le_of_ble_eq_true rfl) (Nat.le_of_ble_eq_true rfl) ht
  · have ht := ht.2 c4
    refine ab_aload_n (i := 0) dX12_turn_14 rfl rfl ?_
    refine ab_iload (i := 4) dX12_turn_15 rfl ?_
    refine ab_callV (b := 82) (As := [.int v3]) ht (Y_X12_refuses) l_X12_160 in_X12_refuses se_X12_refuses (sh_k hs2 82 12 (by decide) rfl) (by decide) rfl rfl ⟨(Nat.le_of_ble_eq_true rfl), (Nat.le_of_ble_eq_true rfl), (Nat.le_of_ble_eq_true rfl), (Nat.le_of_ble_eq_true rfl)⟩ dX12_turn_17 ?_
    rintro _ h8 ⟨v10, rfl, hs9, ht⟩
    refine ab_goto (tgt := 35) dX12_turn_20 (by decide) ?_
    exact ab_iret rfl dX12_turn_35 (Nat.le_of_ble_eq_true rfl) (Nat.le_of_ble_eq_true rfl) ht
theorem dX12_undo_0 : decode cX12_undo 0 = .ok (.aload_n 0, 1) := by decide +kernel
theorem dX12_undo_1 : decode cX12_undo 1 = .ok (.getfield 20, 3) := by decide +kernel
theorem dX12_undo_4 : decode cX12_undo 4 = .ok (.sipush 247, 3) := by decide +kernel
theorem dX12_undo_7 : decode cX12_undo 7 = .ok (.iaload, 1) := by decide +kernel
theorem dX12_undo_8 : decode cX12_undo 8 = .ok (.ifCond .ne 10, 3) := by decide +kernel
theorem dX12_undo_11 : decode cX12_undo 11 = .ok (.aload_n 0, 1) := by decide +kernel
theorem dX12_undo_12 : decode cX12_undo 12 = .ok (.bipush (-3), 2) := by decide +kernel
theorem dX12_undo_14 : decode cX12_undo 14 = .ok (.invokevirtual 160, 3) := by decide +kernel
theorem dX12_undo_17 : decode cX12_undo 17 = .ok (.ireturn, 1) := by decide +kernel
theorem dX12_undo_18 : decode cX12_undo 18 = .ok (.aload_n 0, 1) := by decide +kernel
theorem dX12_undo_19 : decode cX12_undo 19 = .ok (.getfield 20, 3) := by decide +kernel
theorem dX12_undo_22 : decode cX12_undo 22 = .ok (.sipush 247, 3) := by decide +kernel
theorem dX12_undo_25 : decode cX12_undo 25 = .ok (.dup2, 1) := by decide +kernel
theorem dX12_undo_26 : decode cX12_undo 26 = .ok (.iaload, 1) := by decide +kernel
theorem dX12_undo_27 : decode cX12_undo 27 = .ok (.iconst 1, 1) := by decide +kernel
theorem dX12_undo_28 : decode cX12_undo 28 = .ok (.isub, 1) := by decide +kernel
theorem dX12_undo_29 : decode cX12_undo 29 = .ok (.iastore, 1) := by decide +kernel
theorem dX12_undo_30 : decode cX12_undo 30 = .ok (.aload_n 0, 1) := by decide +kernel
theorem dX12_undo_31 : decode cX12_undo 31 = .ok (.aload_n 0, 1) := by decide +kernel
theorem dX12_undo_32 : decode cX12_undo 32 = .ok (.getfield 20, 3) := by decide +kernel
theorem dX12_undo_35 : decode cX12_undo 35 = .ok (.bipush 90, 2) := by decide +kernel
theorem dX12_undo_37 : decode cX12_undo 37 = .ok (.iconst 3, 1) := by decide +kernel
theorem dX12_undo_38 : decode cX12_undo 38 = .ok (.aload_n 0, 1) := by decide +kernel
theorem dX12_undo_39 : decode cX12_undo 39 = .ok (.getfield 20, 3) := by decide +kernel
theorem dX12_undo_42 : decode cX12_undo 42 = .ok (.sipush 247, 3) := by decide +kernel
theorem dX12_undo_45 : decode cX12_undo 45 = .ok (.iaload, 1) := by decide +kernel
theorem dX12_undo_46 : decode cX12_undo 46 = .ok (.imul, 1) := by decide +kernel
theorem dX12_undo_47 : decode cX12_undo 47 = .ok (.iadd, 1) := by decide +kernel
theorem dX12_undo_48 : decode cX12_undo 48 = .ok (.iconst 1, 1) := by decide +kernel
theorem dX12_undo_49 : decode cX12_undo 49 = .ok (.iadd, 1) := by decide +kernel
theorem dX12_undo_50 : decode cX12_undo 50 = .ok (.iaload, 1) := by decide +kernel
theorem dX12_undo_51 : decode cX12_undo 51 = .ok (.invokevirtual 164, 3) := by decide +kernel
theorem dX12_undo_54 : decode cX12_undo 54 = .ok (.ireturn, 1) := by decide +kernel
set_option maxRecDepth 20000 in
theorem T_X12_undo {Q : Option Value → ah_T → Prop} {h : ah_T} (hs : Sh h)  (ht : ((¬ (ah_i h 84 (Int32.toNatClampNeg 247)) = 0 → (∀ h2, h2 = ah_si h 84 (Int32.toNatClampNeg 247) ((ah_i h 84 (Int32.toNatClampNeg 247)) - 1) → (vp_in ((90 + (3 * (ah_i h2 84 (Int32.toNatClampNeg 247)))) + 1) (ah_n h2 84)) ∧ (Mt mX12_good [.ref 82, .int (ah_i h2 84 (Int32.toNatClampNeg ((90 + (3 * (ah_i h2 84 (Int32.toNatClampNeg 247)))) + 1)))] h2 (ab_qi fun v8 h6 => Sh h6 ∧ Q (some (.int v8)) h6)))) ∧ ((ah_i h 84 (Int32.toNatClampNeg 247)) = 0 → (Mt mX12_refuses [.ref 82, .int (-3)] h (ab_qi fun v11 h9 => Sh h9 ∧ Q (some (.int v11)) h9))))) : Mt mX12_undo [.ref 82] h Q := by
  refine Mt.ofWp rfl (by exact (Nat.le_of_ble_eq_true rfl)) (Wp.fewer (L' := [some (.ref 82)]) (show ab_leL _ _ from ⟨rfl, trivial⟩) ?_)
  refine ab_aload_n (i := 0) dX12_undo_0 rfl rfl ?_
  refine ab_getR (b := 84) f_X12_20 rfl (sh_k hs 82 12 (by decide) rfl) (sh_r hs 100 rfl) dX12_undo_1 ?_
  refine ab_sipush (v := 247) dX12_undo_4 (by decide) ?_
  refine ab_iald (sh_k hs 84 14 (by decide) rfl) (sh_in hs 84 5860 (by decide) (by decide) rfl (by unfold vp_in; decide)) dX12_undo_7 ?_
  refine ab_if_ne (tgt := 18) dX12_undo_8 (by decide) (fun c1 => ?_) (fun c1 => ?_)
  · have ht := ht.1 c1
    refine ab_aload_n (i := 0) dX12_undo_18 rfl rfl ?_
    refine ab_getR (b := 84) f_X12_20 rfl (sh_k hs 82 12 (by decide) rfl) (sh_r hs 100 rfl) dX12_undo_19 ?_
    refine ab_sipush (v := 247) dX12_undo_22 (by decide) ?_
    refine ab_dup2 dX12_undo_25 rfl rfl ?_
    refine ab_iald (sh_k hs 84 14 (by decide) rfl) (sh_in hs 84 5860 (by decide) (by decide) rfl (by unfold vp_in; decide)) dX12_undo_26 ?_
    refine ab_iconst (v := 1) dX12_undo_27 (by decide) ?_
    refine ab_isub dX12_undo_28 ?_
    refine ab_iast (sh_k hs 84 14 (by decide) rfl) (sh_in hs 84 5860 (by decide) (by decide) rfl (by unfold vp_in; decide)) dX12_undo_29 ?_
    refine Wp.nm fun h2 e3 => ?_
    have ht := ht h2 e3
    have hs4 : Sh h2 := by rw [e3]; exact sh_si hs
    refine ab_aload_n (i := 0) dX12_undo_30 rfl rfl ?_
    refine ab_aload_n (i := 0) dX12_undo_31 rfl rfl ?_
    refine ab_getR (b := 84) f_X12_20 rfl (sh_k hs4 82 12 (by decide) rfl) (sh_r hs4 100 rfl) dX12_undo_32 ?_
    refine ab_bipush (v := 90) dX12_undo_35 (by decide) ?_
    refine ab_iconst (v := 3) dX12_undo_37 (by decide) ?_
    refine ab_aload_n (i := 0) dX12_undo_38 rfl rfl ?_
    refine ab_getR (b := 84) f_X12_20 rfl (sh_k hs4 82 12 (by decide) rfl) (sh_r hs4 100 rfl) dX12_undo_39 ?_
    refine ab_sipush (v := 247) dX12_undo_42 (by decide) ?_
    refine ab_iald (sh_k hs4 84 14 (by decide) rfl) (sh_in hs4 84 5860 (by decide) (by decide) rfl (by unfold vp_in; decide)) dX12_undo_45 ?_
    refine ab_imul dX12_undo_46 ?_
    refine ab_iadd dX12_undo_47 ?_
    refine ab_iconst (v := 1) dX12_undo_48 (by decide) ?_
    refine ab_iadd dX12_undo_49 ?_
    obtain ⟨hc5, ht⟩ := ht
    refine ab_iald (sh_k hs4 84 14 (by decide) rfl) hc5 dX12_undo_50 ?_
    refine ab_callV (b := 82) (As := [.int (ah_i h2 84 (Int32.toNatClampNeg ((90 + (3 * (ah_i h2 84 (Int32.toNatClampNeg 247)))) + 1)))]) ht (Y_X12_good) l_X12_164 in_X12_good se_X12_good (sh_k hs4 82 12 (by decide) rfl) (by decide) rfl rfl ⟨(Nat.le_of_ble_eq_true rfl), (Nat.le_of_ble_eq_true rfl), (Nat.le_of_ble_eq_true rfl), (Nat.le_of_ble_eq_true rfl)⟩ dX12_undo_51 ?_
    rintro _ h6 ⟨v8, rfl, hs7, ht⟩
    exact ab_iret rfl dX12_undo_54 (Nat.le_of_ble_eq_true rfl) (Nat.le_of_ble_eq_true rfl) ht
  · have ht := ht.2 c1
    refine ab_aload_n (i := 0) dX12_undo_11 rfl rfl ?_
    refine ab_bipush (v := (-3)) dX12_undo_12 (by decide) ?_
    refine ab_callV (b := 82) (As := [.int (-3)]) ht (Y_X12_refuses) l_X12_160 in_X12_refuses se_X12_refuses (sh_k hs 82 12 (by decide) rfl) (by decide) rfl rfl ⟨(Nat.le_of_ble_eq_true rfl), (Nat.le_of_ble_eq_true rfl), (Nat.le_of_ble_eq_true rfl), (Nat.le_of_ble_eq_true rfl)⟩ dX12_undo_14 ?_
    rintro _ h9 ⟨v11, rfl, hs10, ht⟩
    exact ab_iret rfl dX12_undo_17 (Nat.le_of_ble_eq_true rfl) (Nat.le_of_ble_eq_true rfl) ht
theorem dX12_lantern_0 : decode cX12_lantern 0 = .ok (.iload_n 1, 1) := by decide +kernel
theorem dX12_lantern_1 : decode cX12_lantern 1 = .ok (.invokestatic 192, 3) := by decide +kernel
theorem dX12_lantern_4 : decode cX12_lantern 4 = .ok (.ifCond .eq 17, 3) := by decide +kernel
theorem dX12_lantern_7 : decode cX12_lantern 7 = .ok (.iload_n 2, 1) := by decide +kernel
theorem dX12_lantern_8 : decode cX12_lantern 8 = .ok (.invokestatic 201, 3) := by decide +kernel
theorem dX12_lantern_11 : decode cX12_lantern 11 = .ok (.ifCond .eq 10, 3) := by decide +kernel
theorem dX12_lantern_14 : decode cX12_lantern 14 = .ok (.iload_n 3, 1) := by decide +kernel
theorem dX12_lantern_15 : decode cX12_lantern 15 = .ok (.invokestatic 174, 3) := by decide +kernel
theorem dX12_lantern_18 : decode cX12_lantern 18 = .ok (.ifCond .ne 9, 3) := by decide +kernel
theorem dX12_lantern_21 : decode cX12_lantern 21 = .ok (.aload_n 0, 1) := by decide +kernel
theorem dX12_lantern_22 : decode cX12_lantern 22 = .ok (.iconst (-1), 1) := by decide +kernel
theorem dX12_lantern_23 : decode cX12_lantern 23 = .ok (.invokevirtual 160, 3) := by decide +kernel
theorem dX12_lantern_26 : decode cX12_lantern 26 = .ok (.ireturn, 1) := by decide +kernel
theorem dX12_lantern_27 : decode cX12_lantern 27 = .ok (.aload_n 0, 1) := by decide +kernel
theorem dX12_lantern_28 : decode cX12_lantern 28 = .ok (.getfield 20, 3) := by decide +kernel
theorem dX12_lantern_31 : decode cX12_lantern 31 = .ok (.sipush 248, 3) := by decide +kernel
theorem dX12_lantern_34 : decode cX12_lantern 34 = .ok (.iaload, 1) := by decide +kernel
theorem dX12_lantern_35 : decode cX12_lantern 35 = .ok (.istore 4, 2) := by decide +kernel
theorem dX12_lantern_37 : decode cX12_lantern 37 = .ok (.iload 4, 2) := by decide +kernel
theorem dX12_lantern_39 : decode cX12_lantern 39 = .ok (.iconst 2, 1) := by decide +kernel
theorem dX12_lantern_40 : decode cX12_lantern 40 = .ok (.if_icmp .ne 10, 3) := by decide +kernel
theorem dX12_lantern_43 : decode cX12_lantern 43 = .ok (.aload_n 0, 1) := by decide +kernel
theorem dX12_lantern_44 : decode cX12_lantern 44 = .ok (.bipush (-5), 2) := by decide +kernel
theorem dX12_lantern_46 : decode cX12_lantern 46 = .ok (.invokevirtual 160, 3) := by decide +kernel
theorem dX12_lantern_49 : decode cX12_lantern 49 = .ok (.ireturn, 1) := by decide +kernel
theorem dX12_lantern_50 : decode cX12_lantern 50 = .ok (.aload_n 0, 1) := by decide +kernel
theorem dX12_lantern_51 : decode cX12_lantern 51 = .ok (.getfield 20, 3) := by decide +kernel
theorem dX12_lantern_54 : decode cX12_lantern 54 = .ok (.sipush 162, 3) := by decide +kernel
theorem dX12_lantern_57 : decode cX12_lantern 57 = .ok (.bipush 19, 2) := by decide +kernel
theorem dX12_lantern_59 : decode cX12_lantern 59 = .ok (.iload 4, 2) := by decide +kernel
theorem dX12_lantern_61 : decode cX12_lantern 61 = .ok (.imul, 1) := by decide +kernel
theorem dX12_lantern_62 : decode cX12_lantern 62 = .ok (.iadd, 1) := by decide +kernel
theorem dX12_lantern_63 : decode cX12_lantern 63 = .ok (.iload_n 1, 1) := by decide +kernel
theorem dX12_lantern_64 : decode cX12_lantern 64 = .ok (.iastore, 1) := by decide +kernel
theorem dX12_lantern_65 : decode cX12_lantern 65 = .ok (.aload_n 0, 1) := by decide +kernel
theorem dX12_lantern_66 : decode cX12_lantern 66 = .ok (.getfield 20, 3) := by decide +kernel
theorem dX12_lantern_69 : decode cX12_lantern 69 = .ok (.sipush 162, 3) := by decide +kernel
theorem dX12_lantern_72 : decode cX12_lantern 72 = .ok (.bipush 19, 2) := by decide +kernel
theorem dX12_lantern_74 : decode cX12_lantern 74 = .ok (.iload 4, 2) := by decide +kernel
theorem dX12_lantern_76 : decode cX12_lantern 76 = .ok (.imul, 1) := by decide +kernel
theorem dX12_lantern_77 : decode cX12_lantern 77 = .ok (.iadd, 1) := by decide +kernel
theorem dX12_lantern_78 : decode cX12_lantern 78 = .ok (.iconst 1, 1) := by decide +kernel
theorem dX12_lantern_79 : decode cX12_lantern 79 = .ok (.iadd, 1) := by decide +kernel
theorem dX12_lantern_80 : decode cX12_lantern 80 = .ok (.iload_n 2, 1) := by decide +kernel
theorem dX12_lantern_81 : decode cX12_lantern 81 = .ok (.iastore, 1) := by decide +kernel
theorem dX12_lantern_82 : decode cX12_lantern 82 = .ok (.aload_n 0, 1) := by decide +kernel
theorem dX12_lantern_83 : decode cX12_lantern 83 = .ok (.getfield 20, 3) := by decide +kernel
theorem dX12_lantern_86 : decode cX12_lantern 86 = .ok (.sipush 162, 3) := by decide +kernel
theorem dX12_lantern_89 : decode cX12_lantern 89 = .ok (.bipush 19, 2) := by decide +kernel
theorem dX12_lantern_91 : decode cX12_lantern 91 = .ok (.iload 4, 2) := by decide +kernel
theorem dX12_lantern_93 : decode cX12_lantern 93 = .ok (.imul, 1) := by decide +kernel
theorem dX12_lantern_94 : decode cX12_lantern 94 = .ok (.iadd, 1) := by decide +kernel
theorem dX12_lantern_95 : decode cX12_lantern 95 = .ok (.iconst 2, 1) := by decide +kernel
theorem dX12_lantern_96 : decode cX12_lantern 96 = .ok (.iadd, 1) := by decide +kernel
theorem dX12_lantern_97 : decode cX12_lantern 97 = .ok (.iconst 1, 1) := by decide +kernel
theorem dX12_lantern_98 : decode cX12_lantern 98 = .ok (.iastore, 1) := by decide +kernel
theorem dX12_lantern_99 : decode cX12_lantern 99 = .ok (.aload_n 0, 1) := by decide +kernel
theorem dX12_lantern_100 : decode cX12_lantern 100 = .ok (.getfield 20, 3) := by decide +kernel
theorem dX12_lantern_103 : decode cX12_lantern 103 = .ok (.sipush 162, 3) := by decide +kernel
theorem dX12_lantern_106 : decode cX12_lantern 106 = .ok (.bipush 19, 2) := by decide +kernel
theorem dX12_lantern_108 : decode cX12_lantern 108 = .ok (.iload 4, 2) := by decide +kernel
theorem dX12_lantern_110 : decode cX12_lantern 110 = .ok (.imul, 1) := by decide +kernel
theorem dX12_lantern_111 : decode cX12_lantern 111 = .ok (.iadd, 1) := by decide +kernel
theorem dX12_lantern_112 : decode cX12_lantern 112 = .ok (.iconst 3, 1) := by decide +kernel
theorem dX12_lantern_113 : decode cX12_lantern 113 = .ok (.iadd, 1) := by decide +kernel
theorem dX12_lantern_114 : decode cX12_lantern 114 = .ok (.iload_n 3, 1) := by decide +kernel
theorem dX12_lantern_115 : decode cX12_lantern 115 = .ok (.iastore, 1) := by decide +kernel
theorem dX12_lantern_116 : decode cX12_lantern 116 = .ok (.aload_n 0, 1) := by decide +kernel
theorem dX12_lantern_117 : decode cX12_lantern 117 = .ok (.getfield 20, 3) := by decide +kernel
theorem dX12_lantern_120 : decode cX12_lantern 120 = .ok (.sipush 248, 3) := by decide +kernel
theorem dX12_lantern_123 : decode cX12_lantern 123 = .ok (.dup2, 1) := by decide +kernel
theorem dX12_lantern_124 : decode cX12_lantern 124 = .ok (.iaload, 1) := by decide +kernel
theorem dX12_lantern_125 : decode cX12_lantern 125 = .ok (.iconst 1, 1) := by decide +kernel
theorem dX12_lantern_126 : decode cX12_lantern 126 = .ok (.iadd, 1) := by decide +kernel
theorem dX12_lantern_127 : decode cX12_lantern 127 = .ok (.iastore, 1) := by decide +kernel
theorem dX12_lantern_128 : decode cX12_lantern 128 = .ok (.aload_n 0, 1) := by decide +kernel
theorem dX12_lantern_129 : decode cX12_lantern 129 = .ok (.iload 4, 2) := by decide +kernel
theorem dX12_lantern_131 : decode cX12_lantern 131 = .ok (.invokevirtual 164, 3) := by decide +kernel
theorem dX12_lantern_134 : decode cX12_lantern 134 = .ok (.ireturn, 1) := by decide +kernel
set_option maxRecDepth 20000 in
theorem T_X12_lantern {Q : Option Value → ah_T → Prop} {h : ah_T} (hs : Sh h) (x1 : Int32) (x2 : Int32) (x3 : Int32) (ht : (((f_X12_isKind x1) = 0 → (Mt mX12_refuses [.ref 82, .int (-1)] h (ab_qi fun v4 h2 => Sh h2 ∧ Q (some (.int v4)) h2))) ∧ (¬ (f_X12_isKind x1) = 0 → (((f_X12_isMinute x2) = 0 → (Mt mX12_refuses [.ref 82, .int (-1)] h (ab_qi fun v8 h6 => Sh h6 ∧ Q (some (.int v8)) h6))) ∧ (¬ (f_X12_isMinute x2) = 0 → ((¬ (f_X12_isCorner x3) = 0 → ((¬ (ah_i h 84 (Int32.toNatClampNeg 248)) = 2 → (vp_in (162 + (19 * (ah_i h 84 (Int32.toNatClampNeg 248)))) (ah_n h 84)) ∧ (∀ h12, h12 = ah_si h 84 (Int32.toNatClampNeg (162 + (19 * (ah_i h 84 (Int32.toNatClampNeg 248))))) x1 → (vp_in ((162 + (19 * (ah_i h 84 (Int32.toNatClampNeg 248)))) + 1) (ah_n h12 84)) ∧ (∀ h16, h16 = ah_si h12 84 (Int32.toNatClampNeg ((162 + (19 * (ah_i h 84 (Int32.toNatClampNeg 248)))) + 1)) x2 → (vp_in ((162 + (19 * (ah_i h 84 (Int32.toNatClampNeg 248)))) + 2) (ah_n h16 84)) ∧ (∀ h20, h20 = ah_si h16 84 (Int32.toNatClampNeg ((162 + (19 * (ah_i h 84 (Int32.toNatClampNeg 248)))) + 2)) 1 → (vp_in ((162 + (19 * (ah_i h 84 (Int32.toNatClampNeg 248)))) + 3) (ah_n h20 84)) ∧ (∀ h24, h24 = ah_si h20 84 (Int32.toNatClampNeg ((162 + (19 * (ah_i h 84 (Int32.toNatClampNeg 248)))) + 3)) x3 → (∀ h27, h27 = ah_si h24 84 (Int32.toNatClampNeg 248) ((ah_i h24 84 (Int32.toNatClampNeg 248)) + 1) → (Mt mX12_good [.ref 82, .int (ah_i h 84 (Int32.toNatClampNeg 248))] h27 (ab_qi fun v32 h30 => Sh h30 ∧ Q (some (.int v32)) h30)))))))) ∧ ((ah_i h 84 (Int32.toNatClampNeg 248)) = 2 → (Mt mX12_refuses [.ref 82, .int (-5)] h (ab_qi fun v35 h33 => Sh h33 ∧ Q (some (.int v35)) h33))))) ∧ ((f_X12_isCorner x3) = 0 → (Mt mX12_refuses [.ref 82, .int (-1)] h (ab_qi fun v38 h36 => Sh h36 ∧ Q (some (.int v38)) h36))))))))) : Mt mX12_lantern [.ref 82, .int x1, .int x2, .int x3] h Q := by
  refine Mt.ofWp rfl (by exact (Nat.le_of_ble_eq_true rfl)) (Wp.fewer (L' := [some (.ref 82), some (.int x1), some (.int x2), some (.int x3), none]) (show ab_leL _ _ from ⟨rfl, ⟨rfl, ⟨rfl, ⟨rfl, trivial⟩⟩⟩⟩) ?_)
  refine ab_iload_n (i := 1) dX12_lantern_0 rfl rfl ?_
  refine ab_callS (Q' := fun r h' => r = some (.int (f_X12_isKind x1)) ∧ h = h') (As := [.int x1]) (c_X12_isKind hs x1 ⟨rfl, rfl⟩) (Y_X12_isKind) l_X12_192 st_X12_isKind rfl ⟨(Nat.le_of_ble_eq_true rfl), (Nat.le_of_ble_eq_true rfl), (Nat.le_of_ble_eq_true rfl), (Nat.le_of_ble_eq_true rfl)⟩ dX12_lantern_1 ?_
  rintro _ _ ⟨rfl, rfl⟩
  refine ab_if_eq (tgt := 21) dX12_lantern_4 (by decide) (fun c1 => ?_) (fun c1 => ?_)
  · have ht := ht.1 c1
    refine ab_aload_n (i := 0) dX12_lantern_21 rfl rfl ?_
    refine ab_iconst (v := (-1)) dX12_lantern_22 (by decide) ?_
    refine ab_callV (b := 82) (As := [.int (-1)]) ht (Y_X12_refuses) l_X12_160 in_X12_refuses se_X12_refuses (sh_k hs 82 12 (by decide) rfl) (by decide) rfl rfl ⟨(Nat.le_of_ble_eq_true rfl), (Nat.le_of_ble_eq_true rfl), (Nat.le_of_ble_eq_true rfl), (Nat.le_of_ble_eq_true rfl)⟩ dX12_lantern_23 ?_
    rintro _ h2 ⟨v4, rfl, hs3, ht⟩
    exact ab_iret rfl dX12_lantern_26 (Nat.le_of_ble_eq_true rfl) (Nat.le_of_ble_eq_true rfl) ht
  · have ht := ht.2 c1
    refine ab_iload_n (i := 2) dX12_lantern_7 rfl rfl ?_
    refine ab_callS (Q' := fun r h' => r = some (.int (f_X12_isMinute x2)) ∧ h = h') (As := [.int x2]) (c_X12_isMinute hs x2 ⟨rfl, rfl⟩) (Y_X12_isMinute) l_X12_201 st_X12_isMinute rfl ⟨(Nat.le_of_ble_eq_true rfl), (Nat.le_of_ble_eq_true rfl), (Nat.le_of_ble_eq_true rfl), (Nat.le_of_ble_eq_true rfl)⟩ dX12_lantern_8 ?_
    rintro _ _ ⟨rfl, rfl⟩
    refine ab_if_eq (tgt := 21) dX12_lantern_11 (by decide) (fun c5 => ?_) (fun c5 => ?_)
    · have ht := ht.1 c5
      refine ab_aload_n (i := 0) dX12_lantern_21 rfl rfl ?_
      refine ab_iconst (v := (-1)) dX12_lantern_22 (by decide) ?_
      refine ab_callV (b := 82) (As := [.int (-1)]) ht (Y_X12_refuses) l_X12_160 in_X12_refuses se_X12_refuses (sh_k hs 82 12 (by decide) rfl) (by decide) rfl rfl ⟨(Nat.le_of_ble_eq_true rfl), (Nat.le_of_ble_eq_true rfl), (Nat.le_of_ble_eq_true rfl), (Nat.le_of_ble_eq_true rfl)⟩ dX12_lantern_23 ?_
      rintro _ h6 ⟨v8, rfl, hs7, ht⟩
      exact ab_iret rfl dX12_lantern_26 (Nat.le_of_ble_eq_true rfl) (Nat.le_of_ble_eq_true rfl) ht
    · have ht := ht.2 c5
      refine ab_iload_n (i := 3) dX12_lantern_14 rfl rfl ?_
      refine ab_callS (Q' := fun r h' => r = some (.int (f_X12_isCorner x3)) ∧ h = h') (As := [.int x3]) (c_X12_isCorner hs x3 ⟨rfl, rfl⟩) (Y_X12_isCorner) l_X12_174 st_X12_isCorner rfl ⟨(Nat.le_of_ble_eq_true rfl), (Nat.le_of_ble_eq_true rfl), (Nat.le_of_ble_eq_true rfl), (Nat.le_of_ble_eq_true rfl)⟩ dX12_lantern_15 ?_
      rintro _ _ ⟨rfl, rfl⟩
      refine ab_if_ne (tgt := 27) dX12_lantern_18 (by decide) (fun c9 => ?_) (fun c9 => ?_)
      · have ht := ht.1 c9
        refine ab_aload_n (i := 0) dX12_lantern_27 rfl rfl ?_
        refine ab_getR (b := 84) f_X12_20 rfl (sh_k hs 82 12 (by decide) rfl) (sh_r hs 100 rfl) dX12_lantern_28 ?_
        refine ab_sipush (v := 248) dX12_lantern_31 (by decide) ?_
        refine ab_iald (sh_k hs 84 14 (by decide) rfl) (sh_in hs 84 5860 (by decide) (by decide) rfl (by unfold vp_in; decide)) dX12_lantern_34 ?_
        refine ab_istore (i := 4) (L' := [some (.ref 82), some (.int x1), some (.int x2), some (.int x3), some (.int (ah_i h 84 (Int32.toNatClampNeg 248)))]) dX12_lantern_35 (by exact (Nat.le_of_ble_eq_true rfl)) rfl rfl ?_
        refine ab_iload (i := 4) dX12_lantern_37 rfl ?_
        refine ab_iconst (v := 2) dX12_lantern_39 (by decide) ?_
        refine ab_icmp_ne (tgt := 50) dX12_lantern_40 (by decide) (fun c10 => ?_) (fun c10 => ?_)
        · have ht := ht.1 c10
          refine ab_aload_n (i := 0) dX12_lantern_50 rfl rfl ?_
          refine ab_getR (b := 84) f_X12_20 rfl (sh_k hs 82 12 (by decide) rfl) (sh_r hs 100 rfl) dX12_lantern_51 ?_
          refine ab_sipush (v := 162) dX12_lantern_54 (by decide) ?_
          refine ab_bipush (v := 19) dX12_lantern_57 (by decide) ?_
          refine ab_iload (i := 4) dX12_lantern_59 rfl ?_
          refine ab_imul dX12_lantern_61 ?_
          refine ab_iadd dX12_lantern_62 ?_
          refine ab_iload_n (i := 1) dX12_lantern_63 rfl rfl ?_
          obtain ⟨hc11, ht⟩ := ht
          refine ab_iast (sh_k hs 84 14 (by decide) rfl) hc11 dX12_lantern_64 ?_
          refine Wp.nm fun h12 e13 => ?_
          have ht := ht h12 e13
          have hs14 : Sh h12 := by rw [e13]; exact sh_si hs
          refine ab_aload_n (i := 0) dX12_lantern_65 rfl rfl ?_
          refine ab_getR (b := 84) f_X12_20 rfl (sh_k hs14 82 12 (by decide) rfl) (sh_r hs14 100 rfl) dX12_lantern_66 ?_
          refine ab_sipush (v := 162) dX12_lantern_69 (by decide) ?_
          refine ab_bipush (v := 19) dX12_lantern_72 (by decide) ?_
          refine ab_iload (i := 4) dX12_lantern_74 rfl ?_
          refine ab_imul dX12_lantern_76 ?_
          refine ab_iadd dX12_lantern_77 ?_
          refine ab_iconst (v := 1) dX12_lantern_78 (by decide) ?_
          refine ab_iadd dX12_lantern_79 ?_
          refine ab_iload_n (i := 2) dX12_lantern_80 rfl rfl ?_
          obtain ⟨hc15, ht⟩ := ht
          refine ab_iast (sh_k hs14 84 14 (by decide) rfl) hc15 dX12_lantern_81 ?_
          refine Wp.nm fun h16 e17 => ?_
          have ht := ht h16 e17
          have hs18 : Sh h16 := by rw [e17]; exact sh_si hs14
          refine ab_aload_n (i := 0) dX12_lantern_82 rfl rfl ?_
          refine ab_getR (b := 84) f_X12_20 rfl (sh_k hs18 82 12 (by decide) rfl) (sh_r hs18 100 rfl) dX12_lantern_83 ?_
          refine ab_sipush (v := 162) dX12_lantern_86 (by decide) ?_
          refine ab_bipush (v := 19) dX12_lantern_89 (by decide) ?_
          refine ab_iload (i := 4) dX12_lantern_91 rfl ?_
          refine ab_imul dX12_lantern_93 ?_
          refine ab_iadd dX12_lantern_94 ?_
          refine ab_iconst (v := 2) dX12_lantern_95 (by decide) ?_
          refine ab_iadd dX12_lantern_96 ?_
          refine ab_iconst (v := 1) dX12_lantern_97 (by decide) ?_
          obtain ⟨hc19, ht⟩ := ht
          refine ab_iast (sh_k hs18 84 14 (by decide) rfl) hc19 dX12_lantern_98 ?_
          refine Wp.nm fun h20 e21 => ?_
          have ht := ht h20 e21
          have hs22 : Sh h20 := by rw [e21]; exact sh_si hs18
          refine ab_aload_n (i := 0) dX12_lantern_99 rfl rfl ?_
          refine ab_getR (b := 84) f_X12_20 rfl (sh_k hs22 82 12 (by decide) rfl) (sh_r hs22 100 rfl) dX12_lantern_100 ?_
          refine ab_sipush (v := 162) dX12_lantern_103 (by decide) ?_
          refine ab_bipush (v := 19) dX12_lantern_106 (by decide) ?_
          refine ab_iload (i := 4) dX12_lantern_108 rfl ?_
          refine ab_imul dX12_lantern_110 ?_
          refine ab_iadd dX12_lantern_111 ?_
          refine ab_iconst (v := 3) dX12_lantern_112 (by decide) ?_
          refine ab_iadd dX12_lantern_113 ?_
          refine ab_iload_n (i := 3) dX12_lantern_114 rfl rfl ?_
          obtain ⟨hc23, ht⟩ := ht
          refine ab_iast (sh_k hs22 84 14 (by decide) rfl) hc23 dX12_lantern_115 ?_
          refine Wp.nm fun h24 e25 => ?_
          have ht := ht h24 e25
          have hs26 : Sh h24 := by rw [e25]; exact sh_si hs22
          refine ab_aload_n (i := 0) dX12_lantern_116 rfl rfl ?_
          refine ab_getR (b := 84) f_X12_20 rfl (sh_k hs26 82 12 (by decide) rfl) (sh_r hs26 100 rfl) dX12_lantern_117 ?_
          refine ab_sipush (v := 248) dX12_lantern_120 (by decide) ?_
          refine ab_dup2 dX12_lantern_123 rfl rfl ?_
          refine ab_iald (sh_k hs26 84 14 (by decide) rfl) (sh_in hs26 84 5860 (by decide) (by decide) rfl (by unfold vp_in; decide)) dX12_lantern_124 ?_
          refine ab_iconst (v := 1) dX12_lantern_125 (by decide) ?_
          refine ab_iadd dX12_lantern_126 ?_
          refine ab_iast (sh_k hs26 84 14 (by decide) rfl) (sh_in hs26 84 5860 (by decide) (by decide) rfl (by unfold vp_in; decide)) dX12_lantern_127 ?_
          refine Wp.nm fun h27 e28 => ?_
          have ht := ht h27 e28
          have hs29 : Sh h27 := by rw [e28]; exact sh_si hs26
          refine ab_aload_n (i := 0) dX12_lantern_128 rfl rfl ?_
          refine ab_iload (i := 4) dX12_lantern_129 rfl ?_
          refine ab_callV (b := 82) (As := [.int (ah_i h 84 (Int32.toNatClampNeg 248))]) ht (Y_X12_good) l_X12_164 in_X12_good se_X12_good (sh_k hs29 82 12 (by decide) rfl) (by decide) rfl rfl ⟨(Nat.le_of_ble_eq_true rfl), (Nat.le_of_ble_eq_true rfl), (Nat.le_of_ble_eq_true rfl), (Nat.le_of_ble_eq_true rfl)⟩ dX12_lantern_131 ?_
          rintro _ h30 ⟨v32, rfl, hs31, ht⟩
          exact ab_iret rfl dX12_lantern_134 (Nat.le_of_ble_eq_true rfl) (Nat.le_of_ble_eq_true rfl) ht
        · have ht := ht.2 c10
          refine ab_aload_n (i := 0) dX12_lantern_43 rfl rfl ?_
          refine ab_bipush (v := (-5)) dX12_lantern_44 (by decide) ?_
          refine ab_callV (b := 82) (As := [.int (-5)]) ht (Y_X12_refuses) l_X12_160 in_X12_refuses se_X12_refuses (sh_k hs 82 12 (by decide) rfl) (by decide) rfl rfl ⟨(Nat.le_of_ble_eq_true rfl), (Nat.le_of_ble_eq_true rfl), (Nat.le_of_ble_eq_true rfl), (Nat.le_of_ble_eq_true rfl)⟩ dX12_lantern_46 ?_
          rintro _ h33 ⟨v35, rfl, hs34, ht⟩
          exact ab_iret rfl dX12_lantern_49 (Nat.le_of_ble_eq_true rfl) (Nat.le_of_ble_eq_true rfl) ht
      · have ht := ht.2 c9
        refine ab_aload_n (i := 0) dX12_lantern_21 rfl rfl ?_
        refine ab_iconst (v := (-1)) dX12_lantern_22 (by decide) ?_
        refine ab_callV (b := 82) (As := [.int (-1)]) ht (Y_X12_refuses) l_X12_160 in_X12_refuses se_X12_refuses (sh_k hs 82 12 (by decide) rfl) (by decide) rfl rfl ⟨(Nat.le_of_ble_eq_true rfl), (Nat.le_of_ble_eq_true rfl), (Nat.le_of_ble_eq_true rfl), (Nat.le_of_ble_eq_true rfl)⟩ dX12_lantern_23 ?_
        rintro _ h36 ⟨v38, rfl, hs37, ht⟩
        exact ab_iret rfl dX12_lantern_26 (Nat.le_of_ble_eq_true rfl) (Nat.le_of_ble_eq_true rfl) ht
theorem dX12_go_0 : decode cX12_go 0 = .ok (.iload_n 2, 1) := by decide +kernel
theorem dX12_go_1 : decode cX12_go 1 = .ok (.invokestatic 174, 3) := by decide +kernel
theorem dX12_go_4 : decode cX12_go 4 = .ok (.ifCond .ne 9, 3) := by decide +kernel
theorem dX12_go_7 : decode cX12_go 7 = .ok (.aload_n 0, 1) := by decide +kernel
theorem dX12_go_8 : decode cX12_go 8 = .ok (.iconst (-1), 1) := by decide +kernel
theorem dX12_go_9 : decode cX12_go 9 = .ok (.invokevirtual 160, 3) := by decide +kernel
theorem dX12_go_12 : decode cX12_go 12 = .ok (.ireturn, 1) := by decide +kernel
theorem dX12_go_13 : decode cX12_go 13 = .ok (.aload_n 0, 1) := by decide +kernel
theorem dX12_go_14 : decode cX12_go 14 = .ok (.iload_n 1, 1) := by decide +kernel
theorem dX12_go_15 : decode cX12_go 15 = .ok (.invokevirtual 208, 3) := by decide +kernel
theorem dX12_go_18 : decode cX12_go 18 = .ok (.ifCond .ne 10, 3) := by decide +kernel
theorem dX12_go_21 : decode cX12_go 21 = .ok (.aload_n 0, 1) := by decide +kernel
theorem dX12_go_22 : decode cX12_go 22 = .ok (.bipush (-2), 2) := by decide +kernel
theorem dX12_go_24 : decode cX12_go 24 = .ok (.invokevirtual 160, 3) := by decide +kernel
theorem dX12_go_27 : decode cX12_go 27 = .ok (.ireturn, 1) := by decide +kernel
theorem dX12_go_28 : decode cX12_go 28 = .ok (.sipush 162, 3) := by decide +kernel
theorem dX12_go_31 : decode cX12_go 31 = .ok (.bipush 19, 2) := by decide +kernel
theorem dX12_go_33 : decode cX12_go 33 = .ok (.iload_n 1, 1) := by decide +kernel
theorem dX12_go_34 : decode cX12_go 34 = .ok (.imul, 1) := by decide +kernel
theorem dX12_go_35 : decode cX12_go 35 = .ok (.iadd, 1) := by decide +kernel
theorem dX12_go_36 : decode cX12_go 36 = .ok (.istore_n 3, 1) := by decide +kernel
theorem dX12_go_37 : decode cX12_go 37 = .ok (.aload_n 0, 1) := by decide +kernel
theorem dX12_go_38 : decode cX12_go 38 = .ok (.getfield 20, 3) := by decide +kernel
theorem dX12_go_41 : decode cX12_go 41 = .ok (.iload_n 3, 1) := by decide +kernel
theorem dX12_go_42 : decode cX12_go 42 = .ok (.iconst 2, 1) := by decide +kernel
theorem dX12_go_43 : decode cX12_go 43 = .ok (.iadd, 1) := by decide +kernel
theorem dX12_go_44 : decode cX12_go 44 = .ok (.aload_n 0, 1) := by decide +kernel
theorem dX12_go_45 : decode cX12_go 45 = .ok (.getfield 20, 3) := by decide +kernel
theorem dX12_go_48 : decode cX12_go 48 = .ok (.iload_n 3, 1) := by decide +kernel
theorem dX12_go_49 : decode cX12_go 49 = .ok (.iconst 2, 1) := by decide +kernel
theorem dX12_go_50 : decode cX12_go 50 = .ok (.iadd, 1) := by decide +kernel
theorem dX12_go_51 : decode cX12_go 51 = .ok (.iaload, 1) := by decide +kernel
theorem dX12_go_52 : decode cX12_go 52 = .ok (.iadd, 1) := by decide +kernel
theorem dX12_go_53 : decode cX12_go 53 = .ok (.iaload, 1) := by decide +kernel
theorem dX12_go_54 : decode cX12_go 54 = .ok (.istore 4, 2) := by decide +kernel
theorem dX12_go_56 : decode cX12_go 56 = .ok (.iload 4, 2) := by decide +kernel
theorem dX12_go_58 : decode cX12_go 58 = .ok (.iload_n 2, 1) := by decide +kernel
theorem dX12_go_59 : decode cX12_go 59 = .ok (.if_icmp .eq 20, 3) := by decide +kernel
theorem dX12_go_62 : decode cX12_go 62 = .ok (.aload_n 0, 1) := by decide +kernel
theorem dX12_go_63 : decode cX12_go 63 = .ok (.iload 4, 2) := by decide +kernel
theorem dX12_go_65 : decode cX12_go 65 = .ok (.iload_n 2, 1) := by decide +kernel
theorem dX12_go_66 : decode cX12_go 66 = .ok (.invokevirtual 178, 3) := by decide +kernel
theorem dX12_go_69 : decode cX12_go 69 = .ok (.ifCond .ne 10, 3) := by decide +kernel
theorem dX12_go_72 : decode cX12_go 72 = .ok (.aload_n 0, 1) := by decide +kernel
theorem dX12_go_73 : decode cX12_go 73 = .ok (.bipush (-3), 2) := by decide +kernel
theorem dX12_go_75 : decode cX12_go 75 = .ok (.invokevirtual 160, 3) := by decide +kernel
theorem dX12_go_78 : decode cX12_go 78 = .ok (.ireturn, 1) := by decide +kernel
theorem dX12_go_79 : decode cX12_go 79 = .ok (.aload_n 0, 1) := by decide +kernel
theorem dX12_go_80 : decode cX12_go 80 = .ok (.getfield 20, 3) := by decide +kernel
theorem dX12_go_83 : decode cX12_go 83 = .ok (.iload_n 3, 1) := by decide +kernel
theorem dX12_go_84 : decode cX12_go 84 = .ok (.iconst 2, 1) := by decide +kernel
theorem dX12_go_85 : decode cX12_go 85 = .ok (.iadd, 1) := by decide +kernel
theorem dX12_go_86 : decode cX12_go 86 = .ok (.iaload, 1) := by decide +kernel
theorem dX12_go_87 : decode cX12_go 87 = .ok (.bipush 16, 2) := by decide +kernel
theorem dX12_go_89 : decode cX12_go 89 = .ok (.if_icmp .ne 10, 3) := by decide +kernel
theorem dX12_go_92 : decode cX12_go 92 = .ok (.aload_n 0, 1) := by decide +kernel
theorem dX12_go_93 : decode cX12_go 93 = .ok (.bipush (-5), 2) := by decide +kernel
theorem dX12_go_95 : decode cX12_go 95 = .ok (.invokevirtual 160, 3) := by decide +kernel
theorem dX12_go_98 : decode cX12_go 98 = .ok (.ireturn, 1) := by decide +kernel
theorem dX12_go_99 : decode cX12_go 99 = .ok (.aload_n 0, 1) := by decide +kernel
theorem dX12_go_100 : decode cX12_go 100 = .ok (.getfield 20, 3) := by decide +kernel
theorem dX12_go_103 : decode cX12_go 103 = .ok (.iload_n 3, 1) := by decide +kernel
theorem dX12_go_104 : decode cX12_go 104 = .ok (.iconst 2, 1) := by decide +kernel
theorem dX12_go_105 : decode cX12_go 105 = .ok (.iadd, 1) := by decide +kernel
theorem dX12_go_106 : decode cX12_go 106 = .ok (.dup2, 1) := by decide +kernel
theorem dX12_go_107 : decode cX12_go 107 = .ok (.iaload, 1) := by decide +kernel
theorem dX12_go_108 : decode cX12_go 108 = .ok (.iconst 1, 1) := by decide +kernel
theorem dX12_go_109 : decode cX12_go 109 = .ok (.iadd, 1) := by decide +kernel
theorem dX12_go_110 : decode cX12_go 110 = .ok (.iastore, 1) := by decide +kernel
theorem dX12_go_111 : decode cX12_go 111 = .ok (.aload_n 0, 1) := by decide +kernel
theorem dX12_go_112 : decode cX12_go 112 = .ok (.getfield 20, 3) := by decide +kernel
theorem dX12_go_115 : decode cX12_go 115 = .ok (.iload_n 3, 1) := by decide +kernel
theorem dX12_go_116 : decode cX12_go 116 = .ok (.iconst 2, 1) := by decide +kernel
theorem dX12_go_117 : decode cX12_go 117 = .ok (.iadd, 1) := by decide +kernel
theorem dX12_go_118 : decode cX12_go 118 = .ok (.aload_n 0, 1) := by decide +kernel
theorem dX12_go_119 : decode cX12_go 119 = .ok (.getfield 20, 3) := by decide +kernel
theorem dX12_go_122 : decode cX12_go 122 = .ok (.iload_n 3, 1) := by decide +kernel
theorem dX12_go_123 : decode cX12_go 123 = .ok (.iconst 2, 1) := by decide +kernel
theorem dX12_go_124 : decode cX12_go 124 = .ok (.iadd, 1) := by decide +kernel
theorem dX12_go_125 : decode cX12_go 125 = .ok (.iaload, 1) := by decide +kernel
theorem dX12_go_126 : decode cX12_go 126 = .ok (.iadd, 1) := by decide +kernel
theorem dX12_go_127 : decode cX12_go 127 = .ok (.iload_n 2, 1) := by decide +kernel
theorem dX12_go_128 : decode cX12_go 128 = .ok (.iastore, 1) := by decide +kernel
theorem dX12_go_129 : decode cX12_go 129 = .ok (.aload_n 0, 1) := by decide +kernel
theorem dX12_go_130 : decode cX12_go 130 = .ok (.aload_n 0, 1) := by decide +kernel
theorem dX12_go_131 : decode cX12_go 131 = .ok (.getfield 20, 3) := by decide +kernel
theorem dX12_go_134 : decode cX12_go 134 = .ok (.iload_n 3, 1) := by decide +kernel
theorem dX12_go_135 : decode cX12_go 135 = .ok (.iconst 2, 1) := by decide +kernel
theorem dX12_go_136 : decode cX12_go 136 = .ok (.iadd, 1) := by decide +kernel
theorem dX12_go_137 : decode cX12_go 137 = .ok (.iaload, 1) := by decide +kernel
theorem dX12_go_138 : decode cX12_go 138 = .ok (.iconst 1, 1) := by decide +kernel
theorem dX12_go_139 : decode cX12_go 139 = .ok (.isub, 1) := by decide +kernel
theorem dX12_go_140 : decode cX12_go 140 = .ok (.invokevirtual 164, 3) := by decide +kernel
theorem dX12_go_143 : decode cX12_go 143 = .ok (.ireturn, 1) := by decide +kernel
set_option maxRecDepth 20000 in
theorem T_X12_go {Q : Option Value → ah_T → Prop} {h : ah_T} (hs : Sh h) (x1 : Int32) (x2 : Int32) (ht : ((¬ (f_X12_isCorner x2) = 0 → ((¬ (f_X12_isLantern h x1) = 0 → (vp_in ((162 + (19 * x1)) + 2) (ah_n h 84)) ∧ (vp_in (((162 + (19 * x1)) + 2) + (ah_i h 84 (Int32.toNatClampNeg ((162 + (19 * x1)) + 2)))) (ah_n h 84)) ∧ (((ah_i h 84 (Int32.toNatClampNeg (((162 + (19 * x1)) + 2) + (ah_i h 84 (Int32.toNatClampNeg ((162 + (19 * x1)) + 2)))))) = x2 → (vp_in ((162 + (19 * x1)) + 2) (ah_n h 84)) ∧ ((¬ (ah_i h 84 (Int32.toNatClampNeg ((162 + (19 * x1)) + 2))) = 16 → (vp_in ((162 + (19 * x1)) + 2) (ah_n h 84)) ∧ (vp_in ((162 + (19 * x1)) + 2) (ah_n h 84)) ∧ (∀ h10, h10 = ah_si h 84 (Int32.toNatClampNeg ((162 + (19 * x1)) + 2)) ((ah_i h 84 (Int32.toNatClampNeg ((162 + (19 * x1)) + 2))) + 1) → (vp_in ((162 + (19 * x1)) + 2) (ah_n h10 84)) ∧ (vp_in (((162 + (19 * x1)) + 2) + (ah_i h10 84 (Int32.toNatClampNeg ((162 + (19 * x1)) + 2)))) (ah_n h10 84)) ∧ (∀ h15, h15 = ah_si h10 84 (Int32.toNatClampNeg (((162 + (19 * x1)) + 2) + (ah_i h10 84 (Int32.toNatClampNeg ((162 + (19 * x1)) + 2))))) x2 → (vp_in ((162 + (19 * x1)) + 2) (ah_n h15 84)) ∧ (Mt mX12_good [.ref 82, .int ((ah_i h15 84 (Int32.toNatClampNeg ((162 + (19 * x1)) + 2))) - 1)] h15 (ab_qi fun v21 h19 => Sh h19 ∧ Q (some (.int v21)) h19))))) ∧ ((ah_i h 84 (Int32.toNatClampNeg ((162 + (19 * x1)) + 2))) = 16 → (Mt mX12_refuses [.ref 82, .int (-5)] h (ab_qi fun v24 h22 => Sh h22 ∧ Q (some (.int v24)) h22))))) ∧ (¬ (ah_i h 84 (Int32.toNatClampNeg (((162 + (19 * x1)) + 2) + (ah_i h 84 (Int32.toNatClampNeg ((162 + (19 * x1)) + 2)))))) = x2 → (Mt mX12_hasWay [.ref 82, .int (ah_i h 84 (Int32.toNatClampNeg (((162 + (19 * x1)) + 2) + (ah_i h 84 (Int32.toNatClampNeg ((162 + (19 * x1)) + 2)))))), .int x2] h (ab_qi fun v27 h25 => Sh h25 ∧ ((¬ v27 = 0 → (vp_in ((162 + (19 * x1)) + 2) (ah_n h25 84)) ∧ ((¬ (ah_i h25 84 (Int32.toNatClampNeg ((162 + (19 * x1)) + 2))) = 16 → (vp_in ((162 + (19 * x1)) + 2) (ah_n h25 84)) ∧ (vp_in ((162 + (19 * x1)) + 2) (ah_n h25 84)) ∧ (∀ h33, h33 = ah_si h25 84 (Int32.toNatClampNeg ((162 + (19 * x1)) + 2)) ((ah_i h25 84 (Int32.toNatClampNeg ((162 + (19 * x1)) + 2))) + 1) → (vp_in ((162 + (19 * x1)) + 2) (ah_n h33 84)) ∧ (vp_in (((162 + (19 * x1)) + 2) + (ah_i h33 84 (Int32.toNatClampNeg ((162 + (19 * x1)) + 2)))) (ah_n h33 84)) ∧ (∀ h38, h38 = ah_si h33 84 (Int32.toNatClampNeg (((162 + (19 * x1)) + 2) + (ah_i h33 84 (Int32.toNatClampNeg ((162 + (19 * x1)) + 2))))) x2 → (vp_in ((162 + (19 * x1)) + 2) (ah_n h38 84)) ∧ (Mt mX12_good [.ref 82, .int ((ah_i h38 84 (Int32.toNatClampNeg ((162 + (19 * x1)) + 2))) - 1)] h38 (ab_qi fun v44 h42 => Sh h42 ∧ Q (some (.int v44)) h42))))) ∧ ((ah_i h25 84 (Int32.toNatClampNeg ((162 + (19 * x1)) + 2))) = 16 → (Mt mX12_refuses [.ref 82, .int (-5)] h25 (ab_qi fun v47 h45 => Sh h45 ∧ Q (some (.int v47)) h45))))) ∧ (v27 = 0 → (Mt mX12_refuses [.ref 82, .int (-3)] h25 (ab_qi fun v50 h48 => Sh h48 ∧ Q (some (.int v50)) h48))))))))) ∧ ((f_X12_isLantern h x1) = 0 → (Mt mX12_refuses [.ref 82, .int (-2)] h (ab_qi fun v53 h51 => Sh h51 ∧ Q (some (.int v53)) h51))))) ∧ ((f_X12_isCorner x2) = 0 → (Mt mX12_refuses [.ref 82, .int (-1)] h (ab_qi fun v56 h54 => Sh h54 ∧ Q (some (.int v56)) h54))))) : Mt mX12_go [.ref 82, .int x1, .int x2] h Q := by
  refine Mt.ofWp rfl (by exact (Nat.le_of_ble_eq_true rfl)) (Wp.fewer (L' := [some (.ref 82), some (.int x1), some (.int x2), none, none]) (show ab_leL _ _ from ⟨rfl, ⟨rfl, ⟨rfl, trivial⟩⟩⟩) ?_)
  refine ab_iload_n (i := 2) dX12_go_0 rfl rfl ?_
  refine ab_callS (Q' := fun r h' => r = some (.int (f_X12_isCorner x2)) ∧ h = h') (As := [.int x2]) (c_X12_isCorner hs x2 ⟨rfl, rfl⟩) (Y_X12_isCorner) l_X12_174 st_X12_isCorner rfl ⟨(Nat.le_of_ble_eq_true rfl), (Nat.le_of_ble_eq_true rfl), (Nat.le_of_ble_eq_true rfl), (Nat.le_of_ble_eq_true rfl)⟩ dX12_go_1 ?_
  rintro _ _ ⟨rfl, rfl⟩
  refine ab_if_ne (tgt := 13) dX12_go_4 (by decide) (fun c1 => ?_) (fun c1 => ?_)
  · have ht := ht.1 c1
    refine ab_aload_n (i := 0) dX12_go_13 rfl rfl ?_
    refine ab_iload_n (i := 1) dX12_go_14 rfl rfl ?_
    refine ab_callV (b := 82) (Q' := fun r h' => r = some (.int (f_X12_isLantern h x1)) ∧ h = h') (As := [.int x1]) (c_X12_isLantern hs x1 ⟨rfl, rfl⟩) (Y_X12_isLantern) l_X12_208 in_X12_isLantern se_X12_isLantern (sh_k hs 82 12 (by decide) rfl) (by decide) rfl rfl ⟨(Nat.le_of_ble_eq_true rfl), (Nat.le_of_ble_eq_true rfl), (Nat.le_of_ble_eq_true rfl), (Nat.le_of_ble_eq_true rfl)⟩ dX12_go_15 ?_
    rintro _ _ ⟨rfl, rfl⟩
    refine ab_if_ne (tgt := 28) dX12_go_18 (by decide) (fun c2 => ?_) (fun c2 => ?_)
    · have ht := ht.1 c2
      refine ab_sipush (v := 162) dX12_go_28 (by decide) ?_
      refine ab_bipush (v := 19) dX12_go_31 (by decide) ?_
      refine ab_iload_n (i := 1) dX12_go_33 rfl rfl ?_
      refine ab_imul dX12_go_34 ?_
      refine ab_iadd dX12_go_35 ?_
      refine ab_istore_n (i := 3) (L' := [some (.ref 82), some (.int x1), some (.int x2), some (.int (162 + (19 * x1))), none]) dX12_go_36 rfl (by exact (Nat.le_of_ble_eq_true rfl)) rfl rfl ?_
      refine ab_aload_n (i := 0) dX12_go_37 rfl rfl ?_
      refine ab_getR (b := 84) f_X12_20 rfl (sh_k hs 82 12 (by decide) rfl) (sh_r hs 100 rfl) dX12_go_38 ?_
      refine ab_iload_n (i := 3) dX12_go_41 rfl rfl ?_
      refine ab_iconst (v := 2) dX12_go_42 (by decide) ?_
      refine ab_iadd dX12_go_43 ?_
      refine ab_aload_n (i := 0) dX12_go_44 rfl rfl ?_
      refine ab_getR (b := 84) f_X12_20 rfl (sh_k hs 82 12 (by decide) rfl) (sh_r hs 100 rfl) dX12_go_45 ?_
      refine ab_iload_n (i := 3) dX12_go_48 rfl rfl ?_
      refine ab_iconst (v := 2) dX12_go_49 (by decide) ?_
      refine ab_iadd dX12_go_50 ?_
      obtain ⟨hc3, ht⟩ := ht
      refine ab_iald (sh_k hs 84 14 (by decide) rfl) hc3 dX12_go_51 ?_
      refine ab_iadd dX12_go_52 ?_
      obtain ⟨hc4, ht⟩ := ht
      refine ab_iald (sh_k hs 84 14 (by decide) rfl) hc4 dX12_go_53 ?_
      refine ab_istore (i := 4) (L' := [some (.ref 82), some (.int x1), some (.int x2), some (.int (162 + (19 * x1))), some (.int (ah_i h 84 (Int32.toNatClampNeg (((162 + (19 * x1)) + 2) + (ah_i h 84 (Int32.toNatClampNeg ((162 + (19 * x1)) + 2)))))))]) dX12_go_54 (by exact (Nat.le_of_ble_eq_true rfl)) rfl rfl ?_
      refine ab_iload (i := 4) dX12_go_56 rfl ?_
      refine ab_iload_n (i := 2) dX12_go_58 rfl rfl ?_
      refine ab_icmp_eq (tgt := 79) dX12_go_59 (by decide) (fun c5 => ?_) (fun c5 => ?_)
      · have ht := ht.1 c5
        refine ab_aload_n (i := 0) dX12_go_79 rfl rfl ?_
        refine ab_getR (b := 84) f_X12_20 rfl (sh_k hs 82 12 (by decide) rfl) (sh_r hs 100 rfl) dX12_go_80 ?_
        refine ab_iload_n (i := 3) dX12_go_83 rfl rfl ?_
        refine ab_iconst (v := 2) dX12_go_84 (by decide) ?_
        refine ab_iadd dX12_go_85 ?_
        obtain ⟨hc6, ht⟩ := ht
        refine ab_iald (sh_k hs 84 14 (by decide) rfl) hc6 dX12_go_86 ?_
        refine ab_bipush (v := 16) dX12_go_87 (by decide) ?_
        refine ab_icmp_ne (tgt := 99) dX12_go_89 (by decide) (fun c7 => ?_) (fun c7 => ?_)
        · have ht := ht.1 c7
          refine ab_aload_n (i := 0) dX12_go_99 rfl rfl ?_
          refine ab_getR (b := 84) f_X12_20 rfl (sh_k hs 82 12 (by decide) rfl) (sh_r hs 100 rfl) dX12_go_100 ?_
          refine ab_iload_n (i := 3) dX12_go_103 rfl rfl ?_
          refine ab_iconst (v := 2) dX12_go_104 (by decide) ?_
          refine ab_iadd dX12_go_105 ?_
          refine ab_dup2 dX12_go_106 rfl rfl ?_
          obtain ⟨hc8, ht⟩ := ht
          refine ab_iald (sh_k hs 84 14 (by decide) rfl) hc8 dX12_go_107 ?_
          refine ab_iconst (v := 1) dX12_go_108 (by decide) ?_
          refine ab_iadd dX12_go_109 ?_
          obtain ⟨hc9, ht⟩ := ht
          refine ab_iast (sh_k hs 84 14 (by decide) rfl) hc9 dX12_go_110 ?_
          refine Wp.nm fun h10 e11 => ?_
          have ht := ht h10 e11
          have hs12 : Sh h10 := by rw [e11]; exact sh_si hs
          refine ab_aload_n (i := 0) dX12_go_111 rfl rfl ?_
          refine ab_getR (b := 84) f_X12_20 rfl (sh_k hs12 82 12 (by decide) rfl) (sh_r hs12 100 rfl) dX12_go_112 ?_
          refine ab_iload_n (i := 3) dX12_go_115 rfl rfl ?_
          refine ab_iconst (v := 2) dX12_go_116 (by decide) ?_
          refine ab_iadd dX12_go_117 ?_
          refine ab_aload_n (i := 0) dX12_go_118 rfl rfl ?_
          refine ab_getR (b := 84) f_X12_20 rfl (sh_k hs12 82 12 (by decide) rfl) (sh_r hs12 100 rfl) dX12_go_119 ?_
          refine ab_iload_n (i := 3) dX12_go_122 rfl rfl ?_
          refine ab_iconst (v := 2) dX12_go_123 (by decide) ?_
          refine ab_iadd dX12_go_124 ?_
          obtain ⟨hc13, ht⟩ := ht
          refine ab_iald (sh_k hs12 84 14 (by decide) rfl) hc13 dX12_go_125 ?_
          refine ab_iadd dX12_go_126 ?_
          refine ab_iload_n (i := 2) dX12_go_127 rfl rfl ?_
          obtain ⟨hc14, ht⟩ := ht
          refine ab_iast (sh_k hs12 84 14 (by decide) rfl) hc14 dX12_go_128 ?_
          refine Wp.nm fun h15 e16 => ?_
          have ht := ht h15 e16
          have hs17 : Sh h15 := by rw [e16]; exact sh_si hs12
          refine ab_aload_n (i := 0) dX12_go_129 rfl rfl ?_
          refine ab_aload_n (i := 0) dX12_go_130 rfl rfl ?_
          refine ab_getR (b := 84) f_X12_20 rfl (sh_k hs17 82 12 (by decide) rfl) (sh_r hs17 100 rfl) dX12_go_131 ?_
          refine ab_iload_n (i := 3) dX12_go_134 rfl rfl ?_
          refine ab_iconst (v := 2) dX12_go_135 (by decide) ?_
          refine ab_iadd dX12_go_136 ?_
          obtain ⟨hc18, ht⟩ := ht
          refine ab_iald (sh_k hs17 84 14 (by decide) rfl) hc18 dX12_go_137 ?_
          refine ab_iconst (v := 1) dX12_go_138 (by decide) ?_
          refine ab_isub dX12_go_139 ?_
          refine ab_callV (b := 82) (As := [.int ((ah_i h15 84 (Int32.toNatClampNeg ((162 + (19 * x1)) + 2))) - 1)]) ht (Y_X12_good) l_X12_164 in_X12_good se_X12_good (sh_k hs17 82 12 (by decide) rfl) (by decide) rfl rfl ⟨(Nat.le_of_ble_eq_true rfl), (Nat.le_of_ble_eq_true rfl), (Nat.le_of_ble_eq_true rfl), (Nat.le_of_ble_eq_true rfl)⟩ dX12_go_140 ?_
          rintro _ h19 ⟨v21, rfl, hs20, ht⟩
          exact ab_iret rfl dX12_go_143 (Nat.le_of_ble_eq_true rfl) (Nat.le_of_ble_eq_true rfl) ht
        · have ht := ht.2 c7
          refine ab_aload_n (i := 0) dX12_go_92 rfl rfl ?_
          refine ab_bipush (v := (-5)) dX12_go_93 (by decide) ?_
          refine ab_callV (b := 82) (As := [.int (-5)]) ht (Y_X12_refuses) l_X12_160 in_X12_refuses se_X12_refuses (sh_k hs 82 12 (by decide) rfl) (by decide) rfl rfl ⟨(Nat.le_of_ble_eq_true rfl), (Nat.le_of_ble_eq_true rfl), (Nat.le_of_ble_eq_true rfl), (Nat.le_of_ble_eq_true rfl)⟩ dX12_go_95 ?_
          rintro _ h22 ⟨v24, rfl, hs23, ht⟩
          exact ab_iret rfl dX12_go_98 (Nat.le_of_ble_eq_true rfl) (Nat.le_of_ble_eq_true rfl) ht
      · have ht := ht.2 c5
        refine ab_aload_n (i := 0) dX12_go_62 rfl rfl ?_
        refine ab_iload (i := 4) dX12_go_63 rfl ?_
        refine ab_iload_n (i := 2) dX12_go_65 rfl rfl ?_
        refine ab_callV (b := 82) (As := [.int (ah_i h 84 (Int32.toNatClampNeg (((162 + (19 * x1)) + 2) + (ah_i h 84 (Int32.toNatClampNeg ((162 + (19 * x1)) + 2)))))), .int x2]) ht (Y_X12_hasWay) l_X12_178 in_X12_hasWay se_X12_hasWay (sh_k hs 82 12 (by decide) rfl) (by decide) rfl rfl ⟨(Nat.le_of_ble_eq_true rfl), (Nat.le_of_ble_eq_true rfl), (Nat.le_of_ble_eq_true rfl), (Nat.le_of_ble_eq_true rfl)⟩ dX12_go_66 ?_
        rintro _ h25 ⟨v27, rfl, hs26, ht⟩
        refine ab_if_ne (tgt := 79) dX12_go_69 (by decide) (fun c28 => ?_) (fun c28 => ?_)
        · have ht := ht.1 c28
          refine ab_aload_n (i := 0) dX12_go_79 rfl rfl ?_
          refine ab_getR (b := 84) f_X12_20 rfl (sh_k hs26 82 12 (by decide) rfl) (sh_r hs26 100 rfl) dX12_go_80 ?_
          refine ab_iload_n (i := 3) dX12_go_83 rfl rfl ?_
          refine ab_iconst (v := 2) dX12_go_84 (by decide) ?_
          refine ab_iadd dX12_go_85 ?_
          obtain ⟨hc29, ht⟩ := ht
          refine ab_iald (sh_k hs26 84 14 (by decide) rfl) hc29 dX12_go_86 ?_
          refine ab_bipush (v := 16) dX12_go_87 (by decide) ?_
          refine ab_icmp_ne (tgt := 99) dX12_go_89 (by decide) (fun c30 => ?_) (fun c30 => ?_)
          · have ht := ht.1 c30
            refine ab_aload_n (i := 0) dX12_go_99 rfl rfl ?_
            refine ab_getR (b := 84) f_X12_20 rfl (sh_k hs26 82 12 (by decide) rfl) (sh_r hs26 100 rfl) dX12_go_100 ?_
            refine ab_iload_n (i := 3) dX12_go_103 rfl rfl ?_
            refine ab_iconst (v := 2) dX12_go_104 (by decide) ?_
            refine ab_iadd dX12_go_105 ?_
            refine ab_dup2 dX12_go_106 rfl rfl ?_
            obtain ⟨hc31, ht⟩ := ht
            refine ab_iald (sh_k hs26 84 14 (by decide) rfl) hc31 dX12_go_107 ?_
            refine ab_iconst (v := 1) dX12_go_108 (by decide) ?_
            refine ab_iadd dX12_go_109 ?_
            obtain ⟨hc32, ht⟩ := ht
            refine ab_iast (sh_k hs26 84 14 (by decide) rfl) hc32 dX12_go_110 ?_
            refine Wp.nm fun h33 e34 => ?_
            have ht := ht h33 e34
            have hs35 : Sh h33 := by rw [e34]; exact sh_si hs26
            refine ab_aload_n (i := 0) dX12_go_111 rfl rfl ?_
            refine ab_getR (b := 84) f_X12_20 rfl (sh_k hs35 82 12 (by decide) rfl) (sh_r hs35 100 rfl) dX12_go_112 ?_
            refine ab_iload_n (i := 3) dX12_go_115 rfl rfl ?_
            refine ab_iconst (v := 2) dX12_go_116 (by decide) ?_
            refine ab_iadd dX12_go_117 ?_
            refine ab_aload_n (i := 0) dX12_go_118 rfl rfl ?_
            refine ab_getR (b := 84) f_X12_20 rfl (sh_k hs35 82 12 (by decide) rfl) (sh_r hs35 100 rfl) dX12_go_119 ?_
            refine ab_iload_n (i := 3) dX12_go_122 rfl rfl ?_
            refine ab_iconst (v := 2) dX12_go_123 (by decide) ?_
            refine ab_iadd dX12_go_124 ?_
            obtain ⟨hc36, ht⟩ := ht
            refine ab_iald (sh_k hs35 84 14 (by decide) rfl) hc36 dX12_go_125 ?_
            refine ab_iadd dX12_go_126 ?_
            refine ab_iload_n (i := 2) dX12_go_127 rfl rfl ?_
            obtain ⟨hc37, ht⟩ := ht
            refine ab_iast (sh_k hs35 84 14 (by decide) rfl) hc37 dX12_go_128 ?_
            refine Wp.nm fun h38 e39 => ?_
            have ht := ht h38 e39
            have hs40 : Sh h38 := by rw [e39]; exact sh_si hs35
            refine ab_aload_n (i := 0) dX12_go_129 rfl rfl ?_
            refine ab_aload_n (i := 0) dX12_go_130 rfl rfl ?_
            refine ab_getR (b := 84) f_X12_20 rfl (sh_k hs40 82 12 (by decide) rfl) (sh_r hs40 100 rfl) dX12_go_131 ?_
            refine ab_iload_n (i := 3) dX12_go_134 rfl rfl ?_
            refine ab_iconst (v := 2) dX12_go_135 (by decide) ?_
            refine ab_iadd dX12_go_136 ?_
            obtain ⟨hc41, ht⟩ := ht
            refine ab_iald (sh_k hs40 84 14 (by decide) rfl) hc41 dX12_go_137 ?_
            refine ab_iconst (v := 1) dX12_go_138 (by decide) ?_
            refine ab_isub dX12_go_139 ?_
            refine ab_callV (b := 82) (As := [.int ((ah_i h38 84 (Int32.toNatClampNeg ((162 + (19 * x1)) + 2))) - 1)]) ht (Y_X12_good) l_X12_164 in_X12_good se_X12_good (sh_k hs40 82 12 (by decide) rfl) (by decide) rfl rfl ⟨(Nat.le_of_ble_eq_true rfl), (Nat.le_of_ble_eq_true rfl), (Nat.le_of_ble_eq_true rfl), (Nat.le_of_ble_eq_true rfl)⟩ dX12_go_140 ?_
            rintro _ h42 ⟨v44, rfl, hs43, ht⟩
            exact ab_iret rfl dX12_go_143 (Nat.le_of_ble_eq_true rfl) (Nat.le_of_ble_eq_true rfl) ht
          · have ht := ht.2 c30
            refine ab_aload_n (i := 0) dX12_go_92 rfl rfl ?_
            refine ab_bipush (v := (-5)) dX12_go_93 (by decide) ?_
            refine ab_callV (b := 82) (As := [.int (-5)]) ht (Y_X12_refuses) l_X12_160 in_X12_refuses se_X12_refuses (sh_k hs26 82 12 (by decide) rfl) (by decide) rfl rfl ⟨(Nat.le_of_ble_eq_true rfl), (Nat.le_of_ble_eq_true rfl), (Nat.le_of_ble_eq_true rfl), (Nat.le_of_ble_eq_true rfl)⟩ dX12_go_95 ?_
            rintro _ h45 ⟨v47, rfl, hs46, ht⟩
            exact ab_iret rfl dX12_go_98 (Nat.le_of_ble_eq_true rfl) (Nat.le_of_ble_eq_true rfl) ht
        · have ht := ht.2 c28
          refine ab_aload_n (i := 0) dX12_go_72 rfl rfl ?_
          refine ab_bipush (v := (-3)) dX12_go_73 (by decide) ?_
          refine ab_callV (b := 82) (As := [.int (-3)]) ht (Y_X12_refuses) l_X12_160 in_X12_refuses se_X12_refuses (sh_k hs26 82 12 (by decide) rfl) (by decide) rfl rfl ⟨(Nat.le_of_ble_eq_true rfl), (Nat.le_of_ble_eq_true rfl), (Nat.le_of_ble_eq_true rfl), (Nat.le_of_ble_eq_true rfl)⟩ dX12_go_75 ?_
          rintro _ h48 ⟨v50, rfl, hs49, ht⟩
          exact ab_iret rfl dX12_go_78 (Nat.le_of_ble_eq_true rfl) (Nat.le_of_ble_eq_true rfl) ht
    · have ht := ht.2 c2
      refine ab_aload_n (i := 0) dX12_go_21 rfl rfl ?_
      refine ab_bipush (v := (-2)) dX12_go_22 (by decide) ?_
      refine ab_callV (b := 82) (As := [.int (-2)]) ht (Y_X12_refuses) l_X12_160 in_X12_refuses se_X12_refuses (sh_k hs 82 12 (by decide) rfl) (by decide) rfl rfl ⟨(Nat.le_of_ble_eq_true rfl), (Nat.le_of_ble_eq_true rfl), (Nat.le_of_ble_eq_true rfl), (Nat.le_of_ble_eq_true rfl)⟩ dX12_go_24 ?_
      rintro _ h51 ⟨v53, rfl, hs52, ht⟩
      exact ab_iret rfl dX12_go_27 (Nat.le_of_ble_eq_true rfl) (Nat.le_of_ble_eq_true rfl) ht
  · have ht := ht.2 c1
    refine ab_aload_n (i := 0) dX12_go_7 rfl rfl ?_
    refine ab_iconst (v := (-1)) dX12_go_8 (by decide) ?_
    refine ab_callV (b := 82) (As := [.int (-1)]) ht (Y_X12_refuses) l_X12_160 in_X12_refuses se_X12_refuses (sh_k hs 82 12 (by decide) rfl) (by decide) rfl rfl ⟨(Nat.le_of_ble_eq_true rfl), (Nat.le_of_ble_eq_true rfl), (Nat.le_of_ble_eq_true rfl), (Nat.le_of_ble_eq_true rfl)⟩ dX12_go_9 ?_
    rintro _ h54 ⟨v56, rfl, hs55, ht⟩
    exact ab_iret rfl dX12_go_12 (Nat.le_of_ble_eq_true rfl) (Nat.le_of_ble_eq_true rfl) ht
theorem dX12_goAll_0 : decode cX12_goAll 0 = .ok (.aload_n 0, 1) := by decide +kernel
theorem dX12_goAll_1 : decode cX12_goAll 1 = .ok (.getfield 20, 3) := by decide +kernel
theorem dX12_goAll_4 : decode cX12_goAll 4 = .ok (.iload_n 1, 1) := by decide +kernel
theorem dX12_goAll_5 : decode cX12_goAll 5 = .ok (.iaload, 1) := by decide +kernel
theorem dX12_goAll_6 : decode cX12_goAll 6 = .ok (.istore_n 2, 1) := by decide +kernel
theorem dX12_goAll_7 : decode cX12_goAll 7 = .ok (.aload_n 0, 1) := by decide +kernel
theorem dX12_goAll_8 : decode cX12_goAll 8 = .ok (.getfield 20, 3) := by decide +kernel
theorem dX12_goAll_11 : decode cX12_goAll 11 = .ok (.iload_n 1, 1) := by decide +kernel
theorem dX12_goAll_12 : decode cX12_goAll 12 = .ok (.iconst 0, 1) := by decide +kernel
theorem dX12_goAll_13 : decode cX12_goAll 13 = .ok (.iastore, 1) := by decide +kernel
theorem dX12_goAll_14 : decode cX12_goAll 14 = .ok (.aload_n 0, 1) := by decide +kernel
theorem dX12_goAll_15 : decode cX12_goAll 15 = .ok (.dup, 1) := by decide +kernel
theorem dX12_goAll_16 : decode cX12_goAll 16 = .ok (.getfield 11, 3) := by decide +kernel
theorem dX12_goAll_19 : decode cX12_goAll 19 = .ok (.iconst 1, 1) := by decide +kernel
theorem dX12_goAll_20 : decode cX12_goAll 20 = .ok (.iadd, 1) := by decide +kernel
theorem dX12_goAll_21 : decode cX12_goAll 21 = .ok (.putfield 11, 3) := by decide +kernel
theorem dX12_goAll_24 : decode cX12_goAll 24 = .ok (.iload_n 2, 1) := by decide +kernel
theorem dX12_goAll_25 : decode cX12_goAll 25 = .ok (.ireturn, 1) := by decide +kernel
set_option maxRecDepth 20000 in
theorem T_X12_goAll {Q : Option Value → ah_T → Prop} {h : ah_T} (hs : Sh h) (x1 : Int32) (ht : (vp_in x1 (ah_n h 84)) ∧ (vp_in x1 (ah_n h 84)) ∧ (∀ h3, h3 = ah_si h 84 (Int32.toNatClampNeg x1) 0 → (∀ h6, h6 = ah_si h3 82 1 ((ah_i h3 82 1) + 1) → Q (some (.int (ah_i h 84 (Int32.toNatClampNeg x1)))) h6))) : Mt mX12_goAll [.ref 82, .int x1] h Q := by
  refine Mt.ofWp rfl (by exact (Nat.le_of_ble_eq_true rfl)) (Wp.fewer (L' := [some (.ref 82), some (.int x1), none]) (show ab_leL _ _ from ⟨rfl, ⟨rfl, trivial⟩⟩) ?_)
  refine ab_aload_n (i := 0) dX12_goAll_0 rfl rfl ?_
  refine ab_getR (b := 84) f_X12_20 rfl (sh_k hs 82 12 (by decide) rfl) (sh_r hs 100 rfl) dX12_goAll_1 ?_
  refine ab_iload_n (i := 1) dX12_goAll_4 rfl rfl ?_
  obtain ⟨hc1, ht⟩ := ht
  refine ab_iald (sh_k hs 84 14 (by decide) rfl) hc1 dX12_goAll_5 ?_
  refine ab_istore_n (i := 2) (L' := [some (.ref 82), some (.int x1), some (.int (ah_i h 84 (Int32.toNatClampNeg x1)))]) dX12_goAll_6 rfl (by exact (Nat.le_of_ble_eq_true rfl)) rfl rfl ?_
  refine ab_aload_n (i := 0) dX12_goAll_7 rfl rfl ?_
  refine ab_getR (b := 84) f_X12_20 rfl (sh_k hs 82 12 (by decide) rfl) (sh_r hs 100 rfl) dX12_goAll_8 ?_
  refine ab_iload_n (i := 1) dX12_goAll_11 rfl rfl ?_
  refine ab_iconst (v := 0) dX12_goAll_12 (by decide) ?_
  obtain ⟨hc2, ht⟩ := ht
  refine ab_iast (sh_k hs 84 14 (by decide) rfl) hc2 dX12_goAll_13 ?_
  refine Wp.nm fun h3 e4 => ?_
  have ht := ht h3 e4
  have hs5 : Sh h3 := by rw [e4]; exact sh_si hs
  refine ab_aload_n (i := 0) dX12_goAll_14 rfl rfl ?_
  refine ab_dup dX12_goAll_15 rfl ?_
  refine ab_getI f_X12_11 rfl (sh_k hs5 82 12 (by decide) rfl) dX12_goAll_16 ?_
  refine ab_iconst (v := 1) dX12_goAll_19 (by decide) ?_
  refine ab_iadd dX12_goAll_20 ?_
  refine ab_putI f_X12_11 (Or.inl rfl) rfl (sh_k hs5 82 12 (by decide) rfl) rfl rfl dX12_goAll_21 ?_
  refine Wp.nm fun h6 e7 => ?_
  have ht := ht h6 e7
  have hs8 : Sh h6 := by rw [e7]; exact sh_si hs5
  refine ab_iload_n (i := 2) dX12_goAll_24 rfl rfl ?_
  exact ab_iret rfl dX12_goAll_25 (Nat.le_of_ble_eq_true rfl) (Nat.le_of_ble_eq_true rfl) ht
theorem dX12_doused_0 : decode cX12_doused 0 = .ok (.aload_n 0, 1) := by decide +kernel
theorem dX12_doused_1 : decode cX12_doused 1 = .ok (.sipush 248, 3) := by decide +kernel
theorem dX12_doused_4 : decode cX12_doused 4 = .ok (.invokevirtual 211, 3) := by decide +kernel
theorem dX12_doused_7 : decode cX12_doused 7 = .ok (.ireturn, 1) := by decide +kernel
set_option maxRecDepth 20000 in
theorem T_X12_doused {Q : Option Value → ah_T → Prop} {h : ah_T} (hs : Sh h)  (ht : (Mt mX12_goAll [.ref 82, .int 248] h (ab_qi fun v3 h1 => Sh h1 ∧ Q (some (.int v3)) h1))) : Mt mX12_doused [.ref 82] h Q := by
  refine Mt.ofWp rfl (by exact (Nat.le_of_ble_eq_true rfl)) (Wp.fewer (L' := [some (.ref 82)]) (show ab_leL _ _ from ⟨rfl, trivial⟩) ?_)
  refine ab_aload_n (i := 0) dX12_doused_0 rfl rfl ?_
  refine ab_sipush (v := 248) dX12_doused_1 (by decide) ?_
  refine ab_callV (b := 82) (As := [.int 248]) ht (Y_X12_goAll) l_X12_211 in_X12_goAll se_X12_goAll (sh_k hs 82 12 (by decide) rfl) (by decide) rfl rfl ⟨(Nat.le_of_ble_eq_true rfl), (Nat.le_of_ble_eq_true rfl), (Nat.le_of_ble_eq_true rfl), (Nat.le_of_ble_eq_true rfl)⟩ dX12_doused_4 ?_
  rintro _ h1 ⟨v3, rfl, hs2, ht⟩
  exact ab_iret rfl dX12_doused_7 (Nat.le_of_ble_eq_true rfl) (Nat.le_of_ble_eq_true rfl) ht
theorem dX12_errand_0 : decode cX12_errand 0 = .ok (.iload_n 1, 1) := by decide +kernel
theorem dX12_errand_1 : decode cX12_errand 1 = .ok (.invokestatic 174, 3) := by decide +kernel
theorem dX12_errand_4 : decode cX12_errand 4 = .ok (.ifCond .eq 20, 3) := by decide +kernel
theorem dX12_errand_7 : decode cX12_errand 7 = .ok (.iload_n 2, 1) := by decide +kernel
theorem dX12_errand_8 : decode cX12_errand 8 = .ok (.invokestatic 201, 3) := by decide +kernel
theorem dX12_errand_11 : decode cX12_errand 11 = .ok (.ifCond .eq 13, 3) := by decide +kernel
theorem dX12_errand_14 : decode cX12_errand 14 = .ok (.iload_n 3, 1) := by decide +kernel
theorem dX12_errand_15 : decode cX12_errand 15 = .ok (.iload_n 2, 1) := by decide +kernel
theorem dX12_errand_16 : decode cX12_errand 16 = .ok (.bipush 119, 2) := by decide +kernel
theorem dX12_errand_18 : decode cX12_errand 18 = .ok (.invokestatic 156, 3) := by decide +kernel
theorem dX12_errand_21 : decode cX12_errand 21 = .ok (.ifCond .ne 9, 3) := by decide +kernel
theorem dX12_errand_24 : decode cX12_errand 24 = .ok (.aload_n 0, 1) := by decide +kernel
theorem dX12_errand_25 : decode cX12_errand 25 = .ok (.iconst (-1), 1) := by decide +kernel
theorem dX12_errand_26 : decode cX12_errand 26 = .ok (.invokevirtual 160, 3) := by decide +kernel
theorem dX12_errand_29 : decode cX12_errand 29 = .ok (.ireturn, 1) := by decide +kernel
theorem dX12_errand_30 : decode cX12_errand 30 = .ok (.aload_n 0, 1) := by decide +kernel
theorem dX12_errand_31 : decode cX12_errand 31 = .ok (.getfield 20, 3) := by decide +kernel
theorem dX12_errand_34 : decode cX12_errand 34 = .ok (.sipush 249, 3) := by decide +kernel
theorem dX12_errand_37 : decode cX12_errand 37 = .ok (.iaload, 1) := by decide +kernel
theorem dX12_errand_38 : decode cX12_errand 38 = .ok (.bipush 6, 2) := by decide +kernel
theorem dX12_errand_40 : decode cX12_errand 40 = .ok (.if_icmp .ne 10, 3) := by decide +kernel
theorem dX12_errand_43 : decode cX12_errand 43 = .ok (.aload_n 0, 1) := by decide +kernel
theorem dX12_errand_44 : decode cX12_errand 44 = .ok (.bipush (-5), 2) := by decide +kernel
theorem dX12_errand_46 : decode cX12_errand 46 = .ok (.invokevirtual 160, 3) := by decide +kernel
theorem dX12_errand_49 : decode cX12_errand 49 = .ok (.ireturn, 1) := by decide +kernel
theorem dX12_errand_50 : decode cX12_errand 50 = .ok (.aload_n 0, 1) := by decide +kernel
theorem dX12_errand_51 : decode cX12_errand 51 = .ok (.aload_n 0, 1) := by decide +kernel
theorem dX12_errand_52 : decode cX12_errand 52 = .ok (.sipush 200, 3) := by decide +kernel
theorem dX12_errand_55 : decode cX12_errand 55 = .ok (.sipush 249, 3) := by decide +kernel
theorem dX12_errand_58 : decode cX12_errand 58 = .ok (.iload_n 1, 1) := by decide +kernel
theorem dX12_errand_59 : decode cX12_errand 59 = .ok (.iload_n 2, 1) := by decide +kernel
theorem dX12_errand_60 : decode cX12_errand 60 = .ok (.iload_n 3, 1) := by decide +kernel
theorem dX12_errand_61 : decode cX12_errand 61 = .ok (.invokevirtual 182, 3) := by decide +kernel
theorem dX12_errand_64 : decode cX12_errand 64 = .ok (.iconst 1, 1) := by decide +kernel
theorem dX12_errand_65 : decode cX12_errand 65 = .ok (.isub, 1) := by decide +kernel
theorem dX12_errand_66 : decode cX12_errand 66 = .ok (.invokevirtual 164, 3) := by decide +kernel
theorem dX12_errand_69 : decode cX12_errand 69 = .ok (.ireturn, 1) := by decide +kernel
set_option maxRecDepth 20000 in
theorem T_X12_errand {Q : Option Value → ah_T → Prop} {h : ah_T} (hs : Sh h) (x1 : Int32) (x2 : Int32) (x3 : Int32) (ht : (((f_X12_isCorner x1) = 0 → (Mt mX12_refuses [.ref 82, .int (-1)] h (ab_qi fun v4 h2 => Sh h2 ∧ Q (some (.int v4)) h2))) ∧ (¬ (f_X12_isCorner x1) = 0 → (((f_X12_isMinute x2) = 0 → (Mt mX12_refuses [.ref 82, .int (-1)] h (ab_qi fun v8 h6 => Sh h6 ∧ Q (some (.int v8)) h6))) ∧ (¬ (f_X12_isMinute x2) = 0 → ((¬ (f_X12_lies x3 x2 119) = 0 → ((¬ (ah_i h 84 (Int32.toNatClampNeg 249)) = 6 → (Mt mX12_comesBehind [.ref 82, .int 200, .int 249, .int x1, .int x2, .int x3] h (ab_qi fun v13 h11 => Sh h11 ∧ (Mt mX12_good [.ref 82, .int (v13 - 1)] h11 (ab_qi fun v16 h14 => Sh h14 ∧ Q (some (.int v16)) h14))))) ∧ ((ah_i h 84 (Int32.toNatClampNeg 249)) = 6 → (Mt mX12_refuses [.ref 82, .int (-5)] h (ab_qi fun v19 h17 => Sh h17 ∧ Q (some (.int v19)) h17))))) ∧ ((f_X12_lies x3 x2 119) = 0 → (Mt mX12_refuses [.ref 82, .int (-1)] h (ab_qi fun v22 h20 => Sh h20 ∧ Q (some (.int v22)) h20))))))))) : Mt mX12_errand [.ref 82, .int x1, .int x2, .int x3] h Q := by
  refine Mt.ofWp rfl (by exact (Nat.le_of_ble_eq_true rfl)) (Wp.fewer (L' := [some (.ref 82), some (.int x1), some (.int x2), some (.int x3)]) (show ab_leL _ _ from ⟨rfl, ⟨rfl, ⟨rfl, ⟨rfl, trivial⟩⟩⟩⟩) ?_)
  refine ab_iload_n (i := 1) dX12_errand_0 rfl rfl ?_
  refine ab_callS (Q' := fun r h' => r = some (.int (f_X12_isCorner x1)) ∧ h = h') (As := [.int x1]) (c_X12_isCorner hs x1 ⟨rfl, rfl⟩) (Y_X12_isCorner) l_X12_174 st_X12_isCorner rfl ⟨(Nat.le_of_ble_eq_true rfl), (Nat.le_of_ble_eq_true rfl), (Nat.le_of_ble_eq_true rfl), (Nat.le_of_ble_eq_true rfl)⟩ dX12_errand_1 ?_
  rintro _ _ ⟨rfl, rfl⟩
  refine ab_if_eq (tgt := 24) dX12_errand_4 (by decide) (fun c1 => ?_) (fun c1 => ?_)
  · have ht := ht.1 c1
    refine ab_aload_n (i := 0) dX12_errand_24 rfl rfl ?_
    refine ab_iconst (v := (-1)) dX12_errand_25 (by decide) ?_
    refine ab_callV (b := 82) (As := [.int (-1)]) ht (Y_X12_refuses) l_X12_160 in_X12_refuses se_X12_refuses (sh_k hs 82 12 (by decide) rfl) (by decide) rfl rfl ⟨(Nat.le_of_ble_eq_true rfl), (Nat.le_of_ble_eq_true rfl), (Nat.le_of_ble_eq_true rfl), (Nat.le_of_ble_eq_true rfl)⟩ dX12_errand_26 ?_
    rintro _ h2 ⟨v4, rfl, hs3, ht⟩
    exact ab_iret rfl dX12_errand_29 (Nat.le_of_ble_eq_true rfl) (Nat.le_of_ble_eq_true rfl) ht
  · have ht := ht.2 c1
    refine ab_iload_n (i := 2) dX12_errand_7 rfl rfl ?_
    refine ab_callS (Q' := fun r h' => r = some (.int (f_X12_isMinute x2)) ∧ h = h') (As := [.int x2]) (c_X12_isMinute hs x2 ⟨rfl, rfl⟩) (Y_X12_isMinute) l_X12_201 st_X12_isMinute rfl ⟨(Nat.le_of_ble_eq_true rfl), (Nat.le_of_ble_eq_true rfl), (Nat.le_of_ble_eq_true rfl), (Nat.le_of_ble_eq_true rfl)⟩ dX12_errand_8 ?_
    rintro _ _ ⟨rfl, rfl⟩
    refine ab_if_eq (tgt := 24) dX12_errand_11 (by decide) (fun c5 => ?_) (fun c5 => ?_)
    · have ht := ht.1 c5
      refine ab_aload_n (i := 0) dX12_errand_24 rfl rfl ?_
      refine ab_iconst (v := (-1)) dX12_errand_25 (by decide) ?_
      refine ab_callV (b := 82) (As := [.int (-1)]) ht (Y_X12_refuses) l_X12_160 in_X12_refuses se_X12_refuses (sh_k hs 82 12 (by decide) rfl) (by decide) rfl rfl ⟨(Nat.le_of_ble_eq_true rfl), (Nat.le_of_ble_eq_true rfl), (Nat.le_of_ble_eq_true rfl), (Nat.le_of_ble_eq_true rfl)⟩ dX12_errand_26 ?_
      rintro _ h6 ⟨v8, rfl, hs7, ht⟩
      exact ab_iret rfl dX12_errand_29 (Nat.le_of_ble_eq_true rfl) (Nat.le_of_ble_eq_true rfl) ht
    · have ht := ht.2 c5
      refine ab_iload_n (i := 3) dX12_errand_14 rfl rfl ?_
      refine ab_iload_n (i := 2) dX12_errand_15 rfl rfl ?_
      refine ab_bipush (v := 119) dX12_errand_16 (by decide) ?_
      refine ab_callS (Q' := fun r h' => r = some (.int (f_X12_lies x3 x2 119)) ∧ h = h') (As := [.int x3, .int x2, .int 119]) (c_X12_lies hs x3 x2 119 ⟨rfl, rfl⟩) (Y_X12_lies) l_X12_156 st_X12_lies rfl ⟨(Nat.le_of_ble_eq_true rfl), (Nat.le_of_ble_eq_true rfl), (Nat.le_of_ble_eq_true rfl), (Nat.le_of_ble_eq_true rfl)⟩ dX12_errand_18 ?_
      rintro _ _ ⟨rfl, rfl⟩
      refine ab_if_ne (tgt := 30) dX12_errand_21 (by decide) (fun c9 => ?_) (fun c9 => ?_)
      · have ht := ht.1 c9
        refine ab_aload_n (i := 0) dX12_errand_30 rfl rfl ?_
        refine ab_getR (b := 84) f_X12_20 rfl (sh_k hs 82 12 (by decide) rfl) (sh_r hs 100 rfl) dX12_errand_31 ?_
        refine ab_sipush (v := 249) dX12_errand_34 (by decide) ?_
        refine ab_iald (sh_k hs 84 14 (by decide) rfl) (sh_in hs 84 5860 (by decide) (by decide) rfl (by unfold vp_in; decide)) dX12_errand_37 ?_
        refine ab_bipush (v := 6) dX12_errand_38 (by decide) ?_
        refine ab_icmp_ne (tgt := 50) dX12_errand_40 (by decide) (fun c10 => ?_) (fun c10 => ?_)
        · have ht := ht.1 c10
          refine ab_aload_n (i := 0) dX12_errand_50 rfl rfl ?_
          refine ab_aload_n (i := 0) dX12_errand_51 rfl rfl ?_
          refine ab_sipush (v := 200) dX12_errand_52 (by decide) ?_
          refine ab_sipush (v := 249) dX12_errand_55 (by decide) ?_
          refine ab_iload_n (i := 1) dX12_errand_58 rfl rfl ?_
          refine ab_iload_n (i := 2) dX12_errand_59 rfl rfl ?_
          refine ab_iload_n (i := 3) dX12_errand_60 rfl rfl ?_
          refine ab_callV (b := 82) (As := [.int 200, .int 249, .int x1, .int x2, .int x3]) ht (Y_X12_comesBehind) l_X12_182 in_X12_comesBehind se_X12_comesBehind (sh_k hs 82 12 (by decide) rfl) (by decide) rfl rfl ⟨(Nat.le_of_ble_eq_true rfl), (Nat.le_of_ble_eq_true rfl), (Nat.le_of_ble_eq_true rfl), (Nat.le_of_ble_eq_true rfl)⟩ dX12_errand_61 ?_
          rintro _ h11 ⟨v13, rfl, hs12, ht⟩
          refine ab_iconst (v := 1) dX12_errand_64 (by decide) ?_
          refine ab_isub dX12_errand_65 ?_
          refine ab_callV (b := 82) (As := [.int (v13 - 1)]) ht (Y_X12_good) l_X12_164 in_X12_good se_X12_good (sh_k hs12 82 12 (by decide) rfl) (by decide) rfl rfl ⟨(Nat.le_of_ble_eq_true rfl), (Nat.le_of_ble_eq_true rfl), (Nat.le_of_ble_eq_true rfl), (Nat.le_of_ble_eq_true rfl)⟩ dX12_errand_66 ?_
          rintro _ h14 ⟨v16, rfl, hs15, ht⟩
          exact ab_iret rfl dX12_errand_69 (Nat.le_of_ble_eq_true rfl) (Nat.le_of_ble_eq_true rfl) ht
        · have ht := ht.2 c10
          refine ab_aload_n (i := 0) dX12_errand_43 rfl rfl ?_
          refine ab_bipush (v := (-5)) dX12_errand_44 (by decide) ?_
          refine ab_callV (b := 82) (As := [.int (-5)]) ht (Y_X12_refuses) l_X12_160 in_X12_refuses se_X12_refuses (sh_k hs 82 12 (by decide) rfl) (by decide) rfl rfl ⟨(Nat.le_of_ble_eq_true rfl), (Nat.le_of_ble_eq_true rfl), (Nat.le_of_ble_eq_true rfl), (Nat.le_of_ble_eq_true rfl)⟩ dX12_errand_46 ?_
          rintro _ h17 ⟨v19, rfl, hs18, ht⟩
          exact ab_iret rfl dX12_errand_49 (Nat.le_of_ble_eq_true rfl) (Nat.le_of_ble_eq_true rfl) ht
      · have ht := ht.2 c9
        refine ab_aload_n (i := 0) dX12_errand_24 rfl rfl ?_
        refine ab_iconst (v := (-1)) dX12_errand_25 (by decide) ?_
        refine ab_callV (b := 82) (As := [.int (-1)]) ht (Y_X12_refuses) l_X12_160 in_X12_refuses se_X12_refuses (sh_k hs 82 12 (by decide) rfl) (by decide) rfl rfl ⟨(Nat.le_of_ble_eq_true rfl), (Nat.le_of_ble_eq_true rfl), (Nat.le_of_ble_eq_true rfl), (Nat.le_of_ble_eq_true rfl)⟩ dX12_errand_26 ?_
        rintro _ h20 ⟨v22, rfl, hs21, ht⟩
        exact ab_iret rfl dX12_errand_29 (Nat.le_of_ble_eq_true rfl) (Nat.le_of_ble_eq_true rfl) ht
theorem dX12_terms_0 : decode cX12_terms 0 = .ok (.iload_n 1, 1) := by decide +kernel
theorem dX12_terms_1 : decode cX12_terms 1 = .ok (.iconst 0, 1) := by decide +kernel
theorem dX12_terms_2 : decode cX12_terms 2 = .ok (.iconst 2, 1) := by decide +kernel
theorem dX12_terms_3 : decode cX12_terms 3 = .ok (.invokestatic 156, 3) := by decide +kernel
theorem dX12_terms_6 : decode cX12_terms 6 = .ok (.ifCond .eq 22, 3) := by decide +kernel
theorem dX12_terms_9 : decode cX12_terms 9 = .ok (.iload_n 2, 1) := by decide +kernel
theorem dX12_terms_10 : decode cX12_terms 10 = .ok (.iload_n 1, 1) := by decide +kernel
theorem dX12_terms_11 : decode cX12_terms 11 = .ok (.iconst 1, 1) := by decide +kernel
theorem dX12_terms_12 : decode cX12_terms 12 = .ok (.if_icmp .ne 7, 3) := by decide +kernel
theorem dX12_terms_15 : decode cX12_terms 15 = .ok (.iconst 1, 1) := by decide +kernel
theorem dX12_terms_16 : decode cX12_terms 16 = .ok (.goto 4, 3) := by decide +kernel
theorem dX12_terms_19 : decode cX12_terms 19 = .ok (.iconst 0, 1) := by decide +kernel
theorem dX12_terms_20 : decode cX12_terms 20 = .ok (.bipush 9, 2) := by decide +kernel
theorem dX12_terms_22 : decode cX12_terms 22 = .ok (.invokestatic 156, 3) := by decide +kernel
theorem dX12_terms_25 : decode cX12_terms 25 = .ok (.ifCond .ne 9, 3) := by decide +kernel
theorem dX12_terms_28 : decode cX12_terms 28 = .ok (.aload_n 0, 1) := by decide +kernel
theorem dX12_terms_29 : decode cX12_terms 29 = .ok (.iconst (-1), 1) := by decide +kernel
theorem dX12_terms_30 : decode cX12_terms 30 = .ok (.invokevirtual 160, 3) := by decide +kernel
theorem dX12_terms_33 : decode cX12_terms 33 = .ok (.ireturn, 1) := by decide +kernel
theorem dX12_terms_34 : decode cX12_terms 34 = .ok (.aload_n 0, 1) := by decide +kernel
theorem dX12_terms_35 : decode cX12_terms 35 = .ok (.sipush 242, 3) := by decide +kernel
theorem dX12_terms_38 : decode cX12_terms 38 = .ok (.iload_n 1, 1) := by decide +kernel
theorem dX12_terms_39 : decode cX12_terms 39 = .ok (.iadd, 1) := by decide +kernel
theorem dX12_terms_40 : decode cX12_terms 40 = .ok (.iload_n 2, 1) := by decide +kernel
theorem dX12_terms_41 : decode cX12_terms 41 = .ok (.invokevirtual 189, 3) := by decide +kernel
theorem dX12_terms_44 : decode cX12_terms 44 = .ok (.ireturn, 1) := by decide +kernel
set_option maxRecDepth 20000 in
theorem T_X12_terms {Q : Option Value → ah_T → Prop} {h : ah_T} (hs : Sh h) (x1 : Int32) (x2 : Int32) (ht : (((f_X12_lies x1 0 2) = 0 → (Mt mX12_refuses [.ref 82, .int (-1)] h (ab_qi fun v4 h2 => Sh h2 ∧ Q (some (.int v4)) h2))) ∧ (¬ (f_X12_lies x1 0 2) = 0 → ((¬ x1 = 1 → ((¬ (f_X12_lies x2 0 9) = 0 → (Mt mX12_replaces [.ref 82, .int (242 + x1), .int x2] h (ab_qi fun v9 h7 => Sh h7 ∧ Q (some (.int v9)) h7))) ∧ ((f_X12_lies x2 0 9) = 0 → (Mt mX12_refuses [.ref 82, .int (-1)] h (ab_qi fun v12 h10 => Sh h10 ∧ Q (some (.int v12)) h10))))) ∧ (x1 = 1 → ((¬ (f_X12_lies x2 1 9) = 0 → (Mt mX12_replaces [.ref 82, .int (242 + x1), .int x2] h (ab_qi fun v16 h14 => Sh h14 ∧ Q (some (.int v16)) h14))) ∧ ((f_X12_lies x2 1 9) = 0 → (Mt mX12_refuses [.ref 82, .int (-1)] h (ab_qi fun v19 h17 => Sh h17 ∧ Q (some (.int v19)) h17))))))))) : Mt mX12_terms [.ref 82, .int x1, .int x2] h Q := by
  refine Mt.ofWp rfl (by exact (Nat.le_of_ble_eq_true rfl)) (Wp.fewer (L' := [some (.ref 82), some (.int x1), some (.int x2)]) (show ab_leL _ _ from ⟨rfl, ⟨rfl, ⟨rfl, trivial⟩⟩⟩) ?_)
  refine ab_iload_n (i := 1) dX12_terms_0 rfl rfl ?_
  refine ab_iconst (v := 0) dX12_terms_1 (by decide) ?_
  refine ab_iconst (v := 2) dX12_terms_2 (by decide) ?_
  refine ab_callS (Q' := fun r h' => r = some (.int (f_X12_lies x1 0 2)) ∧ h = h') (As := [.int x1, .int 0, .int 2]) (c_X12_lies hs x1 0 2 ⟨rfl, rfl⟩) (Y_X12_lies) l_X12_156 st_X12_lies rfl ⟨(Nat.le_of_ble_eq_true rfl), (Nat.le_of_ble_eq_true rfl), (Nat.le_of_ble_eq_true rfl), (Nat.le_of_ble_eq_true rfl)⟩ dX12_terms_3 ?_
  rintro _ _ ⟨rfl, rfl⟩
  refine ab_if_eq (tgt := 28) dX12_terms_6 (by decide) (fun c1 => ?_) (fun c1 => ?_)
  · have ht := ht.1 c1
    refine ab_aload_n (i := 0) dX12_terms_28 rfl rfl ?_
    refine ab_iconst (v := (-1)) dX12_terms_29 (by decide) ?_
    refine ab_callV (b := 82) (As := [.int (-1)]) ht (Y_X12_refuses) l_X12_160 in_X12_refuses se_X12_refuses (sh_k hs 82 12 (by decide) rfl) (by decide) rfl rfl ⟨(Nat.le_of_ble_eq_true rfl), (Nat.le_of_ble_eq_true rfl), (Nat.le_of_ble_eq_true rfl), (Nat.le_of_ble_eq_true rfl)⟩ dX12_terms_30 ?_
    rintro _ h2 ⟨v4, rfl, hs3, ht⟩
    exact ab_iret rfl dX12_terms_33 (Nat.le_of_ble_eq_true rfl) (Nat.le_of_ble_eq_true rfl) ht
  · have ht := ht.2 c1
    refine ab_iload_n (i := 2) dX12_terms_9 rfl rfl ?_
    refine ab_iload_n (i := 1) dX12_terms_10 rfl rfl ?_
    refine ab_iconst (v := 1) dX12_terms_11 (by decide) ?_
    refine ab_icmp_ne (tgt := 19) dX12_terms_12 (by decide) (fun c5 => ?_) (fun c5 => ?_)
    · have ht := ht.1 c5
      refine ab_iconst (v := 0) dX12_terms_19 (by decide) ?_
      refine ab_bipush (v := 9) dX12_terms_20 (by decide) ?_
      refine ab_callS (Q' := fun r h' => r = some (.int (f_X12_lies x2 0 9)) ∧ h = h') (As := [.int x2, .int 0, .int 9]) (c_X12_lies hs x2 0 9 ⟨rfl, rfl⟩) (Y_X12_lies) l_X12_156 st_X12_lies rfl ⟨(Nat.le_of_ble_eq_true rfl), (Nat.le_of_ble_eq_true rfl), (Nat.le_of_ble_eq_true rfl), (Nat.le_of_ble_eq_true rfl)⟩ dX12_terms_22 ?_
      rintro _ _ ⟨rfl, rfl⟩
      refine ab_if_ne (tgt := 34) dX12_terms_25 (by decide) (fun c6 => ?_) (fun c6 => ?_)
      · have ht := ht.1 c6
        refine ab_aload_n (i := 0) dX12_terms_34 rfl rfl ?_
        refine ab_sipush (v := 242) dX12_terms_35 (by decide) ?_
        refine ab_iload_n (i := 1) dX12_terms_38 rfl rfl ?_
        refine ab_iadd dX12_terms_39 ?_
        refine ab_iload_n (i := 2) dX12_terms_40 rfl rfl ?_
        refine ab_callV (b := 82) (As := [.int (242 + x1), .int x2]) ht (Y_X12_replaces) l_X12_189 in_X12_replaces se_X12_replaces (sh_k hs 82 12 (by decide) rfl) (by decide) rfl rfl ⟨(Nat.le_of_ble_eq_true rfl), (Nat.le_of_ble_eq_true rfl), (Nat.le_of_ble_eq_true rfl), (Nat.le_of_ble_eq_true rfl)⟩ dX12_terms_41 ?_
        rintro _ h7 ⟨v9, rfl, hs8, ht⟩
        exact ab_iret rfl dX12_terms_44 (Nat.le_of_ble_eq_true rfl) (Nat.le_of_ble_eq_true rfl) ht
      · have ht := ht.2 c6
        refine ab_aload_n (i := 0) dX12_terms_28 rfl rfl ?_
        refine ab_iconst (v := (-1)) dX12_terms_29 (by decide) ?_
        refine ab_callV (b := 82) (As := [.int (-1)]) ht (Y_X12_refuses) l_X12_160 in_X12_refuses se_X12_refuses (sh_k hs 82 12 (by decide) rfl) (by decide) rfl rfl ⟨(Nat.le_of_ble_eq_true rfl), (Nat.le_of_ble_eq_true rfl), (Nat.le_of_ble_eq_true rfl), (Nat.le_of_ble_eq_true rfl)⟩ dX12_terms_30 ?_
        rintro _ h10 ⟨v12, rfl, hs11, ht⟩
        exact ab_iret rfl dX12_terms_33 (Nat.le_of_ble_eq_true rfl) (Nat.le_of_ble_eq_true rfl) ht
    · have ht := ht.2 c5
      refine ab_iconst (v := 1) dX12_terms_15 (by decide) ?_
      refine ab_goto (tgt := 20) dX12_terms_16 (by decide) ?_
      refine ab_bipush (v := 9) dX12_terms_20 (by decide) ?_
      refine ab_callS (Q' := fun r h' => r = some (.int (f_X12_lies x2 1 9)) ∧ h = h') (As := [.int x2, .int 1, .int 9]) (c_X12_lies hs x2 1 9 ⟨rfl, rfl⟩) (Y_X12_lies) l_X12_156 st_X12_lies rfl ⟨(Nat.le_of_ble_eq_true rfl), (Nat.le_of_ble_eq_true rfl), (Nat.le_of_ble_eq_true rfl), (Nat.le_of_ble_eq_true rfl)⟩ dX12_terms_22 ?_
      rintro _ _ ⟨rfl, rfl⟩
      refine ab_if_ne (tgt := 34) dX12_terms_25 (by decide) (fun c13 => ?_) (fun c13 => ?_)
      · have ht := ht.1 c13
        refine ab_aload_n (i := 0) dX12_terms_34 rfl rfl ?_
        refine ab_sipush (v := 242) dX12_terms_35 (by decide) ?_
        refine ab_iload_n (i := 1) dX12_terms_38 rfl rfl ?_
        refine ab_iadd dX12_terms_39 ?_
        refine ab_iload_n (i := 2) dX12_terms_40 rfl rfl ?_
        refine ab_callV (b := 82) (As := [.int (242 + x1), .int x2]) ht (Y_X12_replaces) l_X12_189 in_X12_replaces se_X12_replaces (sh_k hs 82 12 (by decide) rfl) (by decide) rfl rfl ⟨(Nat.le_of_ble_eq_true rfl), (Nat.le_of_ble_eq_true rfl), (Nat.le_of_ble_eq_true rfl), (Nat.le_of_ble_eq_true rfl)⟩ dX12_terms_41 ?_
        rintro _ h14 ⟨v16, rfl, hs15, ht⟩
        exact ab_iret rfl dX12_terms_44 (Nat.le_of_ble_eq_true rfl) (Nat.le_of_ble_eq_true rfl) ht
      · have ht := ht.2 c13
        refine ab_aload_n (i := 0) dX12_terms_28 rfl rfl ?_
        refine ab_iconst (v := (-1)) dX12_terms_29 (by decide) ?_
        refine ab_callV (b := 82) (As := [.int (-1)]) ht (Y_X12_refuses) l_X12_160 in_X12_refuses se_X12_refuses (sh_k hs 82 12 (by decide) rfl) (by decide) rfl rfl ⟨(Nat.le_of_ble_eq_true rfl), (Nat.le_of_ble_eq_true rfl), (Nat.le_of_ble_eq_true rfl), (Nat.le_of_ble_eq_true rfl)⟩ dX12_terms_30 ?_
        rintro _ h17 ⟨v19, rfl, hs18, ht⟩
        exact ab_iret rfl dX12_terms_33 (Nat.le_of_ble_eq_true rfl) (Nat.le_of_ble_eq_true rfl) ht
theorem dX12_row_0 : decode cX12_row 0 = .ok (.aload_n 0, 1) := by decide +kernel
theorem dX12_row_1 : decode cX12_row 1 = .ok (.getfield 214, 3) := by decide +kernel
theorem dX12_row_4 : decode cX12_row 4 = .ok (.istore_n 1, 1) := by decide +kernel
theorem dX12_row_5 : decode cX12_row 5 = .ok (.aload_n 0, 1) := by decide +kernel
theorem dX12_row_6 : decode cX12_row 6 = .ok (.iconst 0, 1) := by decide +kernel
theorem dX12_row_7 : decode cX12_row 7 = .ok (.putfield 214, 3) := by decide +kernel
theorem dX12_row_10 : decode cX12_row 10 = .ok (.iload_n 1, 1) := by decide +kernel
theorem dX12_row_11 : decode cX12_row 11 = .ok (.ifCond .ne 10, 3) := by decide +kernel
theorem dX12_row_14 : decode cX12_row 14 = .ok (.aload_n 0, 1) := by decide +kernel
theorem dX12_row_15 : decode cX12_row 15 = .ok (.bipush (-6), 2) := by decide +kernel
theorem dX12_row_17 : decode cX12_row 17 = .ok (.invokevirtual 160, 3) := by decide +kernel
theorem dX12_row_20 : decode cX12_row 20 = .ok (.ireturn, 1) := by decide +kernel
theorem dX12_row_21 : decode cX12_row 21 = .ok (.iconst 0, 1) := by decide +kernel
theorem dX12_row_22 : decode cX12_row 22 = .ok (.istore_n 2, 1) := by decide +kernel
theorem dX12_row_23 : decode cX12_row 23 = .ok (.aload_n 0, 1) := by decide +kernel
theorem dX12_row_24 : decode cX12_row 24 = .ok (.iload_n 1, 1) := by decide +kernel
theorem dX12_row_25 : decode cX12_row 25 = .ok (.iconst 3, 1) := by decide +kernel
theorem dX12_row_26 : decode cX12_row 26 = .ok (.irem, 1) := by decide +kernel
theorem dX12_row_27 : decode cX12_row 27 = .ok (.ifCond .ne 7, 3) := by decide +kernel
theorem dX12_row_30 : decode cX12_row 30 = .ok (.iconst 0, 1) := by decide +kernel
theorem dX12_row_31 : decode cX12_row 31 = .ok (.goto 4, 3) := by decide +kernel
theorem dX12_row_34 : decode cX12_row 34 = .ok (.iconst 1, 1) := by decide +kernel
theorem dX12_row_35 : decode cX12_row 35 = .ok (.putfield 217, 3) := by decide +kernel
theorem dX12_row_38 : decode cX12_row 38 = .ok (.iconst 0, 1) := by decide +kernel
theorem dX12_row_39 : decode cX12_row 39 = .ok (.istore_n 3, 1) := by decide +kernel
theorem dX12_row_40 : decode cX12_row 40 = .ok (.iload_n 3, 1) := by decide +kernel
theorem dX12_row_41 : decode cX12_row 41 = .ok (.iconst 3, 1) := by decide +kernel
theorem dX12_row_42 : decode cX12_row 42 = .ok (.iadd, 1) := by decide +kernel
theorem dX12_row_43 : decode cX12_row 43 = .ok (.iload_n 1, 1) := by decide +kernel
theorem dX12_row_44 : decode cX12_row 44 = .ok (.if_icmp .gt 77, 3) := by decide +kernel
theorem dX12_row_47 : decode cX12_row 47 = .ok (.aload_n 0, 1) := by decide +kernel
theorem dX12_row_48 : decode cX12_row 48 = .ok (.aload_n 0, 1) := by decide +kernel
theorem dX12_row_49 : decode cX12_row 49 = .ok (.getfield 34, 3) := by decide +kernel
theorem dX12_row_52 : decode cX12_row 52 = .ok (.iload_n 3, 1) := by decide +kernel
theorem dX12_row_53 : decode cX12_row 53 = .ok (.baload, 1) := by decide +kernel
theorem dX12_row_54 : decode cX12_row 54 = .ok (.aload_n 0, 1) := by decide +kernel
theorem dX12_row_55 : decode cX12_row 55 = .ok (.getfield 34, 3) := by decide +kernel
theorem dX12_row_58 : decode cX12_row 58 = .ok (.iload_n 3, 1) := by decide +kernel
theorem dX12_row_59 : decode cX12_row 59 = .ok (.iconst 1, 1) := by decide +kernel
theorem dX12_row_60 : decode cX12_row 60 = .ok (.iadd, 1) := by decide +kernel
theorem dX12_row_61 : decode cX12_row 61 = .ok (.baload, 1) := by decide +kernel
theorem dX12_row_62 : decode cX12_row 62 = .ok (.aload_n 0, 1) := by decide +kernel
theorem dX12_row_63 : decode cX12_row 63 = .ok (.getfield 34, 3) := by decide +kernel
theorem dX12_row_66 : decode cX12_row 66 = .ok (.iload_n 3, 1) := by decide +kernel
theorem dX12_row_67 : decode cX12_row 67 = .ok (.iconst 2, 1) := by decide +kernel
theorem dX12_row_68 : decode cX12_row 68 = .ok (.iadd, 1) := by decide +kernel
theorem dX12_row_69 : decode cX12_row 69 = .ok (.baload, 1) := by decide +kernel
theorem dX12_row_70 : decode cX12_row 70 = .ok (.invokevirtual 204, 3) := by decide +kernel
theorem dX12_row_73 : decode cX12_row 73 = .ok (.ifCond .ne 7, 3) := by decide +kernel
theorem dX12_row_76 : decode cX12_row 76 = .ok (.iconst 1, 1) := by decide +kernel
theorem dX12_row_77 : decode cX12_row 77 = .ok (.goto 4, 3) := by decide +kernel
theorem dX12_row_80 : decode cX12_row 80 = .ok (.iconst 0, 1) := by decide +kernel
theorem dX12_row_81 : decode cX12_row 81 = .ok (.istore 4, 2) := by decide +kernel
theorem dX12_row_83 : decode cX12_row 83 = .ok (.iload_n 2, 1) := by decide +kernel
theorem dX12_row_84 : decode cX12_row 84 = .ok (.iload 4, 2) := by decide +kernel
theorem dX12_row_86 : decode cX12_row 86 = .ok (.ifCond .eq 7, 3) := by decide +kernel
theorem dX12_row_89 : decode cX12_row 89 = .ok (.iconst 1, 1) := by decide +kernel
theorem dX12_row_90 : decode cX12_row 90 = .ok (.goto 4, 3) := by decide +kernel
theorem dX12_row_93 : decode cX12_row 93 = .ok (.iconst 0, 1) := by decide +kernel
theorem dX12_row_94 : decode cX12_row 94 = .ok (.iadd, 1) := by decide +kernel
theorem dX12_row_95 : decode cX12_row 95 = .ok (.istore_n 2, 1) := by decide +kernel
theorem dX12_row_96 : decode cX12_row 96 = .ok (.aload_n 0, 1) := by decide +kernel
theorem dX12_row_97 : decode cX12_row 97 = .ok (.dup, 1) := by decide +kernel
theorem dX12_row_98 : decode cX12_row 98 = .ok (.getfield 217, 3) := by decide +kernel
theorem dX12_row_101 : decode cX12_row 101 = .ok (.iload 4, 2) := by decide +kernel
theorem dX12_row_103 : decode cX12_row 103 = .ok (.ifCond .eq 7, 3) := by decide +kernel
theorem dX12_row_106 : decode cX12_row 106 = .ok (.iconst 0, 1) := by decide +kernel
theorem dX12_row_107 : decode cX12_row 107 = .ok (.goto 4, 3) := by decide +kernel
theorem dX12_row_110 : decode cX12_row 110 = .ok (.iconst 1, 1) := by decide +kernel
theorem dX12_row_111 : decode cX12_row 111 = .ok (.iadd, 1) := by decide +kernel
theorem dX12_row_112 : decode cX12_row 112 = .ok (.putfield 217, 3) := by decide +kernel
theorem dX12_row_115 : decode cX12_row 115 = .ok (.iinc 3 3, 3) := by decide +kernel
theorem dX12_row_118 : decode cX12_row 118 = .ok (.goto (-78), 3) := by decide +kernel
theorem dX12_row_121 : decode cX12_row 121 = .ok (.aload_n 0, 1) := by decide +kernel
theorem dX12_row_122 : decode cX12_row 122 = .ok (.iload_n 2, 1) := by decide +kernel
theorem dX12_row_123 : decode cX12_row 123 = .ok (.invokevirtual 164, 3) := by decide +kernel
theorem dX12_row_126 : decode cX12_row 126 = .ok (.ireturn, 1) := by decide +kernel
set_option maxRecDepth 20000 in
theorem T_X12_row_40 {Q : Option Value → ah_T → Prop} {h : ah_T} (hs : Sh h) (x1 : Int32) (x2 : Int32) (x3 : Int32) (ht : ((x1 < (x3 + 3) → (Mt mX12_good [.ref 82, .int x2] h (ab_qi fun v18 h16 => Sh h16 ∧ Q (some (.int v18)) h16))) ∧ (¬ x1 < (x3 + 3) → (vp_in x3 (ah_n h 88)) ∧ (vp_in (x3 + 1) (ah_n h 88)) ∧ (vp_in (x3 + 2) (ah_n h 88)) ∧ (Mt mX12_tellsSwitch [.ref 82, .int (ah_i h 88 (Int32.toNatClampNeg x3)), .int (ah_i h 88 (Int32.toNatClampNeg (x3 + 1))), .int (ah_i h 88 (Int32.toNatClampNeg (x3 + 2)))] h (ab_qi fun v24 h22 => Sh h22 ∧ ((¬ v24 = 0 → (∀ h26, h26 = ah_si h22 82 6 ((ah_i h22 82 6) + 1) → Wp mX12_row Q 0 0 40 [some (.ref 82), some (.int x1), some (.int (x2 + 0)), some (.int (x3 + 3)), none] [] h26)) ∧ (v24 = 0 → (∀ h29, h29 = ah_si h22 82 6 ((ah_i h22 82 6) + 0) → Wp mX12_row Q 0 0 40 [some (.ref 82), some (.int x1), some (.int (x2 + 1)), some (.int (x3 + 3)), none] [] h29)))))))) : Wp mX12_row Q 0 0 40 [some (.ref 82), some (.int x1), some (.int x2), some (.int x3), none] [] h := by
  refine ab_iload_n (i := 3) dX12_row_40 rfl rfl ?_
  refine ab_iconst (v := 3) dX12_row_41 (by decide) ?_
  refine ab_iadd dX12_row_42 ?_
  refine ab_iload_n (i := 1) dX12_row_43 rfl rfl ?_
  refine ab_icmp_gt (tgt := 121) dX12_row_44 (by decide) (fun c15 => ?_) (fun c15 => ?_)
  · have ht := ht.1 c15
    refine ab_aload_n (i := 0) dX12_row_121 rfl rfl ?_
    refine ab_iload_n (i := 2) dX12_row_122 rfl rfl ?_
    refine ab_callV (b := 82) (As := [.int x2]) ht (Y_X12_good) l_X12_164 in_X12_good se_X12_good (sh_k hs 82 12 (by decide) rfl) (by decide) rfl rfl ⟨(Nat.le_of_ble_eq_true rfl), (Nat.le_of_ble_eq_true rfl), (Nat.le_of_ble_eq_true rfl), (Nat.le_of_ble_eq_true rfl)⟩ dX12_row_123 ?_
    rintro _ h16 ⟨v18, rfl, hs17, ht⟩
    exact ab_iret rfl dX12_row_126 (Nat.le_of_ble_eq_true rfl) (Nat.le_of_ble_eq_true rfl) ht
  · have ht := ht.2 c15
    refine ab_aload_n (i := 0) dX12_row_47 rfl rfl ?_
    refine ab_aload_n (i := 0) dX12_row_48 rfl rfl ?_
    refine ab_getR (b := 88) f_X12_34 rfl (sh_k hs 82 12 (by decide) rfl) (sh_r hs 104 rfl) dX12_row_49 ?_
    refine ab_iload_n (i := 3) dX12_row_52 rfl rfl ?_
    obtain ⟨hc19, ht⟩ := ht
    refine ab_bald (sh_k hs 88 13 (by decide) rfl) hc19 dX12_row_53 ?_
    refine ab_aload_n (i := 0) dX12_row_54 rfl rfl ?_
    refine ab_getR (b := 88) f_X12_34 rfl (sh_k hs 82 12 (by decide) rfl) (sh_r hs 104 rfl) dX12_row_55 ?_
    refine ab_iload_n (i := 3) dX12_row_58 rfl rfl ?_
    refine ab_iconst (v := 1) dX12_row_59 (by decide) ?_
    refine ab_iadd dX12_row_60 ?_
    obtain ⟨hc20, ht⟩ := ht
    refine ab_bald (sh_k hs 88 13 (by decide) rfl) hc20 dX12_row_61 ?_
    refine ab_aload_n (i := 0) dX12_row_62 rfl rfl ?_
    refine ab_getR (b := 88) f_X12_34 rfl (sh_k hs 82 12 (by decide) rfl) (sh_r hs 104 rfl) dX12_row_63 ?_
    refine ab_iload_n (i := 3) dX12_row_66 rfl rfl ?_
    refine ab_iconst (v := 2) dX12_row_67 (by decide) ?_
    refine ab_iadd dX12_row_68 ?_
    obtain ⟨hc21, ht⟩ := ht
    refine ab_bald (sh_k hs 88 13 (by decide) rfl) hc21 dX12_row_69 ?_
    refine ab_callV (b := 82) (As := [.int (ah_i h 88 (Int32.toNatClampNeg x3)), .int (ah_i h 88 (Int32.toNatClampNeg (x3 + 1))), .int (ah_i h 88 (Int32.toNatClampNeg (x3 + 2)))]) ht (Y_X12_tellsSwitch) l_X12_204 in_X12_tellsSwitch se_X12_tellsSwitch (sh_k hs 82 12 (by decide) rfl) (by decide) rfl rfl ⟨(Nat.le_of_ble_eq_true rfl), (Nat.le_of_ble_eq_true rfl), (Nat.le_of_ble_eq_true rfl), (Nat.le_of_ble_eq_true rfl)⟩ dX12_row_70 ?_
    rintro _ h22 ⟨v24, rfl, hs23, ht⟩
    refine ab_if_ne (tgt := 80) dX12_row_73 (by decide) (fun c25 => ?_) (fun c25 => ?_)
    · have ht := ht.1 c25
      refine ab_iconst (v := 0) dX12_row_80 (by decide) ?_
      refine ab_istore (i := 4) (L' := [some (.ref 82), some (.int x1), some (.int x2), some (.int x3), some (.int 0)]) dX12_row_81 (by exact (Nat.le_of_ble_eq_true rfl)) rfl rfl ?_
      refine ab_iload_n (i := 2) dX12_row_83 rfl rfl ?_
      refine ab_iload (i := 4) dX12_row_84 rfl ?_
      refine ab_if_eq (tgt := 93) dX12_row_86 (by decide) (fun _ => ?_) (fun q => absurd (by decide) q)
      refine ab_iconst (v := 0) dX12_row_93 (by decide) ?_
      refine ab_iadd dX12_row_94 ?_
      refine ab_istore_n (i := 2) (L' := [some (.ref 82), some (.int x1), some (.int (x2 + 0)), some (.int x3), some (.int 0)]) dX12_row_95 rfl (by exact (Nat.le_of_ble_eq_true rfl)) rfl rfl ?_
      refine ab_aload_n (i := 0) dX12_row_96 rfl rfl ?_
      refine ab_dup dX12_row_97 rfl ?_
      refine ab_getI f_X12_217 rfl (sh_k hs23 82 12 (by decide) rfl) dX12_row_98 ?_
      refine ab_iload (i := 4) dX12_row_101 rfl ?_
      refine ab_if_eq (tgt := 110) dX12_row_103 (by decide) (fun _ => ?_) (fun q => absurd (by decide) q)
      refine ab_iconst (v := 1) dX12_row_110 (by decide) ?_
      refine ab_iadd dX12_row_111 ?_
      refine ab_putI f_X12_217 (Or.inl rfl) rfl (sh_k hs23 82 12 (by decide) rfl) rfl rfl dX12_row_112 ?_
      refine Wp.nm fun h26 e27 => ?_
      have ht := ht h26 e27
      have hs28 : Sh h26 := by rw [e27]; exact sh_si hs23
      refine ab_iinc (i := 3) (x := x3) (v := (x3 + 3)) (L' := [some (.ref 82), some (.int x1), some (.int (x2 + 0)), some (.int (x3 + 3)), some (.int 0)]) dX12_row_115 rfl rfl (by exact (Nat.le_of_ble_eq_true rfl)) rfl rfl ?_
      refine ab_goto (tgt := 40) dX12_row_118 (by decide) ?_
      exact Wp.fewer (L' := [some (.ref 82), some (.int x1), some (.int (x2 + 0)), some (.int (x3 + 3)), none]) (show ab_leL _ _ from ⟨rfl, ⟨rfl, ⟨rfl, ⟨rfl, trivial⟩⟩⟩⟩) ht
    · have ht := ht.2 c25
      refine ab_iconst (v := 1) dX12_row_76 (by decide) ?_
      refine ab_goto (tgt := 81) dX12_row_77 (by decide) ?_
      refine ab_istore (i := 4) (L' := [some (.ref 82), some (.int x1), some (.int x2), some (.int x3), some (.int 1)]) dX12_row_81 (by exact (Nat.le_of_ble_eq_true rfl)) rfl rfl ?_
      refine ab_iload_n (i := 2) dX12_row_83 rfl rfl ?_
      refine ab_iload (i := 4) dX12_row_84 rfl ?_
      refine ab_if_eq (tgt := 93) dX12_row_86 (by decide) (fun q => absurd q (by decide)) (fun _ => ?_)
      refine ab_iconst (v := 1) dX12_row_89 (by decide) ?_
      refine ab_goto (tgt := 94) dX12_row_90 (by decide) ?_
      refine ab_iadd dX12_row_94 ?_
      refine ab_istore_n (i := 2) (L' := [some (.ref 82), some (.int x1), some (.int (x2 + 1)), some (.int x3), some (.int 1)]) dX12_row_95 rfl (by exact (Nat.le_of_ble_eq_true rfl)) rfl rfl ?_
      refine ab_aload_n (i := 0) dX12_row_96 rfl rfl ?_
      refine ab_dup dX12_row_97 rfl ?_
      refine ab_getI f_X12_217 rfl (sh_k hs23 82 12 (by decide) rfl) dX12_row_98 ?_
      refine ab_iload (i := 4) dX12_row_101 rfl ?_
      refine ab_if_eq (tgt := 110) dX12_row_103 (by decide) (fun q => absurd q (by decide)) (fun _ => ?_)
      refine ab_iconst (v := 0) dX12_row_106 (by decide) ?_
      refine ab_goto (tgt := 111) dX12_row_107 (by decide) ?_
      refine ab_iadd dX12_row_111 ?_
      refine ab_putI f_X12_217 (Or.inl rfl) rfl (sh_k hs23 82 12 (by decide) rfl) rfl rfl dX12_row_112 ?_
      refine Wp.nm fun h29 e30 => ?_
      have ht := ht h29 e30
      have hs31 : Sh h29 := by rw [e30]; exact sh_si hs23
      refine ab_iinc (i := 3) (x := x3) (v := (x3 + 3)) (L' := [some (.ref 82), some (.int x1), some (.int (x2 + 1)), some (.int (x3 + 3)), some (.int 1)]) dX12_row_115 rfl rfl (by exact (Nat.le_of_ble_eq_true rfl)) rfl rfl ?_
      refine ab_goto (tgt := 40) dX12_row_118 (by decide) ?_
      exact Wp.fewer (L' := [some (.ref 82), some (.int x1), some (.int (x2 + 1)), some (.int (x3 + 3)), none]) (show ab_leL _ _ from ⟨rfl, ⟨rfl, ⟨rfl, ⟨rfl, trivial⟩⟩⟩⟩) ht
set_option maxRecDepth 20000 in
theorem T_X12_row {Q : Option Value → ah_T → Prop} {h : ah_T} (hs : Sh h)  (ht : (∀ h1, h1 = ah_si h 82 11 0 → ((¬ (ah_i h 82 11) = 0 → ((¬ ((ah_i h 82 11) - (ah_i h 82 11) / 3 * 3) = 0 → (∀ h6, h6 = ah_si h1 82 6 1 → Wp mX12_row Q 0 0 40 [some (.ref 82), some (.int (ah_i h 82 11)), some (.int 0), some (.int 0), none] [] h6)) ∧ (((ah_i h 82 11) - (ah_i h 82 11) / 3 * 3) = 0 → (∀ h9, h9 = ah_si h1 82 6 0 → Wp mX12_row Q 0 0 40 [some (.ref 82), some (.int (ah_i h 82 11)), some (.int 0), some (.int 0), none] [] h9)))) ∧ ((ah_i h 82 11) = 0 → (Mt mX12_refuses [.ref 82, .int (-6)] h1 (ab_qi fun v14 h12 => Sh h12 ∧ Q (some (.int v14)) h12)))))) : Mt mX12_row [.ref 82] h Q := by
  refine Mt.ofWp rfl (by exact (Nat.le_of_ble_eq_true rfl)) (Wp.fewer (L' := [some (.ref 82), none, none, none, none]) (show ab_leL _ _ from ⟨rfl, trivial⟩) ?_)
  refine ab_aload_n (i := 0) dX12_row_0 rfl rfl ?_
  refine ab_getI f_X12_214 rfl (sh_k hs 82 12 (by decide) rfl) dX12_row_1 ?_
  refine ab_istore_n (i := 1) (L' := [some (.ref 82), some (.int (ah_i h 82 11)), none, none, none]) dX12_row_4 rfl (by exact (Nat.le_of_ble_eq_true rfl)) rfl rfl ?_
  refine ab_aload_n (i := 0) dX12_row_5 rfl rfl ?_
  refine ab_iconst (v := 0) dX12_row_6 (by decide) ?_
  refine ab_putI f_X12_214 (Or.inl rfl) rfl (sh_k hs 82 12 (by decide) rfl) rfl rfl dX12_row_7 ?_
  refine Wp.nm fun h1 e2 => ?_
  have ht := ht h1 e2
  have hs3 : Sh h1 := by rw [e2]; exact sh_si hs
  refine ab_iload_n (i := 1) dX12_row_10 rfl rfl ?_
  refine ab_if_ne (tgt := 21) dX12_row_11 (by decide) (fun c4 => ?_) (fun c4 => ?_)
  · have ht := ht.1 c4
    refine ab_iconst (v := 0) dX12_row_21 (by decide) ?_
    refine ab_istore_n (i := 2) (L' := [some (.ref 82), some (.int (ah_i h 82 11)), some (.int 0), none, none]) dX12_row_22 rfl (by exact (Nat.le_of_ble_eq_true rfl)) rfl rfl ?_
    refine ab_aload_n (i := 0) dX12_row_23 rfl rfl ?_
    refine ab_iload_n (i := 1) dX12_row_24 rfl rfl ?_
    refine ab_iconst (v := 3) dX12_row_25 (by decide) ?_
    refine ab_irem dX12_row_26 (by decide) ?_
    refine ab_if_ne (tgt := 34) dX12_row_27 (by decide) (fun c5 => ?_) (fun c5 => ?_)
    · have ht := ht.1 c5
      refine ab_iconst (v := 1) dX12_row_34 (by decide) ?_
      refine ab_putI f_X12_217 (Or.inl rfl) rfl (sh_k hs3 82 12 (by decide) rfl) rfl rfl dX12_row_35 ?_
      refine Wp.nm fun h6 e7 => ?_
      have ht := ht h6 e7
      have hs8 : Sh h6 := by rw [e7]; exact sh_si hs3
      refine ab_iconst (v := 0) dX12_row_38 (by decide) ?_
      refine ab_istore_n (i := 3) (L' := [some (.ref 82), some (.int (ah_i h 82 11)), some (.int 0), some (.int 0), none]) dX12_row_39 rfl (by exact (Nat.le_of_ble_eq_true rfl)) rfl rfl ?_
      exact Wp.fewer (L' := [some (.ref 82), some (.int (ah_i h 82 11)), some (.int 0), some (.int 0), none]) (show ab_leL _ _ from ⟨rfl, ⟨rfl, ⟨rfl, ⟨rfl, trivial⟩⟩⟩⟩) ht
    · have ht := ht.2 c5
      refine ab_iconst (v := 0) dX12_row_30 (by decide) ?_
      refine ab_goto (tgt := 35) dX12_row_31 (by decide) ?_
      refine ab_putI f_X12_217 (Or.inl rfl) rfl (sh_k hs3 82 12 (by decide) rfl) rfl rfl dX12_row_35 ?_
      refine Wp.nm fun h9 e10 => ?_
      have ht := ht h9 e10
      have hs11 : Sh h9 := by rw [e10]; exact sh_si hs3
      refine ab_iconst (v := 0) dX12_row_38 (by decide) ?_
      refine ab_istore_n (i := 3) (L' := [some (.ref 82), some (.int (ah_i h 82 11)), some (.int 0), some (.int 0), none]) dX12_row_39 rfl (by exact (Nat.le_of_ble_eq_true rfl)) rfl rfl ?_
      exact Wp.fewer (L' := [some (.ref 82), some (.int (ah_i h 82 11)), some (.int 0), some (.int 0), none]) (show ab_leL _ _ from ⟨rfl, ⟨rfl, ⟨rfl, ⟨rfl, trivial⟩⟩⟩⟩) ht
  · have ht := ht.2 c4
    refine ab_aload_n (i := 0) dX12_row_14 rfl rfl ?_
    refine ab_bipush (v := (-6)) dX12_row_15 (by decide) ?_
    refine ab_callV (b := 82) (As := [.int (-6)]) ht (Y_X12_refuses) l_X12_160 in_X12_refuses se_X12_refuses (sh_k hs3 82 12 (by decide) rfl) (by decide) rfl rfl ⟨(Nat.le_of_ble_eq_true rfl), (Nat.le_of_ble_eq_true rfl), (Nat.le_of_ble_eq_true rfl), (Nat.le_of_ble_eq_true rfl)⟩ dX12_row_17 ?_
    rintro _ h12 ⟨v14, rfl, hs13, ht⟩
    exact ab_iret rfl dX12_row_20 (Nat.le_of_ble_eq_true rfl) (Nat.le_of_ble_eq_true rfl) ht
theorem dX12_feed_0 : decode cX12_feed 0 = .ok (.aload_n 0, 1) := by decide +kernel
theorem dX12_feed_1 : decode cX12_feed 1 = .ok (.getfield 214, 3) := by decide +kernel
theorem dX12_feed_4 : decode cX12_feed 4 = .ok (.bipush 20, 2) := by decide +kernel
theorem dX12_feed_6 : decode cX12_feed 6 = .ok (.iadd, 1) := by decide +kernel
theorem dX12_feed_7 : decode cX12_feed 7 = .ok (.sipush 400, 3) := by decide +kernel
theorem dX12_feed_10 : decode cX12_feed 10 = .ok (.if_icmp .le 5, 3) := by decide +kernel
theorem dX12_feed_13 : decode cX12_feed 13 = .ok (.iconst (-1), 1) := by decide +kernel
theorem dX12_feed_14 : decode cX12_feed 14 = .ok (.ireturn, 1) := by decide +kernel
theorem dX12_feed_15 : decode cX12_feed 15 = .ok (.aload_n 0, 1) := by decide +kernel
theorem dX12_feed_16 : decode cX12_feed 16 = .ok (.getfield 37, 3) := by decide +kernel
theorem dX12_feed_19 : decode cX12_feed 19 = .ok (.iconst 0, 1) := by decide +kernel
theorem dX12_feed_20 : decode cX12_feed 20 = .ok (.iload_n 1, 1) := by decide +kernel
theorem dX12_feed_21 : decode cX12_feed 21 = .ok (.iastore, 1) := by decide +kernel
theorem dX12_feed_22 : decode cX12_feed 22 = .ok (.aload_n 0, 1) := by decide +kernel
theorem dX12_feed_23 : decode cX12_feed 23 = .ok (.getfield 37, 3) := by decide +kernel
theorem dX12_feed_26 : decode cX12_feed 26 = .ok (.iconst 1, 1) := by decide +kernel
theorem dX12_feed_27 : decode cX12_feed 27 = .ok (.iload_n 2, 1) := by decide +kernel
theorem dX12_feed_28 : decode cX12_feed 28 = .ok (.iastore, 1) := by decide +kernel
theorem dX12_feed_29 : decode cX12_feed 29 = .ok (.aload_n 0, 1) := by decide +kernel
theorem dX12_feed_30 : decode cX12_feed 30 = .ok (.getfield 37, 3) := by decide +kernel
theorem dX12_feed_33 : decode cX12_feed 33 = .ok (.iconst 2, 1) := by decide +kernel
theorem dX12_feed_34 : decode cX12_feed 34 = .ok (.iload_n 3, 1) := by decide +kernel
theorem dX12_feed_35 : decode cX12_feed 35 = .ok (.iastore, 1) := by decide +kernel
theorem dX12_feed_36 : decode cX12_feed 36 = .ok (.aload_n 0, 1) := by decide +kernel
theorem dX12_feed_37 : decode cX12_feed 37 = .ok (.getfield 37, 3) := by decide +kernel
theorem dX12_feed_40 : decode cX12_feed 40 = .ok (.iconst 3, 1) := by decide +kernel
theorem dX12_feed_41 : decode cX12_feed 41 = .ok (.iload 4, 2) := by decide +kernel
theorem dX12_feed_43 : decode cX12_feed 43 = .ok (.iastore, 1) := by decide +kernel
theorem dX12_feed_44 : decode cX12_feed 44 = .ok (.aload_n 0, 1) := by decide +kernel
theorem dX12_feed_45 : decode cX12_feed 45 = .ok (.getfield 37, 3) := by decide +kernel
theorem dX12_feed_48 : decode cX12_feed 48 = .ok (.iconst 4, 1) := by decide +kernel
theorem dX12_feed_49 : decode cX12_feed 49 = .ok (.iload 5, 2) := by decide +kernel
theorem dX12_feed_51 : decode cX12_feed 51 = .ok (.iastore, 1) := by decide +kernel
theorem dX12_feed_52 : decode cX12_feed 52 = .ok (.iconst 0, 1) := by decide +kernel
theorem dX12_feed_53 : decode cX12_feed 53 = .ok (.istore 6, 2) := by decide +kernel
theorem dX12_feed_55 : decode cX12_feed 55 = .ok (.iload 6, 2) := by decide +kernel
theorem dX12_feed_57 : decode cX12_feed 57 = .ok (.bipush 20, 2) := by decide +kernel
theorem dX12_feed_59 : decode cX12_feed 59 = .ok (.if_icmp .ge 42, 3) := by decide +kernel
theorem dX12_feed_62 : decode cX12_feed 62 = .ok (.aload_n 0, 1) := by decide +kernel
theorem dX12_feed_63 : decode cX12_feed 63 = .ok (.getfield 34, 3) := by decide +kernel
theorem dX12_feed_66 : decode cX12_feed 66 = .ok (.aload_n 0, 1) := by decide +kernel
theorem dX12_feed_67 : decode cX12_feed 67 = .ok (.getfield 214, 3) := by decide +kernel
theorem dX12_feed_70 : decode cX12_feed 70 = .ok (.iload 6, 2) := by decide +kernel
theorem dX12_feed_72 : decode cX12_feed 72 = .ok (.iadd, 1) := by decide +kernel
theorem dX12_feed_73 : decode cX12_feed 73 = .ok (.aload_n 0, 1) := by decide +kernel
theorem dX12_feed_74 : decode cX12_feed 74 = .ok (.getfield 37, 3) := by decide +kernel
theorem dX12_feed_77 : decode cX12_feed 77 = .ok (.iload 6, 2) := by decide +kernel
theorem dX12_feed_79 : decode cX12_feed 79 = .ok (.iconst 4, 1) := by decide +kernel
theorem dX12_feed_80 : decode cX12_feed 80 = .ok (.idiv, 1) := by decide +kernel
theorem dX12_feed_81 : decode cX12_feed 81 = .ok (.iaload, 1) := by decide +kernel
theorem dX12_feed_82 : decode cX12_feed 82 = .ok (.bipush 24, 2) := by decide +kernel
theorem dX12_feed_84 : decode cX12_feed 84 = .ok (.bipush 8, 2) := by decide +kernel
theorem dX12_feed_86 : decode cX12_feed 86 = .ok (.iload 6, 2) := by decide +kernel
theorem dX12_feed_88 : decode cX12_feed 88 = .ok (.iconst 4, 1) := by decide +kernel
theorem dX12_feed_89 : decode cX12_feed 89 = .ok (.irem, 1) := by decide +kernel
theorem dX12_feed_90 : decode cX12_feed 90 = .ok (.imul, 1) := by decide +kernel
theorem dX12_feed_91 : decode cX12_feed 91 = .ok (.isub, 1) := by decide +kernel
theorem dX12_feed_92 : decode cX12_feed 92 = .ok (.ishr, 1) := by decide +kernel
theorem dX12_feed_93 : decode cX12_feed 93 = .ok (.i2b, 1) := by decide +kernel
theorem dX12_feed_94 : decode cX12_feed 94 = .ok (.bastore, 1) := by decide +kernel
theorem dX12_feed_95 : decode cX12_feed 95 = .ok (.iinc 6 1, 3) := by decide +kernel
theorem dX12_feed_98 : decode cX12_feed 98 = .ok (.goto (-43), 3) := by decide +kernel
theorem dX12_feed_101 : decode cX12_feed 101 = .ok (.aload_n 0, 1) := by decide +kernel
theorem dX12_feed_102 : decode cX12_feed 102 = .ok (.dup, 1) := by decide +kernel
theorem dX12_feed_103 : decode cX12_feed 103 = .ok (.getfield 214, 3) := by decide +kernel
theorem dX12_feed_106 : decode cX12_feed 106 = .ok (.bipush 20, 2) := by decide +kernel
theorem dX12_feed_108 : decode cX12_feed 108 = .ok (.iadd, 1) := by decide +kernel
theorem dX12_feed_109 : decode cX12_feed 109 = .ok (.putfield 214, 3) := by decide +kernel
theorem dX12_feed_112 : decode cX12_feed 112 = .ok (.aload_n 0, 1) := by decide +kernel
theorem dX12_feed_113 : decode cX12_feed 113 = .ok (.getfield 214, 3) := by decide +kernel
theorem dX12_feed_116 : decode cX12_feed 116 = .ok (.ireturn, 1) := by decide +kernel
set_option maxRecDepth 20000 in
theorem T_X12_feed_55 {Q : Option Value → ah_T → Prop} {h : ah_T} (hs : Sh h) (x6 : Int32) (ht : ((20 ≤ x6 → (∀ h18, h18 = ah_si h 82 11 ((ah_i h 82 11) + 20) → Q (some (.int (ah_i h18 82 11))) h18)) ∧ (¬ 20 ≤ x6 → (vp_in (x6 / 4) (ah_n h 89)) ∧ (vp_in ((ah_i h 82 11) + x6) (ah_n h 88)) ∧ (∀ h23, h23 = ah_si h 88 (Int32.toNatClampNeg ((ah_i h 82 11) + x6)) (vp_nar .byte ((((ah_i h 89 (Int32.toNatClampNeg (x6 / 4))) >>> ((24 - (8 * (x6 - x6 / 4 * 4))) &&& 31))).toInt8.toInt32)) → Wp mX12_feed Q 0 0 55 [some (.ref 82), none, none, none, none, none, some (.int (x6 + 1))] [] h23)))) : Wp mX12_feed Q 0 0 55 [some (.ref 82), none, none, none, none, none, some (.int x6)] [] h := by
  refine ab_iload (i := 6) dX12_feed_55 rfl ?_
  refine ab_bipush (v := 20) dX12_feed_57 (by decide) ?_
  refine ab_icmp_ge (tgt := 101) dX12_feed_59 (by decide) (fun c17 => ?_) (fun c17 => ?_)
  · have ht := ht.1 c17
    refine ab_aload_n (i := 0) dX12_feed_101 rfl rfl ?_
    refine ab_dup dX12_feed_102 rfl ?_
    refine ab_getI f_X12_214 rfl (sh_k hs 82 12 (by decide) rfl) dX12_feed_103 ?_
    refine ab_bipush (v := 20) dX12_feed_106 (by decide) ?_
    refine ab_iadd dX12_feed_108 ?_
    refine ab_putI f_X12_214 (Or.inl rfl) rfl (sh_k hs 82 12 (by decide) rfl) rfl rfl dX12_feed_109 ?_
    refine Wp.nm fun h18 e19 => ?_
    have ht := ht h18 e19
    have hs20 : Sh h18 := by rw [e19]; exact sh_si hs
    refine ab_aload_n (i := 0) dX12_feed_112 rfl rfl ?_
    refine ab_getI f_X12_214 rfl (sh_k hs20 82 12 (by decide) rfl) dX12_feed_113 ?_
    exact ab_iret rfl dX12_feed_116 (Nat.le_of_ble_eq_true rfl) (Nat.le_of_ble_eq_true rfl) ht
  · have ht := ht.2 c17
    refine ab_aload_n (i := 0) dX12_feed_62 rfl rfl ?_
    refine ab_getR (b := 88) f_X12_34 rfl (sh_k hs 82 12 (by decide) rfl) (sh_r hs 104 rfl) dX12_feed_63 ?_
    refine ab_aload_n (i := 0) dX12_feed_66 rfl rfl ?_
    refine ab_getI f_X12_214 rfl (sh_k hs 82 12 (by decide) rfl) dX12_feed_67 ?_
    refine ab_iload (i := 6) dX12_feed_70 rfl ?_
    refine ab_iadd dX12_feed_72 ?_
    refine ab_aload_n (i := 0) dX12_feed_73 rfl rfl ?_
    refine ab_getR (b := 89) f_X12_37 rfl (sh_k hs 82 12 (by decide) rfl) (sh_r hs 105 rfl) dX12_feed_74 ?_
    refine ab_iload (i := 6) dX12_feed_77 rfl ?_
    refine ab_iconst (v := 4) dX12_feed_79 (by decide) ?_
    refine ab_idiv dX12_feed_80 (by decide) ?_
    obtain ⟨hc21, ht⟩ := ht
    refine ab_iald (sh_k hs 89 14 (by decide) rfl) hc21 dX12_feed_81 ?_
    refine ab_bipush (v := 24) dX12_feed_82 (by decide) ?_
    refine ab_bipush (v := 8) dX12_feed_84 (by decide) ?_
    refine ab_iload (i := 6) dX12_feed_86 rfl ?_
    refine ab_iconst (v := 4) dX12_feed_88 (by decide) ?_
    refine ab_irem dX12_feed_89 (by decide) ?_
    refine ab_imul dX12_feed_90 ?_
    refine ab_isub dX12_feed_91 ?_
    refine ab_ishr dX12_feed_92 ?_
    refine ab_i2b dX12_feed_93 ?_
    obtain ⟨hc22, ht⟩ := ht
    refine ab_bast (sh_k hs 88 13 (by decide) rfl) hc22 dX12_feed_94 ?_
    refine Wp.nm fun h23 e24 => ?_
    have ht := ht h23 e24
    have hs25 : Sh h23 := by rw [e24]; exact sh_si hs
    refine ab_iinc (i := 6) (x := x6) (v := (x6 + 1)) (L' := [some (.ref 82), none, none, none, none, none, some (.int (x6 + 1))]) dX12_feed_95 rfl rfl (by exact (Nat.le_of_ble_eq_true rfl)) rfl rfl ?_
    refine ab_goto (tgt := 55) dX12_feed_98 (by decide) ?_
    exact Wp.fewer (L' := [some (.ref 82), none, none, none, none, none, some (.int (x6 + 1))]) (show ab_leL _ _ from ⟨rfl, ⟨rfl, trivial⟩⟩) ht
set_option maxRecDepth 20000 in
theorem T_X12_feed {Q : Option Value → ah_T → Prop} {h : ah_T} (hs : Sh h) (x1 : Int32) (x2 : Int32) (x3 : Int32) (x4 : Int32) (x5 : Int32) (ht : ((((ah_i h 82 11) + 20) ≤ 400 → (∀ h2, h2 = ah_si h 89 (Int32.toNatClampNeg 0) x1 → (∀ h5, h5 = ah_si h2 89 (Int32.toNatClampNeg 1) x2 → (∀ h8, h8 = ah_si h5 89 (Int32.toNatClampNeg 2) x3 → (∀ h11, h11 = ah_si h8 89 (Int32.toNatClampNeg 3) x4 → (∀ h14, h14 = ah_si h11 89 (Int32.toNatClampNeg 4) x5 → Wp mX12_feed Q 0 0 55 [some (.ref 82), none, none, none, none, none, some (.int 0)] [] h14)))))) ∧ (¬ ((ah_i h 82 11) + 20) ≤ 400 → Q (some (.int (-1))) h))) : Mt mX12_feed [.ref 82, .int x1, .int x2, .int x3, .int x4, .int x5] h Q := by
  refine Mt.ofWp rfl (by exact (Nat.le_of_ble_eq_true rfl)) (Wp.fewer (L' := [some (.ref 82), some (.int x1), some (.int x2), some (.int x3), some (.int x4), some (.int x5), none]) (show ab_leL _ _ from ⟨rfl, ⟨rfl, ⟨rfl, ⟨rfl, ⟨rfl, ⟨rfl, trivial⟩⟩⟩⟩⟩⟩) ?_)
  refine ab_aload_n (i := 0) dX12_feed_0 rfl rfl ?_
  refine ab_getI f_X12_214 rfl (sh_k hs 82 12 (by decide) rfl) dX12_feed_1 ?_
  refine ab_bipush (v := 20) dX12_feed_4 (by decide) ?_
  refine ab_iadd dX12_feed_6 ?_
  refine ab_sipush (v := 400) dX12_feed_7 (by decide) ?_
  refine ab_icmp_le (tgt := 15) dX12_feed_10 (by decide) (fun c1 => ?_) (fun c1 => ?_)
  · have ht := ht.1 c1
    refine ab_aload_n (i := 0) dX12_feed_15 rfl rfl ?_
    refine ab_getR (b := 89) f_X12_37 rfl (sh_k hs 82 12 (by decide) rfl) (sh_r hs 105 rfl) dX12_feed_16 ?_
    refine ab_iconst (v := 0) dX12_feed_19 (by decide) ?_
    refine ab_iload_n (i := 1) dX12_feed_20 rfl rfl ?_
    refine ab_iast (sh_k hs 89 14 (by decide) rfl) (sh_in hs 89 5 (by decide) (by decide) rfl (by unfold vp_in; decide)) dX12_feed_21 ?_
    refine Wp.nm fun h2 e3 => ?_
    have ht := ht h2 e3
    have hs4 : Sh h2 := by rw [e3]; exact sh_si hs
    refine ab_aload_n (i := 0) dX12_feed_22 rfl rfl ?_
    refine ab_getR (b := 89) f_X12_37 rfl (sh_k hs4 82 12 (by decide) rfl) (sh_r hs4 105 rfl) dX12_feed_23 ?_
    refine ab_iconst (v := 1) dX12_feed_26 (by decide) ?_
    refine ab_iload_n (i := 2) dX12_feed_27 rfl rfl ?_
    refine ab_iast (sh_k hs4 89 14 (by decide) rfl) (sh_in hs4 89 5 (by decide) (by decide) rfl (by unfold vp_in; decide)) dX12_feed_28 ?_
    refine Wp.nm fun h5 e6 => ?_
    have ht := ht h5 e6
    have hs7 : Sh h5 := by rw [e6]; exact sh_si hs4
    refine ab_aload_n (i := 0) dX12_feed_29 rfl rfl ?_
    refine ab_getR (b := 89) f_X12_37 rfl (sh_k hs7 82 12 (by decide) rfl) (sh_r hs7 105 rfl) dX12_feed_30 ?_
    refine ab_iconst (v := 2) dX12_feed_33 (by decide) ?_
    refine ab_iload_n (i := 3) dX12_feed_34 rfl rfl ?_
    refine ab_iast (sh_k hs7 89 14 (by decide) rfl) (sh_in hs7 89 5 (by decide) (by decide) rfl (by unfold vp_in; decide)) dX12_feed_35 ?_
    refine Wp.nm fun h8 e9 => ?_
    have ht := ht h8 e9
    have hs10 : Sh h8 := by rw [e9]; exact sh_si hs7
    refine ab_aload_n (i := 0) dX12_feed_36 rfl rfl ?_
    refine ab_getR (b := 89) f_X12_37 rfl (sh_k hs10 82 12 (by decide) rfl) (sh_r hs10 105 rfl) dX12_feed_37 ?_
    refine ab_iconst (v := 3) dX12_feed_40 (by decide) ?_
    refine ab_iload (i := 4) dX12_feed_41 rfl ?_
    refine ab_iast (sh_k hs10 89 14 (by decide) rfl) (sh_in hs10 89 5 (by decide) (by decide) rfl (by unfold vp_in; decide)) dX12_feed_43 ?_
    refine Wp.nm fun h11 e12 => ?_
    have ht := ht h11 e12
    have hs13 : Sh h11 := by rw [e12]; exact sh_si hs10
    refine ab_aload_n (i := 0) dX12_feed_44 rfl rfl ?_
    refine ab_getR (b := 89) f_X12_37 rfl (sh_k hs13 82 12 (by decide) rfl) (sh_r hs13 105 rfl) dX12_feed_45 ?_
    refine ab_iconst (v := 4) dX12_feed_48 (by decide) ?_
    refine ab_iload (i := 5) dX12_feed_49 rfl ?_
    refine ab_iast (sh_k hs13 89 14 (by decide) rfl) (sh_in hs13 89 5 (by decide) (by decide) rfl (by unfold vp_in; decide)) dX12_feed_51 ?_
    refine Wp.nm fun h14 e15 => ?_
    have ht := ht h14 e15
    have hs16 : Sh h14 := by rw [e15]; exact sh_si hs13
    refine ab_iconst (v := 0) dX12_feed_52 (by decide) ?_
    refine ab_istore (i := 6) (L' := [some (.ref 82), some (.int x1), some (.int x2), some (.int x3), some (.int x4), some (.int x5), some (.int 0)]) dX12_feed_53 (by exact (Nat.le_of_ble_eq_true rfl)) rfl rfl ?_
    exact Wp.fewer (L' := [some (.ref 82), none, none, none, none, none, some (.int 0)]) (show ab_leL _ _ from ⟨rfl, ⟨rfl, trivial⟩⟩) ht
  · have ht := ht.2 c1
    refine ab_iconst (v := (-1)) dX12_feed_13 (by decide) ?_
    exact ab_iret rfl dX12_feed_14 (Nat.le_of_ble_eq_true rfl) (Nat.le_of_ble_eq_true rfl) ht
theorem dX12_end_0 : decode cX12_end 0 = .ok (.iload_n 1, 1) := by decide +kernel
theorem dX12_end_1 : decode cX12_end 1 = .ok (.iconst 0, 1) := by decide +kernel
theorem dX12_end_2 : decode cX12_end 2 = .ok (.aload_n 0, 1) := by decide +kernel
theorem dX12_end_3 : decode cX12_end 3 = .ok (.getfield 214, 3) := by decide +kernel
theorem dX12_end_6 : decode cX12_end 6 = .ok (.invokestatic 156, 3) := by decide +kernel
theorem dX12_end_9 : decode cX12_end 9 = .ok (.ifCond .ne 5, 3) := by decide +kernel
theorem dX12_end_12 : decode cX12_end 12 = .ok (.iconst (-1), 1) := by decide +kernel
theorem dX12_end_13 : decode cX12_end 13 = .ok (.ireturn, 1) := by decide +kernel
theorem dX12_end_14 : decode cX12_end 14 = .ok (.aload_n 0, 1) := by decide +kernel
theorem dX12_end_15 : decode cX12_end 15 = .ok (.iload_n 1, 1) := by decide +kernel
theorem dX12_end_16 : decode cX12_end 16 = .ok (.putfield 214, 3) := by decide +kernel
theorem dX12_end_19 : decode cX12_end 19 = .ok (.iload_n 1, 1) := by decide +kernel
theorem dX12_end_20 : decode cX12_end 20 = .ok (.ireturn, 1) := by decide +kernel
set_option maxRecDepth 20000 in
theorem T_X12_end {Q : Option Value → ah_T → Prop} {h : ah_T} (hs : Sh h) (x1 : Int32) (ht : ((¬ (f_X12_lies x1 0 (ah_i h 82 11)) = 0 → (∀ h2, h2 = ah_si h 82 11 x1 → Q (some (.int x1)) h2)) ∧ ((f_X12_lies x1 0 (ah_i h 82 11)) = 0 → Q (some (.int (-1))) h))) : Mt mX12_end [.ref 82, .int x1] h Q := by
  refine Mt.ofWp rfl (by exact (Nat.le_of_ble_eq_true rfl)) (Wp.fewer (L' := [some (.ref 82), some (.int x1)]) (show ab_leL _ _ from ⟨rfl, ⟨rfl, trivial⟩⟩) ?_)
  refine ab_iload_n (i := 1) dX12_end_0 rfl rfl ?_
  refine ab_iconst (v := 0) dX12_end_1 (by decide) ?_
  refine ab_aload_n (i := 0) dX12_end_2 rfl rfl ?_
  refine ab_getI f_X12_214 rfl (sh_k hs 82 12 (by decide) rfl) dX12_end_3 ?_
  refine ab_callS (Q' := fun r h' => r = some (.int (f_X12_lies x1 0 (ah_i h 82 11))) ∧ h = h') (As := [.int x1, .int 0, .int (ah_i h 82 11)]) (c_X12_lies hs x1 0 (ah_i h 82 11) ⟨rfl, rfl⟩) (Y_X12_lies) l_X12_156 st_X12_lies rfl ⟨(Nat.le_of_ble_eq_true rfl), (Nat.le_of_ble_eq_true rfl), (Nat.le_of_ble_eq_true rfl), (Nat.le_of_ble_eq_true rfl)⟩ dX12_end_6 ?_
  rintro _ _ ⟨rfl, rfl⟩
  refine ab_if_ne (tgt := 14) dX12_end_9 (by decide) (fun c1 => ?_) (fun c1 => ?_)
  · have ht := ht.1 c1
    refine ab_aload_n (i := 0) dX12_end_14 rfl rfl ?_
    refine ab_iload_n (i := 1) dX12_end_15 rfl rfl ?_
    refine ab_putI f_X12_214 (Or.inl rfl) rfl (sh_k hs 82 12 (by decide) rfl) rfl rfl dX12_end_16 ?_
    refine Wp.nm fun h2 e3 => ?_
    have ht := ht h2 e3
    have hs4 : Sh h2 := by rw [e3]; exact sh_si hs
    refine ab_iload_n (i := 1) dX12_end_19 rfl rfl ?_
    exact ab_iret rfl dX12_end_20 (Nat.le_of_ble_eq_true rfl) (Nat.le_of_ble_eq_true rfl) ht
  · have ht := ht.2 c1
    refine ab_iconst (v := (-1)) dX12_end_12 (by decide) ?_
    exact ab_iret rfl dX12_end_13 (Nat.le_of_ble_eq_true rfl) (Nat.le_of_ble_eq_true rfl) ht
theorem dX12_wordOf_0 : decode cX12_wordOf 0 = .ok (.iconst 1, 1) := by decide +kernel
theorem dX12_wordOf_1 : decode cX12_wordOf 1 = .ok (.istore_n 3, 1) := by decide +kernel
theorem dX12_wordOf_2 : decode cX12_wordOf 2 = .ok (.iconst 0, 1) := by decide +kernel
theorem dX12_wordOf_3 : decode cX12_wordOf 3 = .ok (.istore 4, 2) := by decide +kernel
theorem dX12_wordOf_5 : decode cX12_wordOf 5 = .ok (.iload 4, 2) := by decide +kernel
theorem dX12_wordOf_7 : decode cX12_wordOf 7 = .ok (.aload_n 0, 1) := by decide +kernel
theorem dX12_wordOf_8 : decode cX12_wordOf 8 = .ok (.getfield 30, 3) := by decide +kernel
theorem dX12_wordOf_11 : decode cX12_wordOf 11 = .ok (.arraylength, 1) := by decide +kernel
theorem dX12_wordOf_12 : decode cX12_wordOf 12 = .ok (.if_icmp .ge 114, 3) := by decide +kernel
theorem dX12_wordOf_15 : decode cX12_wordOf 15 = .ok (.iconst 0, 1) := by decide +kernel
theorem dX12_wordOf_16 : decode cX12_wordOf 16 = .ok (.istore 5, 2) := by decide +kernel
theorem dX12_wordOf_18 : decode cX12_wordOf 18 = .ok (.aload_n 0, 1) := by decide +kernel
theorem dX12_wordOf_19 : decode cX12_wordOf 19 = .ok (.getfield 30, 3) := by decide +kernel
theorem dX12_wordOf_22 : decode cX12_wordOf 22 = .ok (.iload 4, 2) := by decide +kernel
theorem dX12_wordOf_24 : decode cX12_wordOf 24 = .ok (.iload 5, 2) := by decide +kernel
theorem dX12_wordOf_26 : decode cX12_wordOf 26 = .ok (.iadd, 1) := by decide +kernel
theorem dX12_wordOf_27 : decode cX12_wordOf 27 = .ok (.baload, 1) := by decide +kernel
theorem dX12_wordOf_28 : decode cX12_wordOf 28 = .ok (.bipush 32, 2) := by decide +kernel
theorem dX12_wordOf_30 : decode cX12_wordOf 30 = .ok (.if_icmp .eq 9, 3) := by decide +kernel
theorem dX12_wordOf_33 : decode cX12_wordOf 33 = .ok (.iinc 5 1, 3) := by decide +kernel
theorem dX12_wordOf_36 : decode cX12_wordOf 36 = .ok (.goto (-18), 3) := by decide +kernel
theorem dX12_wordOf_39 : decode cX12_wordOf 39 = .ok (.iload 5, 2) := by decide +kernel
theorem dX12_wordOf_41 : decode cX12_wordOf 41 = .ok (.iload_n 2, 1) := by decide +kernel
theorem dX12_wordOf_42 : decode cX12_wordOf 42 = .ok (.iload_n 1, 1) := by decide +kernel
theorem dX12_wordOf_43 : decode cX12_wordOf 43 = .ok (.isub, 1) := by decide +kernel
theorem dX12_wordOf_44 : decode cX12_wordOf 44 = .ok (.if_icmp .ne 7, 3) := by decide +kernel
theorem dX12_wordOf_47 : decode cX12_wordOf 47 = .ok (.iconst 1, 1) := by decide +kernel
theorem dX12_wordOf_48 : decode cX12_wordOf 48 = .ok (.goto 4, 3) := by decide +kernel
theorem dX12_wordOf_51 : decode cX12_wordOf 51 = .ok (.iconst 0, 1) := by decide +kernel
theorem dX12_wordOf_52 : decode cX12_wordOf 52 = .ok (.istore 6, 2) := by decide +kernel
theorem dX12_wordOf_54 : decode cX12_wordOf 54 = .ok (.iconst 0, 1) := by decide +kernel
theorem dX12_wordOf_55 : decode cX12_wordOf 55 = .ok (.istore 7, 2) := by decide +kernel
theorem dX12_wordOf_57 : decode cX12_wordOf 57 = .ok (.iload 7, 2) := by decide +kernel
theorem dX12_wordOf_59 : decode cX12_wordOf 59 = .ok (.iload 5, 2) := by decide +kernel
theorem dX12_wordOf_61 : decode cX12_wordOf 61 = .ok (.if_icmp .ge 43, 3) := by decide +kernel
theorem dX12_wordOf_64 : decode cX12_wordOf 64 = .ok (.iload 6, 2) := by decide +kernel
theorem dX12_wordOf_66 : decode cX12_wordOf 66 = .ok (.ifCond .eq 38, 3) := by decide +kernel
theorem dX12_wordOf_69 : decode cX12_wordOf 69 = .ok (.aload_n 0, 1) := by decide +kernel
theorem dX12_wordOf_70 : decode cX12_wordOf 70 = .ok (.getfield 30, 3) := by decide +kernel
theorem dX12_wordOf_73 : decode cX12_wordOf 73 = .ok (.iload 4, 2) := by decide +kernel
theorem dX12_wordOf_75 : decode cX12_wordOf 75 = .ok (.iload 7, 2) := by decide +kernel
theorem dX12_wordOf_77 : decode cX12_wordOf 77 = .ok (.iadd, 1) := by decide +kernel
theorem dX12_wordOf_78 : decode cX12_wordOf 78 = .ok (.baload, 1) := by decide +kernel
theorem dX12_wordOf_79 : decode cX12_wordOf 79 = .ok (.aload_n 0, 1) := by decide +kernel
theorem dX12_wordOf_80 : decode cX12_wordOf 80 = .ok (.getfield 34, 3) := by decide +kernel
theorem dX12_wordOf_83 : decode cX12_wordOf 83 = .ok (.iload_n 1, 1) := by decide +kernel
theorem dX12_wordOf_84 : decode cX12_wordOf 84 = .ok (.iload 7, 2) := by decide +kernel
theorem dX12_wordOf_86 : decode cX12_wordOf 86 = .ok (.iadd, 1) := by decide +kernel
theorem dX12_wordOf_87 : decode cX12_wordOf 87 = .ok (.baload, 1) := by decide +kernel
theorem dX12_wordOf_88 : decode cX12_wordOf 88 = .ok (.if_icmp .ne 7, 3) := by decide +kernel
theorem dX12_wordOf_91 : decode cX12_wordOf 91 = .ok (.iconst 1, 1) := by decide +kernel
theorem dX12_wordOf_92 : decode cX12_wordOf 92 = .ok (.goto 4, 3) := by decide +kernel
theorem dX12_wordOf_95 : decode cX12_wordOf 95 = .ok (.iconst 0, 1) := by decide +kernel
theorem dX12_wordOf_96 : decode cX12_wordOf 96 = .ok (.istore 6, 2) := by decide +kernel
theorem dX12_wordOf_98 : decode cX12_wordOf 98 = .ok (.iinc 7 1, 3) := by decide +kernel
theorem dX12_wordOf_101 : decode cX12_wordOf 101 = .ok (.goto (-44), 3) := by decide +kernel
theorem dX12_wordOf_104 : decode cX12_wordOf 104 = .ok (.iload 6, 2) := by decide +kernel
theorem dX12_wordOf_106 : decode cX12_wordOf 106 = .ok (.ifCond .eq 5, 3) := by decide +kernel
theorem dX12_wordOf_109 : decode cX12_wordOf 109 = .ok (.iload_n 3, 1) := by decide +kernel
theorem dX12_wordOf_110 : decode cX12_wordOf 110 = .ok (.ireturn, 1) := by decide +kernel
theorem dX12_wordOf_111 : decode cX12_wordOf 111 = .ok (.iload 4, 2) := by decide +kernel
theorem dX12_wordOf_113 : decode cX12_wordOf 113 = .ok (.iload 5, 2) := by decide +kernel
theorem dX12_wordOf_115 : decode cX12_wordOf 115 = .ok (.iconst 1, 1) := by decide +kernel
theorem dX12_wordOf_116 : decode cX12_wordOf 116 = .ok (.iadd, 1) := by decide +kernel
theorem dX12_wordOf_117 : decode cX12_wordOf 117 = .ok (.iadd, 1) := by decide +kernel
theorem dX12_wordOf_118 : decode cX12_wordOf 118 = .ok (.istore 4, 2) := by decide +kernel
theorem dX12_wordOf_120 : decode cX12_wordOf 120 = .ok (.iinc 3 1, 3) := by decide +kernel
theorem dX12_wordOf_123 : decode cX12_wordOf 123 = .ok (.goto (-118), 3) := by decide +kernel
theorem dX12_wordOf_126 : decode cX12_wordOf 126 = .ok (.iconst 0, 1) := by decide +kernel
theorem dX12_wordOf_127 : decode cX12_wordOf 127 = .ok (.ireturn, 1) := by decide +kernel
set_option maxRecDepth 20000 in
theorem T_X12_wordOf_5 {Q : Option Value → ah_T → Prop} {h : ah_T} (hs : Sh h) (x1 : Int32) (x2 : Int32) (x3 : Int32) (x4 : Int32) (ht : (((Int32.ofNat (ah_n h 87)) ≤ x4 → Q (some (.int 0)) h) ∧ (¬ (Int32.ofNat (ah_n h 87)) ≤ x4 → Wp mX12_wordOf Q 0 0 18 [some (.ref 82), some (.int x1), some (.int x2), some (.int x3), some (.int x4), some (.int 0), none, none] [] h))) : Wp mX12_wordOf Q 0 0 5 [some (.ref 82), some (.int x1), some (.int x2), some (.int x3), some (.int x4), none, none, none] [] h := by
  refine ab_iload (i := 4) dX12_wordOf_5 rfl ?_
  refine ab_aload_n (i := 0) dX12_wordOf_7 rfl rfl ?_
  refine ab_getR (b := 87) f_X12_30 rfl (sh_k hs 82 12 (by decide) rfl) (sh_r hs 103 rfl) dX12_wordOf_8 ?_
  refine ab_alen 13 (by decide) (sh_k hs 87 13 (by decide) rfl) rfl dX12_wordOf_11 ?_
  refine ab_icmp_ge (tgt := 126) dX12_wordOf_12 (by decide) (fun c1 => ?_) (fun c1 => ?_)
  · have ht := ht.1 c1
    refine ab_iconst (v := 0) dX12_wordOf_126 (by decide) ?_
    exact ab_iret rfl dX12_wordOf_127 (Nat.le_of_ble_eq_true rfl) (Nat.le_of_ble_eq_true rfl) ht
  · have ht := ht.2 c1
    refine ab_iconst (v := 0) dX12_wordOf_15 (by decide) ?_
    refine ab_istore (i := 5) (L' := [some (.ref 82), some (.int x1), some (.int x2), some (.int x3), some (.int x4), some (.int 0), none, none]) dX12_wordOf_16 (by exact (Nat.le_of_ble_eq_true rfl)) rfl rfl ?_
    exact Wp.fewer (L' := [some (.ref 82), some (.int x1), some (.int x2), some (.int x3), some (.int x4), some (.int 0), none, none]) (show ab_leL _ _ from ⟨rfl, ⟨rfl, ⟨rfl, ⟨rfl, ⟨rfl, ⟨rfl, trivial⟩⟩⟩⟩⟩⟩) ht
set_option maxRecDepth 20000 in
theorem T_X12_wordOf_18 {Q : Option Value → ah_T → Prop} {h : ah_T} (hs : Sh h) (x1 : Int32) (x2 : Int32) (x3 : Int32) (x4 : Int32) (x5 : Int32) (ht : (vp_in (x4 + x5) (ah_n h 87)) ∧ (((ah_i h 87 (Int32.toNatClampNeg (x4 + x5))) = 32 → ((¬ x5 = (x2 - x1) → Wp mX12_wordOf Q 0 0 57 [some (.ref 82), some (.int x1), some (.int x2), some (.int x3), some (.int x4), some (.int x5), some (.int 0), some (.int 0)] [] h) ∧ (x5 = (x2 - x1) → Wp mX12_wordOf Q 0 0 57 [some (.ref 82), some (.int x1), some (.int x2), some (.int x3), some (.int x4), some (.int x5), some (.int 1), some (.int 0)] [] h))) ∧ (¬ (ah_i h 87 (Int32.toNatClampNeg (x4 + x5))) = 32 → Wp mX12_wordOf Q 0 0 18 [some (.ref 82), some (.int x1), some (.int x2), some (.int x3), some (.int x4), some (.int (x5 + 1)), none, none] [] h))) : Wp mX12_wordOf Q 0 0 18 [some (.ref 82), some (.int x1), some (.int x2), some (.int x3), some (.int x4), some (.int x5), none, none] [] h := by
  refine ab_aload_n (i := 0) dX12_wordOf_18 rfl rfl ?_
  refine ab_getR (b := 87) f_X12_30 rfl (sh_k hs 82 12 (by decide) rfl) (sh_r hs 103 rfl) dX12_wordOf_19 ?_
  refine ab_iload (i := 4) dX12_wordOf_22 rfl ?_
  refine ab_iload (i := 5) dX12_wordOf_24 rfl ?_
  refine ab_iadd dX12_wordOf_26 ?_
  obtain ⟨hc2, ht⟩ := ht
  refine ab_bald (sh_k hs 87 13 (by decide) rfl) hc2 dX12_wordOf_27 ?_
  refine ab_bipush (v := 32) dX12_wordOf_28 (by decide) ?_
  refine ab_icmp_eq (tgt := 39) dX12_wordOf_30 (by decide) (fun c3 => ?_) (fun c3 => ?_)
  · have ht := ht.1 c3
    refine ab_iload (i := 5) dX12_wordOf_39 rfl ?_
    refine ab_iload_n (i := 2) dX12_wordOf_41 rfl rfl ?_
    refine ab_iload_n (i := 1) dX12_wordOf_42 rfl rfl ?_
    refine ab_isub dX12_wordOf_43 ?_
    refine ab_icmp_ne (tgt := 51) dX12_wordOf_44 (by decide) (fun c4 => ?_) (fun c4 => ?_)
    · have ht := ht.1 c4
      refine ab_iconst (v := 0) dX12_wordOf_51 (by decide) ?_
      refine ab_istore (i := 6) (L' := [some (.ref 82), some (.int x1), some (.int x2), some (.int x3), some (.int x4), some (.int x5), some (.int 0), none]) dX12_wordOf_52 (by exact (Nat.le_of_ble_eq_true rfl)) rfl rfl ?_
      refine ab_iconst (v := 0) dX12_wordOf_54 (by decide) ?_
      refine ab_istore (i := 7) (L' := [some (.ref 82), some (.int x1), some (.int x2), some (.int x3), some (.int x4), some (.int x5), some (.int 0), some (.int 0)]) dX12_wordOf_55 (by exact (Nat.le_of_ble_eq_true rfl)) rfl rfl ?_
      exact Wp.fewer (L' := [some (.ref 82), some (.int x1), some (.int x2), some (.int x3), some (.int x4), some (.int x5), some (.int 0), some (.int 0)]) (show ab_leL _ _ from ⟨rfl, ⟨rfl, ⟨rfl, ⟨rfl, ⟨rfl, ⟨rfl, ⟨rfl, ⟨rfl, trivial⟩⟩⟩⟩⟩⟩⟩⟩) ht
    · have ht := ht.2 c4
      refine ab_iconst (v := 1) dX12_wordOf_47 (by decide) ?_
      refine ab_goto (tgt := 52) dX12_wordOf_48 (by decide) ?_
      refine ab_istore (i := 6) (L' := [some (.ref 82), some (.int x1), some (.int x2), some (.int x3), some (.int x4), some (.int x5), some (.int 1), none]) dX12_wordOf_52 (by exact (Nat.le_of_ble_eq_true rfl)) rfl rfl ?_
      refine ab_iconst (v := 0) dX12_wordOf_54 (by decide) ?_
      refine ab_istore (i := 7) (L' := [some (.ref 82), some (.int x1), some (.int x2), some (.int x3), some (.int x4), some (.int x5), some (.int 1), some (.int 0)]) dX12_wordOf_55 (by exact (Nat.le_of_ble_eq_true rfl)) rfl rfl ?_
      exact Wp.fewer (L' := [some (.ref 82), some (.int x1), some (.int x2), some (.int x3), some (.int x4), some (.int x5), some (.int 1), some (.int 0)]) (show ab_leL _ _ from ⟨rfl, ⟨rfl, ⟨rfl, ⟨rfl, ⟨rfl, ⟨rfl, ⟨rfl, ⟨rfl, trivial⟩⟩⟩⟩⟩⟩⟩⟩) ht
  · have ht := ht.2 c3
    refine ab_iinc (i := 5) (x := x5) (v := (x5 + 1)) (L' := [some (.ref 82), some (.int x1), some (.int x2), some (.int x3), some (.int x4), some (.int (x5 + 1)), none, none]) dX12_wordOf_33 rfl rfl (by exact (Nat.le_of_ble_eq_true rfl)) rfl rfl ?_
    refine ab_goto (tgt := 18) dX12_wordOf_36 (by decide) ?_
    exact Wp.fewer (L' := [some (.ref 82), some (.int x1), some (.int x2), some (.int x3), some (.int x4), some (.int (x5 + 1)), none, none]) (show ab_leL _ _ from ⟨rfl, ⟨rfl, ⟨rfl, ⟨rfl, ⟨rfl, ⟨rfl, trivial⟩⟩⟩⟩⟩⟩) ht
set_option maxRecDepth 20000 in
theorem T_X12_wordOf_57 {Q : Option Value → ah_T → Prop} {h : ah_T} (hs : Sh h) (x1 : Int32) (x2 : Int32) (x3 : Int32) (x4 : Int32) (x5 : Int32) (x6 : Int32) (x7 : Int32) (ht : ((x5 ≤ x7 → ((x6 = 0 → Wp mX12_wordOf Q 0 0 5 [some (.ref 82), some (.int x1), some (.int x2), some (.int (x3 + 1)), some (.int (x4 + (x5 + 1))), none, none, none] [] h) ∧ (¬ x6 = 0 → Q (some (.int x3)) h))) ∧ (¬ x5 ≤ x7 → ((x6 = 0 → ((x6 = 0 → Wp mX12_wordOf Q 0 0 5 [some (.ref 82), some (.int x1), some (.int x2), some (.int (x3 + 1)), some (.int (x4 + (x5 + 1))), none, none, none] [] h) ∧ (¬ x6 = 0 → Q (some (.int x3)) h))) ∧ (¬ x6 = 0 → (vp_in (x4 + x7) (ah_n h 87)) ∧ (vp_in (x1 + x7) (ah_n h 88)) ∧ ((¬ (ah_i h 87 (Int32.toNatClampNeg (x4 + x7))) = (ah_i h 88 (Int32.toNatClampNeg (x1 + x7))) → Wp mX12_wordOf Q 0 0 57 [some (.ref 82), some (.int x1), some (.int x2), some (.int x3), some (.int x4), some (.int x5), some (.int 0), some (.int (x7 + 1))] [] h) ∧ ((ah_i h 87 (Int32.toNatClampNeg (x4 + x7))) = (ah_i h 88 (Int32.toNatClampNeg (x1 + x7))) → Wp mX12_wordOf Q 0 0 57 [some (.ref 82), some (.int x1), some (.int x2), some (.int x3), some (.int x4), some (.int x5), some (.int 1), some (.int (x7 + 1))] [] h))))))) : Wp mX12_wordOf Q 0 0 57 [some (.ref 82), some (.int x1), some (.int x2), some (.int x3), some (.int x4), some (.int x5), some (.int x6), some (.int x7)] [] h := by
  refine ab_iload (i := 7) dX12_wordOf_57 rfl ?_
  refine ab_iload (i := 5) dX12_wordOf_59 rfl ?_
  refine ab_icmp_ge (tgt := 104) dX12_wordOf_61 (by decide) (fun c5 => ?_) (fun c5 => ?_)
  · have ht := ht.1 c5
    refine ab_iload (i := 6) dX12_wordOf_104 rfl ?_
    refine ab_if_eq (tgt := 111) dX12_wordOf_106 (by decide) (fun c6 => ?_) (fun c6 => ?_)
    · have ht := ht.1 c6
      refine ab_iload (i := 4) dX12_wordOf_111 rfl ?_
      refine ab_iload (i := 5) dX12_wordOf_113 rfl ?_
      refine ab_iconst (v := 1) dX12_wordOf_115 (by decide) ?_
      refine ab_iadd dX12_wordOf_116 ?_
      refine ab_iadd dX12_wordOf_117 ?_
      refine ab_istore (i := 4) (L' := [some (.ref 82), some (.int x1), some (.int x2), some (.int x3), some (.int (x4 + (x5 + 1))), some (.int x5), some (.int x6), some (.int x7)]) dX12_wordOf_118 (by exact (Nat.le_of_ble_eq_true rfl)) rfl rfl ?_
      refine ab_iinc (i := 3) (x := x3) (v := (x3 + 1)) (L' := [some (.ref 82), some (.int x1), some (.int x2), some (.int (x3 + 1)), some (.int (x4 + (x5 + 1))), some (.int x5), some (.int x6), some (.int x7)]) dX12_wordOf_120 rfl rfl (by exact (Nat.le_of_ble_eq_true rfl)) rfl rfl ?_
      refine ab_goto (tgt := 5) dX12_wordOf_123 (by decide) ?_
      exact Wp.fewer (L' := [some (.ref 82), some (.int x1), some (.int x2), some (.int (x3 + 1)), some (.int (x4 + (x5 + 1))), none, none, none]) (show ab_leL _ _ from ⟨rfl, ⟨rfl, ⟨rfl, ⟨rfl, ⟨rfl, trivial⟩⟩⟩⟩⟩) ht
    · have ht := ht.2 c6
      refine ab_iload_n (i := 3) dX12_wordOf_109 rfl rfl ?_
      exact ab_iret rfl dX12_wordOf_110 (Nat.le_of_ble_eq_true rfl) (Nat.le_of_ble_eq_true rfl) ht
  · have ht := ht.2 c5
    refine ab_iload (i := 6) dX12_wordOf_64 rfl ?_
    refine ab_if_eq (tgt := 104) dX12_wordOf_66 (by decide) (fun c7 => ?_) (fun c7 => ?_)
    · have ht := ht.1 c7
      refine ab_iload (i := 6) dX12_wordOf_104 rfl ?_
      refine ab_if_eq (tgt := 111) dX12_wordOf_106 (by decide) (fun c8 => ?_) (fun c8 => ?_)
      · have ht := ht.1 c8
        refine ab_iload (i := 4) dX12_wordOf_111 rfl ?_
        refine ab_iload (i := 5) dX12_wordOf_113 rfl ?_
        refine ab_iconst (v := 1) dX12_wordOf_115 (by decide) ?_
        refine ab_iadd dX12_wordOf_116 ?_
        refine ab_iadd dX12_wordOf_117 ?_
        refine ab_istore (i := 4) (L' := [some (.ref 82), some (.int x1), some (.int x2), some (.int x3), some (.int (x4 + (x5 + 1))), some (.int x5), some (.int x6), some (.int x7)]) dX12_wordOf_118 (by exact (Nat.le_of_ble_eq_true rfl)) rfl rfl ?_
        refine ab_iinc (i := 3) (x := x3) (v := (x3 + 1)) (L' := [some (.ref 82), some (.int x1), some (.int x2), some (.int (x3 + 1)), some (.int (x4 + (x5 + 1))), some (.int x5), some (.int x6), some (.int x7)]) dX12_wordOf_120 rfl rfl (by exact (Nat.le_of_ble_eq_true rfl)) rfl rfl ?_
        refine ab_goto (tgt := 5) dX12_wordOf_123 (by decide) ?_
        exact Wp.fewer (L' := [some (.ref 82), some (.int x1), some (.int x2), some (.int (x3 + 1)), some (.int (x4 + (x5 + 1))), none, none, none]) (show ab_leL _ _ from ⟨rfl, ⟨rfl, ⟨rfl, ⟨rfl, ⟨rfl, trivial⟩⟩⟩⟩⟩) ht
      · have ht := ht.2 c8
        refine ab_iload_n (i := 3) dX12_wordOf_109 rfl rfl ?_
        exact ab_iret rfl dX12_wordOf_110 (Nat.le_of_ble_eq_true rfl) (Nat.le_of_ble_eq_true rfl) ht
    · have ht := ht.2 c7
      refine ab_aload_n (i := 0) dX12_wordOf_69 rfl rfl ?_
      refine ab_getR (b := 87) f_X12_30 rfl (sh_k hs 82 12 (by decide) rfl) (sh_r hs 103 rfl) dX12_wordOf_70 ?_
      refine ab_iload (i := 4) dX12_wordOf_73 rfl ?_
      refine ab_iload (i := 7) dX12_wordOf_75 rfl ?_
      refine ab_iadd dX12_wordOf_77 ?_
      obtain ⟨hc9, ht⟩ := ht
      refine ab_bald (sh_k hs 87 13 (by decide) rfl) hc9 dX12_wordOf_78 ?_
      refine ab_aload_n (i := 0) dX12_wordOf_79 rfl rfl ?_
      refine ab_getR (b := 88) f_X12_34 rfl (sh_k hs 82 12 (by decide) rfl) (sh_r hs 104 rfl) dX12_wordOf_80 ?_
      refine ab_iload_n (i := 1) dX12_wordOf_83 rfl rfl ?_
      refine ab_iload (i := 7) dX12_wordOf_84 rfl ?_
      refine ab_iadd dX12_wordOf_86 ?_
      obtain ⟨hc10, ht⟩ := ht
      refine ab_bald (sh_k hs 88 13 (by decide) rfl) hc10 dX12_wordOf_87 ?_
      refine ab_icmp_ne (tgt := 95) dX12_wordOf_88 (by decide) (fun c11 => ?_) (fun c11 => ?_)
      · have ht := ht.1 c11
        refine ab_iconst (v := 0) dX12_wordOf_95 (by decide) ?_
        refine ab_istore (i := 6) (L' := [some (.ref 82), some (.int x1), some (.int x2), some (.int x3), some (.int x4), some (.int x5), some (.int 0), some (.int x7)]) dX12_wordOf_96 (by exact (Nat.le_of_ble_eq_true rfl)) rfl rfl ?_
        refine ab_iinc (i := 7) (x := x7) (v := (x7 + 1)) (L' := [some (.ref 82), some (.int x1), some (.int x2), some (.int x3), some (.int x4), some (.int x5), some (.int 0), some (.int (x7 + 1))]) dX12_wordOf_98 rfl rfl (by exact (Nat.le_of_ble_eq_true rfl)) rfl rfl ?_
        refine ab_goto (tgt := 57) dX12_wordOf_101 (by decide) ?_
        exact Wp.fewer (L' := [some (.ref 82), some (.int x1), some (.int x2), some (.int x3), some (.int x4), some (.int x5), some (.int 0), some (.int (x7 + 1))]) (show ab_leL _ _ from ⟨rfl, ⟨rfl, ⟨rfl, ⟨rfl, ⟨rfl, ⟨rfl, ⟨rfl, ⟨rfl, trivial⟩⟩⟩⟩⟩⟩⟩⟩) ht
      · have ht := ht.2 c11
        refine ab_iconst (v := 1) dX12_wordOf_91 (by decide) ?_
        refine ab_goto (tgt := 96) dX12_wordOf_92 (by decide) ?_
        refine ab_istore (i := 6) (L' := [some (.ref 82), some (.int x1), some (.int x2), some (.int x3), some (.int x4), some (.int x5), some (.int 1), some (.int x7)]) dX12_wordOf_96 (by exact (Nat.le_of_ble_eq_true rfl)) rfl rfl ?_
        refine ab_iinc (i := 7) (x := x7) (v := (x7 + 1)) (L' := [some (.ref 82), some (.int x1), some (.int x2), some (.int x3), some (.int x4), some (.int x5), some (.int 1), some (.int (x7 + 1))]) dX12_wordOf_98 rfl rfl (by exact (Nat.le_of_ble_eq_true rfl)) rfl rfl ?_
        refine ab_goto (tgt := 57) dX12_wordOf_101 (by decide) ?_
        exact Wp.fewer (L' := [some (.ref 82), some (.int x1), some (.int x2), some (.int x3), some (.int x4), some (.int x5), some (.int 1), some (.int (x7 + 1))]) (show ab_leL _ _ from ⟨rfl, ⟨rfl, ⟨rfl, ⟨rfl, ⟨rfl, ⟨rfl, ⟨rfl, ⟨rfl, trivial⟩⟩⟩⟩⟩⟩⟩⟩) ht
set_option maxRecDepth 20000 in
theorem T_X12_wordOf {Q : Option Value → ah_T → Prop} {h : ah_T} (hs : Sh h) (x1 : Int32) (x2 : Int32) (ht : Wp mX12_wordOf Q 0 0 5 [some (.ref 82), some (.int x1), some (.int x2), some (.int 1), some (.int 0), none, none, none] [] h) : Mt mX12_wordOf [.ref 82, .int x1, .int x2] h Q := by
  refine Mt.ofWp rfl (by exact (Nat.le_of_ble_eq_true rfl)) (Wp.fewer (L' := [some (.ref 82), some (.int x1), some (.int x2), none, none, none, none, none]) (show ab_leL _ _ from ⟨rfl, ⟨rfl, ⟨rfl, trivial⟩⟩⟩) ?_)
  refine ab_iconst (v := 1) dX12_wordOf_0 (by decide) ?_
  refine ab_istore_n (i := 3) (L' := [some (.ref 82), some (.int x1), some (.int x2), some (.int 1), none, none, none, none]) dX12_wordOf_1 rfl (by exact (Nat.le_of_ble_eq_true rfl)) rfl rfl ?_
  refine ab_iconst (v := 0) dX12_wordOf_2 (by decide) ?_
  refine ab_istore (i := 4) (L' := [some (.ref 82), some (.int x1), some (.int x2), some (.int 1), some (.int 0), none, none, none]) dX12_wordOf_3 (by exact (Nat.le_of_ble_eq_true rfl)) rfl rfl ?_
  exact Wp.fewer (L' := [some (.ref 82), some (.int x1), some (.int x2), some (.int 1), some (.int 0), none, none, none]) (show ab_leL _ _ from ⟨rfl, ⟨rfl, ⟨rfl, ⟨rfl, ⟨rfl, trivial⟩⟩⟩⟩⟩) ht
theorem dX12_splits_0 : decode cX12_splits 0 = .ok (.aload_n 0, 1) := by decide +kernel
theorem dX12_splits_1 : decode cX12_splits 1 = .ok (.iconst 0, 1) := by decide +kernel
theorem dX12_splits_2 : decode cX12_splits 2 = .ok (.putfield 220, 3) := by decide +kernel
theorem dX12_splits_5 : decode cX12_splits 5 = .ok (.iconst 0, 1) := by decide +kernel
theorem dX12_splits_6 : decode cX12_splits 6 = .ok (.istore_n 2, 1) := by decide +kernel
theorem dX12_splits_7 : decode cX12_splits 7 = .ok (.iload_n 2, 1) := by decide +kernel
theorem dX12_splits_8 : decode cX12_splits 8 = .ok (.iload_n 1, 1) := by decide +kernel
theorem dX12_splits_9 : decode cX12_splits 9 = .ok (.if_icmp .ge 254, 3) := by decide +kernel
theorem dX12_splits_12 : decode cX12_splits 12 = .ok (.aload_n 0, 1) := by decide +kernel
theorem dX12_splits_13 : decode cX12_splits 13 = .ok (.getfield 34, 3) := by decide +kernel
theorem dX12_splits_16 : decode cX12_splits 16 = .ok (.iload_n 2, 1) := by decide +kernel
theorem dX12_splits_17 : decode cX12_splits 17 = .ok (.baload, 1) := by decide +kernel
theorem dX12_splits_18 : decode cX12_splits 18 = .ok (.istore_n 3, 1) := by decide +kernel
theorem dX12_splits_19 : decode cX12_splits 19 = .ok (.iload_n 3, 1) := by decide +kernel
theorem dX12_splits_20 : decode cX12_splits 20 = .ok (.bipush 32, 2) := by decide +kernel
theorem dX12_splits_22 : decode cX12_splits 22 = .ok (.if_icmp .ne 9, 3) := by decide +kernel
theorem dX12_splits_25 : decode cX12_splits 25 = .ok (.iinc 2 1, 3) := by decide +kernel
theorem dX12_splits_28 : decode cX12_splits 28 = .ok (.goto (-21), 3) := by decide +kernel
theorem dX12_splits_31 : decode cX12_splits 31 = .ok (.iload_n 2, 1) := by decide +kernel
theorem dX12_splits_32 : decode cX12_splits 32 = .ok (.iconst 1, 1) := by decide +kernel
theorem dX12_splits_33 : decode cX12_splits 33 = .ok (.iadd, 1) := by decide +kernel
theorem dX12_splits_34 : decode cX12_splits 34 = .ok (.istore 4, 2) := by decide +kernel
theorem dX12_splits_36 : decode cX12_splits 36 = .ok (.iload_n 3, 1) := by decide +kernel
theorem dX12_splits_37 : decode cX12_splits 37 = .ok (.invokestatic 223, 3) := by decide +kernel
theorem dX12_splits_40 : decode cX12_splits 40 = .ok (.ifCond .eq 28, 3) := by decide +kernel
theorem dX12_splits_43 : decode cX12_splits 43 = .ok (.iload 4, 2) := by decide +kernel
theorem dX12_splits_45 : decode cX12_splits 45 = .ok (.iload_n 1, 1) := by decide +kernel
theorem dX12_splits_46 : decode cX12_splits 46 = .ok (.if_icmp .ge 22, 3) := by decide +kernel
theorem dX12_splits_49 : decode cX12_splits 49 = .ok (.aload_n 0, 1) := by decide +kernel
theorem dX12_splits_50 : decode cX12_splits 50 = .ok (.getfield 34, 3) := by decide +kernel
theorem dX12_splits_53 : decode cX12_splits 53 = .ok (.iload 4, 2) := by decide +kernel
theorem dX12_splits_55 : decode cX12_splits 55 = .ok (.baload, 1) := by decide +kernel
theorem dX12_splits_56 : decode cX12_splits 56 = .ok (.invokestatic 223, 3) := by decide +kernel
theorem dX12_splits_59 : decode cX12_splits 59 = .ok (.ifCond .eq 9, 3) := by decide +kernel
theorem dX12_splits_62 : decode cX12_splits 62 = .ok (.iinc 4 1, 3) := by decide +kernel
theorem dX12_splits_65 : decode cX12_splits 65 = .ok (.goto (-22), 3) := by decide +kernel
theorem dX12_splits_68 : decode cX12_splits 68 = .ok (.iload_n 3, 1) := by decide +kernel
theorem dX12_splits_69 : decode cX12_splits 69 = .ok (.invokestatic 226, 3) := by decide +kernel
theorem dX12_splits_72 : decode cX12_splits 72 = .ok (.ifCond .eq 28, 3) := by decide +kernel
theorem dX12_splits_75 : decode cX12_splits 75 = .ok (.iload 4, 2) := by decide +kernel
theorem dX12_splits_77 : decode cX12_splits 77 = .ok (.iload_n 1, 1) := by decide +kernel
theorem dX12_splits_78 : decode cX12_splits 78 = .ok (.if_icmp .ge 22, 3) := by decide +kernel
theorem dX12_splits_81 : decode cX12_splits 81 = .ok (.aload_n 0, 1) := by decide +kernel
theorem dX12_splits_82 : decode cX12_splits 82 = .ok (.getfield 34, 3) := by decide +kernel
theorem dX12_splits_85 : decode cX12_splits 85 = .ok (.iload 4, 2) := by decide +kernel
theorem dX12_splits_87 : decode cX12_splits 87 = .ok (.baload, 1) := by decide +kernel
theorem dX12_splits_88 : decode cX12_splits 88 = .ok (.invokestatic 226, 3) := by decide +kernel
theorem dX12_splits_91 : decode cX12_splits 91 = .ok (.ifCond .eq 9, 3) := by decide +kernel
theorem dX12_splits_94 : decode cX12_splits 94 = .ok (.iinc 4 1, 3) := by decide +kernel
theorem dX12_splits_97 : decode cX12_splits 97 = .ok (.goto (-22), 3) := by decide +kernel
theorem dX12_splits_100 : decode cX12_splits 100 = .ok (.aload_n 0, 1) := by decide +kernel
theorem dX12_splits_101 : decode cX12_splits 101 = .ok (.getfield 49, 3) := by decide +kernel
theorem dX12_splits_104 : decode cX12_splits 104 = .ok (.aload_n 0, 1) := by decide +kernel
theorem dX12_splits_105 : decode cX12_splits 105 = .ok (.getfield 220, 3) := by decide +kernel
theorem dX12_splits_108 : decode cX12_splits 108 = .ok (.iload_n 2, 1) := by decide +kernel
theorem dX12_splits_109 : decode cX12_splits 109 = .ok (.iastore, 1) := by decide +kernel
theorem dX12_splits_110 : decode cX12_splits 110 = .ok (.aload_n 0, 1) := by decide +kernel
theorem dX12_splits_111 : decode cX12_splits 111 = .ok (.getfield 46, 3) := by decide +kernel
theorem dX12_splits_114 : decode cX12_splits 114 = .ok (.aload_n 0, 1) := by decide +kernel
theorem dX12_splits_115 : decode cX12_splits 115 = .ok (.getfield 220, 3) := by decide +kernel
theorem dX12_splits_118 : decode cX12_splits 118 = .ok (.iconst 0, 1) := by decide +kernel
theorem dX12_splits_119 : decode cX12_splits 119 = .ok (.iastore, 1) := by decide +kernel
theorem dX12_splits_120 : decode cX12_splits 120 = .ok (.aload_n 0, 1) := by decide +kernel
theorem dX12_splits_121 : decode cX12_splits 121 = .ok (.getfield 43, 3) := by decide +kernel
theorem dX12_splits_124 : decode cX12_splits 124 = .ok (.aload_n 0, 1) := by decide +kernel
theorem dX12_splits_125 : decode cX12_splits 125 = .ok (.getfield 220, 3) := by decide +kernel
theorem dX12_splits_128 : decode cX12_splits 128 = .ok (.iload_n 3, 1) := by decide +kernel
theorem dX12_splits_129 : decode cX12_splits 129 = .ok (.invokestatic 223, 3) := by decide +kernel
theorem dX12_splits_132 : decode cX12_splits 132 = .ok (.ifCond .eq 13, 3) := by decide +kernel
theorem dX12_splits_135 : decode cX12_splits 135 = .ok (.aload_n 0, 1) := by decide +kernel
theorem dX12_splits_136 : decode cX12_splits 136 = .ok (.iload_n 2, 1) := by decide +kernel
theorem dX12_splits_137 : decode cX12_splits 137 = .ok (.iload 4, 2) := by decide +kernel
theorem dX12_splits_139 : decode cX12_splits 139 = .ok (.invokevirtual 229, 3) := by decide +kernel
theorem dX12_splits_142 : decode cX12_splits 142 = .ok (.goto 23, 3) := by decide +kernel
theorem dX12_splits_145 : decode cX12_splits 145 = .ok (.iload_n 3, 1) := by decide +kernel
theorem dX12_splits_146 : decode cX12_splits 146 = .ok (.invokestatic 226, 3) := by decide +kernel
theorem dX12_splits_149 : decode cX12_splits 149 = .ok (.ifCond .eq 8, 3) := by decide +kernel
theorem dX12_splits_152 : decode cX12_splits 152 = .ok (.bipush 50, 2) := by decide +kernel
theorem dX12_splits_154 : decode cX12_splits 154 = .ok (.goto 11, 3) := by decide +kernel
theorem dX12_splits_157 : decode cX12_splits 157 = .ok (.bipush 100, 2) := by decide +kernel
theorem dX12_splits_159 : decode cX12_splits 159 = .ok (.iload_n 3, 1) := by decide +kernel
theorem dX12_splits_160 : decode cX12_splits 160 = .ok (.sipush 255, 3) := by decide +kernel
theorem dX12_splits_163 : decode cX12_splits 163 = .ok (.iand, 1) := by decide +kernel
theorem dX12_splits_164 : decode cX12_splits 164 = .ok (.iadd, 1) := by decide +kernel
theorem dX12_splits_165 : decode cX12_splits 165 = .ok (.iastore, 1) := by decide +kernel
theorem dX12_splits_166 : decode cX12_splits 166 = .ok (.iload_n 2, 1) := by decide +kernel
theorem dX12_splits_167 : decode cX12_splits 167 = .ok (.istore 5, 2) := by decide +kernel
theorem dX12_splits_169 : decode cX12_splits 169 = .ok (.iload 5, 2) := by decide +kernel
theorem dX12_splits_171 : decode cX12_splits 171 = .ok (.iload 4, 2) := by decide +kernel
theorem dX12_splits_173 : decode cX12_splits 173 = .ok (.if_icmp .ge 74, 3) := by decide +kernel
theorem dX12_splits_176 : decode cX12_splits 176 = .ok (.iload_n 3, 1) := by decide +kernel
theorem dX12_splits_177 : decode cX12_splits 177 = .ok (.invokestatic 226, 3) := by decide +kernel
theorem dX12_splits_180 : decode cX12_splits 180 = .ok (.ifCond .eq 67, 3) := by decide +kernel
theorem dX12_splits_183 : decode cX12_splits 183 = .ok (.aload_n 0, 1) := by decide +kernel
theorem dX12_splits_184 : decode cX12_splits 184 = .ok (.getfield 46, 3) := by decide +kernel
theorem dX12_splits_187 : decode cX12_splits 187 = .ok (.aload_n 0, 1) := by decide +kernel
theorem dX12_splits_188 : decode cX12_splits 188 = .ok (.getfield 220, 3) := by decide +kernel
theorem dX12_splits_191 : decode cX12_splits 191 = .ok (.aload_n 0, 1) := by decide +kernel
theorem dX12_splits_192 : decode cX12_splits 192 = .ok (.getfield 46, 3) := by decide +kernel
theorem dX12_splits_195 : decode cX12_splits 195 = .ok (.aload_n 0, 1) := by decide +kernel
theorem dX12_splits_196 : decode cX12_splits 196 = .ok (.getfield 220, 3) := by decide +kernel
theorem dX12_splits_199 : decode cX12_splits 199 = .ok (.iaload, 1) := by decide +kernel
theorem dX12_splits_200 : decode cX12_splits 200 = .ok (.ldc 232, 2) := by decide +kernel
theorem dX12_splits_202 : decode cX12_splits 202 = .ok (.if_icmp .le 15, 3) := by decide +kernel
theorem dX12_splits_205 : decode cX12_splits 205 = .ok (.aload_n 0, 1) := by decide +kernel
theorem dX12_splits_206 : decode cX12_splits 206 = .ok (.getfield 46, 3) := by decide +kernel
theorem dX12_splits_209 : decode cX12_splits 209 = .ok (.aload_n 0, 1) := by decide +kernel
theorem dX12_splits_210 : decode cX12_splits 210 = .ok (.getfield 220, 3) := by decide +kernel
theorem dX12_splits_213 : decode cX12_splits 213 = .ok (.iaload, 1) := by decide +kernel
theorem dX12_splits_214 : decode cX12_splits 214 = .ok (.goto 26, 3) := by decide +kernel
theorem dX12_splits_217 : decode cX12_splits 217 = .ok (.bipush 10, 2) := by decide +kernel
theorem dX12_splits_219 : decode cX12_splits 219 = .ok (.aload_n 0, 1) := by decide +kernel
theorem dX12_splits_220 : decode cX12_splits 220 = .ok (.getfield 46, 3) := by decide +kernel
theorem dX12_splits_223 : decode cX12_splits 223 = .ok (.aload_n 0, 1) := by decide +kernel
theorem dX12_splits_224 : decode cX12_splits 224 = .ok (.getfield 220, 3) := by decide +kernel
theorem dX12_splits_227 : decode cX12_splits 227 = .ok (.iaload, 1) := by decide +kernel
theorem dX12_splits_228 : decode cX12_splits 228 = .ok (.imul, 1) := by decide +kernel
theorem dX12_splits_229 : decode cX12_splits 229 = .ok (.aload_n 0, 1) := by decide +kernel
theorem dX12_splits_230 : decode cX12_splits 230 = .ok (.getfield 34, 3) := by decide +kernel
theorem dX12_splits_233 : decode cX12_splits 233 = .ok (.iload 5, 2) := by decide +kernel
theorem dX12_splits_235 : decode cX12_splits 235 = .ok (.baload, 1) := by decide +kernel
theorem dX12_splits_236 : decode cX12_splits 236 = .ok (.iadd, 1) := by decide +kernel
theorem dX12_splits_237 : decode cX12_splits 237 = .ok (.bipush 48, 2) := by decide +kernel
theorem dX12_splits_239 : decode cX12_splits 239 = .ok (.isub, 1) := by decide +kernel
theorem dX12_splits_240 : decode cX12_splits 240 = .ok (.iastore, 1) := by decide +kernel
theorem dX12_splits_241 : decode cX12_splits 241 = .ok (.iinc 5 1, 3) := by decide +kernel
theorem dX12_splits_244 : decode cX12_splits 244 = .ok (.goto (-75), 3) := by decide +kernel
theorem dX12_splits_247 : decode cX12_splits 247 = .ok (.aload_n 0, 1) := by decide +kernel
theorem dX12_splits_248 : decode cX12_splits 248 = .ok (.dup, 1) := by decide +kernel
theorem dX12_splits_249 : decode cX12_splits 249 = .ok (.getfield 220, 3) := by decide +kernel
theorem dX12_splits_252 : decode cX12_splits 252 = .ok (.iconst 1, 1) := by decide +kernel
theorem dX12_splits_253 : decode cX12_splits 253 = .ok (.iadd, 1) := by decide +kernel
theorem dX12_splits_254 : decode cX12_splits 254 = .ok (.putfield 220, 3) := by decide +kernel
theorem dX12_splits_257 : decode cX12_splits 257 = .ok (.iload 4, 2) := by decide +kernel
theorem dX12_splits_259 : decode cX12_splits 259 = .ok (.istore_n 2, 1) := by decide +kernel
theorem dX12_splits_260 : decode cX12_splits 260 = .ok (.goto (-253), 3) := by decide +kernel
theorem dX12_splits_263 : decode cX12_splits 263 = .ok (.aload_n 0, 1) := by decide +kernel
theorem dX12_splits_264 : decode cX12_splits 264 = .ok (.getfield 49, 3) := by decide +kernel
theorem dX12_splits_267 : decode cX12_splits 267 = .ok (.aload_n 0, 1) := by decide +kernel
theorem dX12_splits_268 : decode cX12_splits 268 = .ok (.getfield 220, 3) := by decide +kernel
theorem dX12_splits_271 : decode cX12_splits 271 = .ok (.iload_n 1, 1) := by decide +kernel
theorem dX12_splits_272 : decode cX12_splits 272 = .ok (.iastore, 1) := by decide +kernel
theorem dX12_splits_273 : decode cX12_splits 273 = .ok (.aload_n 0, 1) := by decide +kernel
theorem dX12_splits_274 : decode cX12_splits 274 = .ok (.getfield 43, 3) := by decide +kernel
theorem dX12_splits_277 : decode cX12_splits 277 = .ok (.aload_n 0, 1) := by decide +kernel
theorem dX12_splits_278 : decode cX12_splits 278 = .ok (.getfield 220, 3) := by decide +kernel
theorem dX12_splits_281 : decode cX12_splits 281 = .ok (.iconst 0, 1) := by decide +kernel
theorem dX12_splits_282 : decode cX12_splits 282 = .ok (.iastore, 1) := by decide +kernel
theorem dX12_splits_283 : decode cX12_splits 283 = .ok (.aload_n 0, 1) := by decide +kernel
theorem dX12_splits_284 : decode cX12_splits 284 = .ok (.getfield 46, 3) := by decide +kernel
theorem dX12_splits_287 : decode cX12_splits 287 = .ok (.aload_n 0, 1) := by decide +kernel
theorem dX12_splits_288 : decode cX12_splits 288 = .ok (.getfield 220, 3) := by decide +kernel
theorem dX12_splits_291 : decode cX12_splits 291 = .ok (.iconst 0, 1) := by decide +kernel
theorem dX12_splits_292 : decode cX12_splits 292 = .ok (.iastore, 1) := by decide +kernel
theorem dX12_splits_293 : decode cX12_splits 293 = .ok (.return_, 1) := by decide +kernel
set_option maxRecDepth 20000 in
theorem T_X12_splits_7 {Q : Option Value → ah_T → Prop} {h : ah_T} (hs : Sh h) (x1 : Int32) (x2 : Int32) (ht : ((x1 ≤ x2 → (vp_in (ah_i h 82 16) (ah_n h 92)) ∧ (∀ h6, h6 = ah_si h 92 (Int32.toNatClampNeg (ah_i h 82 16)) x1 → (vp_in (ah_i h6 82 16) (ah_n h6 90)) ∧ (∀ h10, h10 = ah_si h6 90 (Int32.toNatClampNeg (ah_i h6 82 16)) 0 → (vp_in (ah_i h10 82 16) (ah_n h10 91)) ∧ (∀ h14, h14 = ah_si h10 91 (Int32.toNatClampNeg (ah_i h10 82 16)) 0 → Q none h14)))) ∧ (¬ x1 ≤ x2 → (vp_in x2 (ah_n h 88)) ∧ ((¬ (ah_i h 88 (Int32.toNatClampNeg x2)) = 32 → (((f_X12_isSmall (ah_i h 88 (Int32.toNatClampNeg x2))) = 0 → Wp mX12_splits Q 0 0 68 [some (.ref 82), some (.int x1), some (.int x2), some (.int (ah_i h 88 (Int32.toNatClampNeg x2))), some (.int (x2 + 1)), none] [] h) ∧ (¬ (f_X12_isSmall (ah_i h 88 (Int32.toNatClampNeg x2))) = 0 → Wp mX12_splits Q 0 0 43 [some (.ref 82), some (.int x1), some (.int x2), some (.int (ah_i h 88 (Int32.toNatClampNeg x2))), some (.int (x2 + 1)), none] [] h))) ∧ ((ah_i h 88 (Int32.toNatClampNeg x2)) = 32 → Wp mX12_splits Q 0 0 7 [some (.ref 82), some (.int x1), some (.int (x2 + 1)), none, none, none] [] h))))) : Wp mX12_splits Q 0 0 7 [some (.ref 82), some (.int x1), some (.int x2), none, none, none] [] h := by
  refine ab_iload_n (i := 2) dX12_splits_7 rfl rfl ?_
  refine ab_iload_n (i := 1) dX12_splits_8 rfl rfl ?_
  refine ab_icmp_ge (tgt := 263) dX12_splits_9 (by decide) (fun c4 => ?_) (fun c4 => ?_)
  · have ht := ht.1 c4
    refine ab_aload_n (i := 0) dX12_splits_263 rfl rfl ?_
    refine ab_getR (b := 92) f_X12_49 rfl (sh_k hs 82 12 (by decide) rfl) (sh_r hs 108 rfl) dX12_splits_264 ?_
    refine ab_aload_n (i := 0) dX12_splits_267 rfl rfl ?_
    refine ab_getI f_X12_220 rfl (sh_k hs 82 12 (by decide) rfl) dX12_splits_268 ?_
    refine ab_iload_n (i := 1) dX12_splits_271 rfl rfl ?_
    obtain ⟨hc5, ht⟩ := ht
    refine ab_iast (sh_k hs 92 14 (by decide) rfl) hc5 dX12_splits_272 ?_
    refine Wp.nm fun h6 e7 => ?_
    have ht := ht h6 e7
    have hs8 : Sh h6 := by rw [e7]; exact sh_si hs
    refine ab_aload_n (i := 0) dX12_splits_273 rfl rfl ?_
    refine ab_getR (b := 90) f_X12_43 rfl (sh_k hs8 82 12 (by decide) rfl) (sh_r hs8 106 rfl) dX12_splits_274 ?_
    refine ab_aload_n (i := 0) dX12_splits_277 rfl rfl ?_
    refine ab_getI f_X12_220 rfl (sh_k hs8 82 12 (by decide) rfl) dX12_splits_278 ?_
    refine ab_iconst (v := 0) dX12_splits_281 (by decide) ?_
    obtain ⟨hc9, ht⟩ := ht
    refine ab_iast (sh_k hs8 90 14 (by decide) rfl) hc9 dX12_splits_282 ?_
    refine Wp.nm fun h10 e11 => ?_
    have ht := ht h10 e11
    have hs12 : Sh h10 := by rw [e11]; exact sh_si hs8
    refine ab_aload_n (i := 0) dX12_splits_283 rfl rfl ?_
    refine ab_getR (b := 91) f_X12_46 rfl (sh_k hs12 82 12 (by decide) rfl) (sh_r hs12 107 rfl) dX12_splits_284 ?_
    refine ab_aload_n (i := 0) dX12_splits_287 rfl rfl ?_
    refine ab_getI f_X12_220 rfl (sh_k hs12 82 12 (by decide) rfl) dX12_splits_288 ?_
    refine ab_iconst (v := 0) dX12_splits_291 (by decide) ?_
    obtain ⟨hc13, ht⟩ := ht
    refine ab_iast (sh_k hs12 91 14 (by decide) rfl) hc13 dX12_splits_292 ?_
    refine Wp.nm fun h14 e15 => ?_
    have ht := ht h14 e15
    have hs16 : Sh h14 := by rw [e15]; exact sh_si hs12
    exact ab_vret rfl dX12_splits_293 (Nat.le_of_ble_eq_true rfl) (Nat.le_of_ble_eq_true rfl) ht
  · have ht := ht.2 c4
    refine ab_aload_n (i := 0) dX12_splits_12 rfl rfl ?_
    refine ab_getR (b := 88) f_X12_34 rfl (sh_k hs 82 12 (by decide) rfl) (sh_r hs 104 rfl) dX12_splits_13 ?_
    refine ab_iload_n (i := 2) dX12_splits_16 rfl rfl ?_
    obtain ⟨hc17, ht⟩ := ht
    refine ab_bald (sh_k hs 88 13 (by decide) rfl) hc17 dX12_splits_17 ?_
    refine ab_istore_n (i := 3) (L' := [some (.ref 82), some (.int x1), some (.int x2), some (.int (ah_i h 88 (Int32.toNatClampNeg x2))), none, none]) dX12_splits_18 rfl (by exact (Nat.le_of_ble_eq_true rfl)) rfl rfl ?_
    refine ab_iload_n (i := 3) dX12_splits_19 rfl rfl ?_
    refine ab_bipush (v := 32) dX12_splits_20 (by decide) ?_
    refine ab_icmp_ne (tgt := 31) dX12_splits_22 (by decide) (fun c18 => ?_) (fun c18 => ?_)
    · have ht := ht.1 c18
      refine ab_iload_n (i := 2) dX12_splits_31 rfl rfl ?_
      refine ab_iconst (v := 1) dX12_splits_32 (by decide) ?_
      refine ab_iadd dX12_splits_33 ?_
      refine ab_istore (i := 4) (L' := [some (.ref 82), some (.int x1), some (.int x2), some (.int (ah_i h 88 (Int32.toNatClampNeg x2))), some (.int (x2 + 1)), none]) dX12_splits_34 (by exact (Nat.le_of_ble_eq_true rfl)) rfl rfl ?_
      refine ab_iload_n (i := 3) dX12_splits_36 rfl rfl ?_
      refine ab_callS (Q' := fun r h' => r = some (.int (f_X12_isSmall (ah_i h 88 (Int32.toNatClampNeg x2)))) ∧ h = h') (As := [.int (ah_i h 88 (Int32.toNatClampNeg x2))]) (c_X12_isSmall hs (ah_i h 88 (Int32.toNatClampNeg x2)) ⟨rfl, rfl⟩) (Y_X12_isSmall) l_X12_223 st_X12_isSmall rfl ⟨(Nat.le_of_ble_eq_true rfl), (Nat.le_of_ble_eq_true rfl), (Nat.le_of_ble_eq_true rfl), (Nat.le_of_ble_eq_true rfl)⟩ dX12_splits_37 ?_
      rintro _ _ ⟨rfl, rfl⟩
      refine ab_if_eq (tgt := 68) dX12_splits_40 (by decide) (fun c19 => ?_) (fun c19 => ?_)
      · have ht := ht.1 c19
        exact Wp.fewer (L' := [some (.ref 82), some (.int x1), some (.int x2), some (.int (ah_i h 88 (Int32.toNatClampNeg x2))), some (.int (x2 + 1)), none]) (show ab_leL _ _ from ⟨rfl, ⟨rfl, ⟨rfl, ⟨rfl, ⟨rfl, trivial⟩⟩⟩⟩⟩) ht
      · have ht := ht.2 c19
        exact Wp.fewer (L' := [some (.ref 82), some (.int x1), some (.int x2), some (.int (ah_i h 88 (Int32.toNatClampNeg x2))), some (.int (x2 + 1)), none]) (show ab_leL _ _ from ⟨rfl, ⟨rfl, ⟨rfl, ⟨rfl, ⟨rfl, trivial⟩⟩⟩⟩⟩) ht
    · have ht := ht.2 c18
      refine ab_iinc (i := 2) (x := x2) (v := (x2 + 1)) (L' := [some (.ref 82), some (.int x1), some (.int (x2 + 1)), some (.int (ah_i h 88 (Int32.toNatClampNeg x2))), none, none]) dX12_splits_25 rfl rfl (by exact (Nat.le_of_ble_eq_true rfl)) rfl rfl ?_
      refine ab_goto (tgt := 7) dX12_splits_28 (by decide) ?_
      exact Wp.fewer (L' := [some (.ref 82), some (.int x1), some (.int (x2 + 1)), none, none, none]) (show ab_leL _ _ from ⟨rfl, ⟨rfl, ⟨rfl, trivial⟩⟩⟩) ht
set_option maxRecDepth 20000 in
theorem T_X12_splits_68 {Q : Option Value → ah_T → Prop} {h : ah_T} (hs : Sh h) (x1 : Int32) (x2 : Int32) (x3 : Int32) (x4 : Int32) (ht : (((f_X12_isDigit x3) = 0 → Wp mX12_splits Q 0 0 100 [some (.ref 82), some (.int x1), some (.int x2), some (.int x3), some (.int x4), none] [] h) ∧ (¬ (f_X12_isDigit x3) = 0 → Wp mX12_splits Q 0 0 75 [some (.ref 82), some (.int x1), some (.int x2), some (.int x3), some (.int x4), none] [] h))) : Wp mX12_splits Q 0 0 68 [some (.ref 82), some (.int x1), some (.int x2), some (.int x3), some (.int x4), none] [] h := by
  refine ab_iload_n (i := 3) dX12_splits_68 rfl rfl ?_
  refine ab_callS (Q' := fun r h' => r = some (.int (f_X12_isDigit x3)) ∧ h = h') (As := [.int x3]) (c_X12_isDigit hs x3 ⟨rfl, rfl⟩) (Y_X12_isDigit) l_X12_226 st_X12_isDigit rfl ⟨(Nat.le_of_ble_eq_true rfl), (Nat.le_of_ble_eq_true rfl), (Nat.le_of_ble_eq_true rfl), (Nat.le_of_ble_eq_true rfl)⟩ dX12_splits_69 ?_
  rintro _ _ ⟨rfl, rfl⟩
  refine ab_if_eq (tgt := 100) dX12_splits_72 (by decide) (fun c20 => ?_) (fun c20 => ?_)
  · have ht := ht.1 c20
    exact Wp.fewer (L' := [some (.ref 82), some (.int x1), some (.int x2), some (.int x3), some (.int x4), none]) (show ab_leL _ _ from ⟨rfl, ⟨rfl, ⟨rfl, ⟨rfl, ⟨rfl, trivial⟩⟩⟩⟩⟩) ht
  · have ht := ht.2 c20
    exact Wp.fewer (L' := [some (.ref 82), some (.int x1), some (.int x2), some (.int x3), some (.int x4), none]) (show ab_leL _ _ from ⟨rfl, ⟨rfl, ⟨rfl, ⟨rfl, ⟨rfl, trivial⟩⟩⟩⟩⟩) ht
set_option maxRecDepth 20000 in
theorem T_X12_splits_43 {Q : Option Value → ah_T → Prop} {h : ah_T} (hs : Sh h) (x1 : Int32) (x2 : Int32) (x3 : Int32) (x4 : Int32) (ht : ((x1 ≤ x4 → Wp mX12_splits Q 0 0 68 [some (.ref 82), some (.int x1), some (.int x2), some (.int x3), some (.int x4), none] [] h) ∧ (¬ x1 ≤ x4 → (vp_in x4 (ah_n h 88)) ∧ (((f_X12_isSmall (ah_i h 88 (Int32.toNatClampNeg x4))) = 0 → Wp mX12_splits Q 0 0 68 [some (.ref 82), some (.int x1), some (.int x2), some (.int x3), some (.int x4), none] [] h) ∧ (¬ (f_X12_isSmall (ah_i h 88 (Int32.toNatClampNeg x4))) = 0 → Wp mX12_splits Q 0 0 43 [some (.ref 82), some (.int x1), some (.int x2), some (.int x3), some (.int (x4 + 1)), none] [] h))))) : Wp mX12_splits Q 0 0 43 [some (.ref 82), some (.int x1), some (.int x2), some (.int x3), some (.int x4), none] [] h := by
  refine ab_iload (i := 4) dX12_splits_43 rfl ?_
  refine ab_iload_n (i := 1) dX12_splits_45 rfl rfl ?_
  refine ab_icmp_ge (tgt := 68) dX12_splits_46 (by decide) (fun c21 => ?_) (fun c21 => ?_)
  · have ht := ht.1 c21
    exact Wp.fewer (L' := [some (.ref 82), some (.int x1), some (.int x2), some (.int x3), some (.int x4), none]) (show ab_leL _ _ from ⟨rfl, ⟨rfl, ⟨rfl, ⟨rfl, ⟨rfl, trivial⟩⟩⟩⟩⟩) ht
  · have ht := ht.2 c21
    refine ab_aload_n (i := 0) dX12_splits_49 rfl rfl ?_
    refine ab_getR (b := 88) f_X12_34 rfl (sh_k hs 82 12 (by decide) rfl) (sh_r hs 104 rfl) dX12_splits_50 ?_
    refine ab_iload (i := 4) dX12_splits_53 rfl ?_
    obtain ⟨hc22, ht⟩ := ht
    refine ab_bald (sh_k hs 88 13 (by decide) rfl) hc22 dX12_splits_55 ?_
    refine ab_callS (Q' := fun r h' => r = some (.int (f_X12_isSmall (ah_i h 88 (Int32.toNatClampNeg x4)))) ∧ h = h') (As := [.int (ah_i h 88 (Int32.toNatClampNeg x4))]) (c_X12_isSmall hs (ah_i h 88 (Int32.toNatClampNeg x4)) ⟨rfl, rfl⟩) (Y_X12_isSmall) l_X12_223 st_X12_isSmall rfl ⟨(Nat.le_of_ble_eq_true rfl), (Nat.le_of_ble_eq_true rfl), (Nat.le_of_ble_eq_true rfl), (Nat.le_of_ble_eq_true rfl)⟩ dX12_splits_56 ?_
    rintro _ _ ⟨rfl, rfl⟩
    refine ab_if_eq (tgt := 68) dX12_splits_59 (by decide) (fun c23 => ?_) (fun c23 => ?_)
    · have ht := ht.1 c23
      exact Wp.fewer (L' := [some (.ref 82), some (.int x1), some (.int x2), some (.int x3), some (.int x4), none]) (show ab_leL _ _ from ⟨rfl, ⟨rfl, ⟨rfl, ⟨rfl, ⟨rfl, trivial⟩⟩⟩⟩⟩) ht
    · have ht := ht.2 c23
      refine ab_iinc (i := 4) (x := x4) (v := (x4 + 1)) (L' := [some (.ref 82), some (.int x1), some (.int x2), some (.int x3), some (.int (x4 + 1)), none]) dX12_splits_62 rfl rfl (by exact (Nat.le_of_ble_eq_true rfl)) rfl rfl ?_
      refine ab_goto (tgt := 43) dX12_splits_65 (by decide) ?_
      exact Wp.fewer (L' := [some (.ref 82), some (.int x1), some (.int x2), some (.int x3), some (.int (x4 + 1)), none]) (show ab_leL _ _ from ⟨rfl, ⟨rfl, ⟨rfl, ⟨rfl, ⟨rfl, trivial⟩⟩⟩⟩⟩) ht
set_option maxRecDepth 20000 in
theorem T_X12_splits_100 {Q : Option Value → ah_T → Prop} {h : ah_T} (hs : Sh h) (x1 : Int32) (x2 : Int32) (x3 : Int32) (x4 : Int32) (ht : (vp_in (ah_i h 82 16) (ah_n h 92)) ∧ (∀ h25, h25 = ah_si h 92 (Int32.toNatClampNeg (ah_i h 82 16)) x2 → (vp_in (ah_i h25 82 16) (ah_n h25 91)) ∧ (∀ h29, h29 = ah_si h25 91 (Int32.toNatClampNeg (ah_i h25 82 16)) 0 → (((f_X12_isSmall x3) = 0 → (((f_X12_isDigit x3) = 0 → (vp_in (ah_i h29 82 16) (ah_n h29 90)) ∧ (∀ h35, h35 = ah_si h29 90 (Int32.toNatClampNeg (ah_i h29 82 16)) (100 + (x3 &&& 255)) → Wp mX12_splits Q 0 0 169 [some (.ref 82), some (.int x1), none, some (.int x3), some (.int x4), some (.int x2)] [] h35)) ∧ (¬ (f_X12_isDigit x3) = 0 → (vp_in (ah_i h29 82 16) (ah_n h29 90)) ∧ (∀ h39, h39 = ah_si h29 90 (Int32.toNatClampNeg (ah_i h29 82 16)) 50 → Wp mX12_splits Q 0 0 169 [some (.ref 82), some (.int x1), none, some (.int x3), some (.int x4), some (.int x2)] [] h39)))) ∧ (¬ (f_X12_isSmall x3) = 0 → (Mt mX12_wordOf [.ref 82, .int x2, .int x4] h29 (ab_qi fun v44 h42 => Sh h42 ∧ (vp_in (ah_i h29 82 16) (ah_n h42 90)) ∧ (∀ h46, h46 = ah_si h42 90 (Int32.toNatClampNeg (ah_i h29 82 16)) v44 → Wp mX12_splits Q 0 0 169 [some (.ref 82), some (.int x1), none, some (.int x3), some (.int x4), some (.int x2)] [] h46)))))))) : Wp mX12_splits Q 0 0 100 [some (.ref 82), some (.int x1), some (.int x2), some (.int x3), some (.int x4), none] [] h := by
  refine ab_aload_n (i := 0) dX12_splits_100 rfl rfl ?_
  refine ab_getR (b := 92) f_X12_49 rfl (sh_k hs 82 12 (by decide) rfl) (sh_r hs 108 rfl) dX12_splits_101 ?_
  refine ab_aload_n (i := 0) dX12_splits_104 rfl rfl ?_
  refine ab_getI f_X12_220 rfl (sh_k hs 82 12 (by decide) rfl) dX12_splits_105 ?_
  refine ab_iload_n (i := 2) dX12_splits_108 rfl rfl ?_
  obtain ⟨hc24, ht⟩ := ht
  refine ab_iast (sh_k hs 92 14 (by decide) rfl) hc24 dX12_splits_109 ?_
  refine Wp.nm fun h25 e26 => ?_
  have ht := ht h25 e26
  have hs27 : Sh h25 := by rw [e26]; exact sh_si hs
  refine ab_aload_n (i := 0) dX12_splits_110 rfl rfl ?_
  refine ab_getR (b := 91) f_X12_46 rfl (sh_k hs27 82 12 (by decide) rfl) (sh_r hs27 107 rfl) dX12_splits_111 ?_
  refine ab_aload_n (i := 0) dX12_splits_114 rfl rfl ?_
  refine ab_getI f_X12_220 rfl (sh_k hs27 82 12 (by decide) rfl) dX12_splits_115 ?_
  refine ab_iconst (v := 0) dX12_splits_118 (by decide) ?_
  obtain ⟨hc28, ht⟩ := ht
  refine ab_iast (sh_k hs27 91 14 (by decide) rfl) hc28 dX12_splits_119 ?_
  refine Wp.nm fun h29 e30 => ?_
  have ht := ht h29 e30
  have hs31 : Sh h29 := by rw [e30]; exact sh_si hs27
  refine ab_aload_n (i := 0) dX12_splits_120 rfl rfl ?_
  refine ab_getR (b := 90) f_X12_43 rfl (sh_k hs31 82 12 (by decide) rfl) (sh_r hs31 106 rfl) dX12_splits_121 ?_
  refine ab_aload_n (i := 0) dX12_splits_124 rfl rfl ?_
  refine ab_getI f_X12_220 rfl (sh_k hs31 82 12 (by decide) rfl) dX12_splits_125 ?_
  refine ab_iload_n (i := 3) dX12_splits_128 rfl rfl ?_
  refine ab_callS (Q' := fun r h' => r = some (.int (f_X12_isSmall x3)) ∧ h29 = h') (As := [.int x3]) (c_X12_isSmall hs31 x3 ⟨rfl, rfl⟩) (Y_X12_isSmall) l_X12_223 st_X12_isSmall rfl ⟨(Nat.le_of_ble_eq_true rfl), (Nat.le_of_ble_eq_true rfl), (Nat.le_of_ble_eq_true rfl), (Nat.le_of_ble_eq_true rfl)⟩ dX12_splits_129 ?_
  rintro _ _ ⟨rfl, rfl⟩
  refine ab_if_eq (tgt := 145) dX12_splits_132 (by decide) (fun c32 => ?_) (fun c32 => ?_)
  · have ht := ht.1 c32
    refine ab_iload_n (i := 3) dX12_splits_145 rfl rfl ?_
    refine ab_callS (Q' := fun r h' => r = some (.int (f_X12_isDigit x3)) ∧ h29 = h') (As := [.int x3]) (c_X12_isDigit hs31 x3 ⟨rfl, rfl⟩) (Y_X12_isDigit) l_X12_226 st_X12_isDigit rfl ⟨(Nat.le_of_ble_eq_true rfl), (Nat.le_of_ble_eq_true rfl), (Nat.le_of_ble_eq_true rfl), (Nat.le_of_ble_eq_true rfl)⟩ dX12_splits_146 ?_
    rintro _ _ ⟨rfl, rfl⟩
    refine ab_if_eq (tgt := 157) dX12_splits_149 (by decide) (fun c33 => ?_) (fun c33 => ?_)
    · have ht := ht.1 c33
      refine ab_bipush (v := 100) dX12_splits_157 (by decide) ?_
      refine ab_iload_n (i := 3) dX12_splits_159 rfl rfl ?_
      refine ab_sipush (v := 255) dX12_splits_160 (by decide) ?_
      refine ab_iand dX12_splits_163 ?_
      refine ab_iadd dX12_splits_164 ?_
      obtain ⟨hc34, ht⟩ := ht
      refine ab_iast (sh_k hs31 90 14 (by decide) rfl) hc34 dX12_splits_165 ?_
      refine Wp.nm fun h35 e36 => ?_
      have ht := ht h35 e36
      have hs37 : Sh h35 := by rw [e36]; exact sh_si hs31
      refine ab_iload_n (i := 2) dX12_splits_166 rfl rfl ?_
      refine ab_istore (i := 5) (L' := [some (.ref 82), some (.int x1), some (.int x2), some (.int x3), some (.int x4), some (.int x2)]) dX12_splits_167 (by exact (Nat.le_of_ble_eq_true rfl)) rfl rfl ?_
      exact Wp.fewer (L' := [some (.ref 82), some (.int x1), none, some (.int x3), some (.int x4), some (.int x2)]) (show ab_leL _ _ from ⟨rfl, ⟨rfl, ⟨rfl, ⟨rfl, ⟨rfl, trivial⟩⟩⟩⟩⟩) ht
    · have ht := ht.2 c33
      refine ab_bipush (v := 50) dX12_splits_152 (by decide) ?_
      refine ab_goto (tgt := 165) dX12_splits_154 (by decide) ?_
      obtain ⟨hc38, ht⟩ := ht
      refine ab_iast (sh_k hs31 90 14 (by decide) rfl) hc38 dX12_splits_165 ?_
      refine Wp.nm fun h39 e40 => ?_
      have ht := ht h39 e40
      have hs41 : Sh h39 := by rw [e40]; exact sh_si hs31
      refine ab_iload_n (i := 2) dX12_splits_166 rfl rfl ?_
      refine ab_istore (i := 5) (L' := [some (.ref 82), some (.int x1), some (.int x2), some (.int x3), some (.int x4), some (.int x2)]) dX12_splits_167 (by exact (Nat.le_of_ble_eq_true rfl)) rfl rfl ?_
      exact Wp.fewer (L' := [some (.ref 82), some (.int x1), none, some (.int x3), some (.int x4), some (.int x2)]) (show ab_leL _ _ from ⟨rfl, ⟨rfl, ⟨rfl, ⟨rfl, ⟨rfl, trivial⟩⟩⟩⟩⟩) ht
  · have ht := ht.2 c32
    refine ab_aload_n (i := 0) dX12_splits_135 rfl rfl ?_
    refine ab_iload_n (i := 2) dX12_splits_136 rfl rfl ?_
    refine ab_iload (i := 4) dX12_splits_137 rfl ?_
    refine ab_callV (b := 82) (As := [.int x2, .int x4]) ht (Y_X12_wordOf) l_X12_229 in_X12_wordOf se_X12_wordOf (sh_k hs31 82 12 (by decide) rfl) (by decide) rfl rfl ⟨(Nat.le_of_ble_eq_true rfl), (Nat.le_of_ble_eq_true rfl), (Nat.le_of_ble_eq_true rfl), (Nat.le_of_ble_eq_true rfl)⟩ dX12_splits_139 ?_
    rintro _ h42 ⟨v44, rfl, hs43, ht⟩
    refine ab_goto (tgt := 165) dX12_splits_142 (by decide) ?_
    obtain ⟨hc45, ht⟩ := ht
    refine ab_iast (sh_k hs43 90 14 (by decide) rfl) hc45 dX12_splits_165 ?_
    refine Wp.nm fun h46 e47 => ?_
    have ht := ht h46 e47
    have hs48 : Sh h46 := by rw [e47]; exact sh_si hs43
    refine ab_iload_n (i := 2) dX12_splits_166 rfl rfl ?_
    refine ab_istore (i := 5) (L' := [some (.ref 82), some (.int x1), some (.int x2), some (.int x3), some (.int x4), some (.int x2)]) dX12_splits_167 (by exact (Nat.le_of_ble_eq_true rfl)) rfl rfl ?_
    exact Wp.fewer (L' := [some (.ref 82), some (.int x1), none, some (.int x3), some (.int x4), some (.int x2)]) (show ab_leL _ _ from ⟨rfl, ⟨rfl, ⟨rfl, ⟨rfl, ⟨rfl, trivial⟩⟩⟩⟩⟩) ht
set_option maxRecDepth 20000 in
theorem T_X12_splits_75 {Q : Option Value → ah_T → Prop} {h : ah_T} (hs : Sh h) (x1 : Int32) (x2 : Int32) (x3 : Int32) (x4 : Int32) (ht : ((x1 ≤ x4 → Wp mX12_splits Q 0 0 100 [some (.ref 82), some (.int x1), some (.int x2), some (.int x3), some (.int x4), none] [] h) ∧ (¬ x1 ≤ x4 → (vp_in x4 (ah_n h 88)) ∧ (((f_X12_isDigit (ah_i h 88 (Int32.toNatClampNeg x4))) = 0 → Wp mX12_splits Q 0 0 100 [some (.ref 82), some (.int x1), some (.int x2), some (.int x3), some (.int x4), none] [] h) ∧ (¬ (f_X12_isDigit (ah_i h 88 (Int32.toNatClampNeg x4))) = 0 → Wp mX12_splits Q 0 0 75 [some (.ref 82), some (.int x1), some (.int x2), some (.int x3), some (.int (x4 + 1)), none] [] h))))) : Wp mX12_splits Q 0 0 75 [some (.ref 82), some (.int x1), some (.int x2), some (.int x3), some (.int x4), none] [] h := by
  refine ab_iload (i := 4) dX12_splits_75 rfl ?_
  refine ab_iload_n (i := 1) dX12_splits_77 rfl rfl ?_
  refine ab_icmp_ge (tgt := 100) dX12_splits_78 (by decide) (fun c49 => ?_) (fun c49 => ?_)
  · have ht := ht.1 c49
    exact Wp.fewer (L' := [some (.ref 82), some (.int x1), some (.int x2), some (.int x3), some (.int x4), none]) (show ab_leL _ _ from ⟨rfl, ⟨rfl, ⟨rfl, ⟨rfl, ⟨rfl, trivial⟩⟩⟩⟩⟩) ht
  · have ht := ht.2 c49
    refine ab_aload_n (i := 0) dX12_splits_81 rfl rfl ?_
    refine ab_getR (b := 88) f_X12_34 rfl (sh_k hs 82 12 (by decide) rfl) (sh_r hs 104 rfl) dX12_splits_82 ?_
    refine ab_iload (i := 4) dX12_splits_85 rfl ?_
    obtain ⟨hc50, ht⟩ := ht
    refine ab_bald (sh_k hs 88 13 (by decide) rfl) hc50 dX12_splits_87 ?_
    refine ab_callS (Q' := fun r h' => r = some (.int (f_X12_isDigit (ah_i h 88 (Int32.toNatClampNeg x4)))) ∧ h = h') (As := [.int (ah_i h 88 (Int32.toNatClampNeg x4))]) (c_X12_isDigit hs (ah_i h 88 (Int32.toNatClampNeg x4)) ⟨rfl, rfl⟩) (Y_X12_isDigit) l_X12_226 st_X12_isDigit rfl ⟨(Nat.le_of_ble_eq_true rfl), (Nat.le_of_ble_eq_true rfl), (Nat.le_of_ble_eq_true rfl), (Nat.le_of_ble_eq_true rfl)⟩ dX12_splits_88 ?_
    rintro _ _ ⟨rfl, rfl⟩
    refine ab_if_eq (tgt := 100) dX12_splits_91 (by decide) (fun c51 => ?_) (fun c51 => ?_)
    · have ht := ht.1 c51
      exact Wp.fewer (L' := [some (.ref 82), some (.int x1), some (.int x2), some (.int x3), some (.int x4), none]) (show ab_leL _ _ from ⟨rfl, ⟨rfl, ⟨rfl, ⟨rfl, ⟨rfl, trivial⟩⟩⟩⟩⟩) ht
    · have ht := ht.2 c51
      refine ab_iinc (i := 4) (x := x4) (v := (x4 + 1)) (L' := [some (.ref 82), some (.int x1), some (.int x2), some (.int x3), some (.int (x4 + 1)), none]) dX12_splits_94 rfl rfl (by exact (Nat.le_of_ble_eq_true rfl)) rfl rfl ?_
      refine ab_goto (tgt := 75) dX12_splits_97 (by decide) ?_
      exact Wp.fewer (L' := [some (.ref 82), some (.int x1), some (.int x2), some (.int x3), some (.int (x4 + 1)), none]) (show ab_leL _ _ from ⟨rfl, ⟨rfl, ⟨rfl, ⟨rfl, ⟨rfl, trivial⟩⟩⟩⟩⟩) ht
set_option maxRecDepth 20000 in
theorem T_X12_splits_169 {Q : Option Value → ah_T → Prop} {h : ah_T} (hs : Sh h) (x1 : Int32) (x3 : Int32) (x4 : Int32) (x5 : Int32) (ht : ((x4 ≤ x5 → Wp mX12_splits Q 0 0 247 [some (.ref 82), some (.int x1), none, none, some (.int x4), none] [] h) ∧ (¬ x4 ≤ x5 → (((f_X12_isDigit x3) = 0 → Wp mX12_splits Q 0 0 247 [some (.ref 82), some (.int x1), none, none, some (.int x4), none] [] h) ∧ (¬ (f_X12_isDigit x3) = 0 → (vp_in (ah_i h 82 16) (ah_n h 91)) ∧ (((ah_i h 91 (Int32.toNatClampNeg (ah_i h 82 16))) ≤ 1000000 → (vp_in (ah_i h 82 16) (ah_n h 91)) ∧ (vp_in x5 (ah_n h 88)) ∧ (vp_in (ah_i h 82 16) (ah_n h 91)) ∧ (∀ h59, h59 = ah_si h 91 (Int32.toNatClampNeg (ah_i h 82 16)) (((10 * (ah_i h 91 (Int32.toNatClampNeg (ah_i h 82 16)))) + (ah_i h 88 (Int32.toNatClampNeg x5))) - 48) → Wp mX12_splits Q 0 0 169 [some (.ref 82), some (.int x1), none, some (.int x3), some (.int x4), some (.int (x5 + 1))] [] h59)) ∧ (¬ (ah_i h 91 (Int32.toNatClampNeg (ah_i h 82 16))) ≤ 1000000 → (vp_in (ah_i h 82 16) (ah_n h 91)) ∧ (vp_in (ah_i h 82 16) (ah_n h 91)) ∧ (∀ h64, h64 = ah_si h 91 (Int32.toNatClampNeg (ah_i h 82 16)) (ah_i h 91 (Int32.toNatClampNeg (ah_i h 82 16))) → Wp mX12_splits Q 0 0 169 [some (.ref 82), some (.int x1), none, some (.int x3), some (.int x4), some (.int (x5 + 1))] [] h64)))))))) : Wp mX12_splits Q 0 0 169 [some (.ref 82), some (.int x1), none, some (.int x3), some (.int x4), some (.int x5)] [] h := by
  refine ab_iload (i := 5) dX12_splits_169 rfl ?_
  refine ab_iload (i := 4) dX12_splits_171 rfl ?_
  refine ab_icmp_ge (tgt := 247) dX12_splits_173 (by decide) (fun c52 => ?_) (fun c52 => ?_)
  · have ht := ht.1 c52
    exact Wp.fewer (L' := [some (.ref 82), some (.int x1), none, none, some (.int x4), none]) (show ab_leL _ _ from ⟨rfl, ⟨rfl, ⟨rfl, trivial⟩⟩⟩) ht
  · have ht := ht.2 c52
    refine ab_iload_n (i := 3) dX12_splits_176 rfl rfl ?_
    refine ab_callS (Q' := fun r h' => r = some (.int (f_X12_isDigit x3)) ∧ h = h') (As := [.int x3]) (c_X12_isDigit hs x3 ⟨rfl, rfl⟩) (Y_X12_isDigit) l_X12_226 st_X12_isDigit rfl ⟨(Nat.le_of_ble_eq_true rfl), (Nat.le_of_ble_eq_true rfl), (Nat.le_of_ble_eq_true rfl), (Nat.le_of_ble_eq_true rfl)⟩ dX12_splits_177 ?_
    rintro _ _ ⟨rfl, rfl⟩
    refine ab_if_eq (tgt := 247) dX12_splits_180 (by decide) (fun c53 => ?_) (fun c53 => ?_)
    · have ht := ht.1 c53
      exact Wp.fewer (L' := [some (.ref 82), some (.int x1), none, none, some (.int x4), none]) (show ab_leL _ _ from ⟨rfl, ⟨rfl, ⟨rfl, trivial⟩⟩⟩) ht
    · have ht := ht.2 c53
      refine ab_aload_n (i := 0) dX12_splits_183 rfl rfl ?_
      refine ab_getR (b := 91) f_X12_46 rfl (sh_k hs 82 12 (by decide) rfl) (sh_r hs 107 rfl) dX12_splits_184 ?_
      refine ab_aload_n (i := 0) dX12_splits_187 rfl rfl ?_
      refine ab_getI f_X12_220 rfl (sh_k hs 82 12 (by decide) rfl) dX12_splits_188 ?_
      refine ab_aload_n (i := 0) dX12_splits_191 rfl rfl ?_
      refine ab_getR (b := 91) f_X12_46 rfl (sh_k hs 82 12 (by decide) rfl) (sh_r hs 107 rfl) dX12_splits_192 ?_
      refine ab_aload_n (i := 0) dX12_splits_195 rfl rfl ?_
      refine ab_getI f_X12_220 rfl (sh_k hs 82 12 (by decide) rfl) dX12_splits_196 ?_
      obtain ⟨hc54, ht⟩ := ht
      refine ab_iald (sh_k hs 91 14 (by decide) rfl) hc54 dX12_splits_199 ?_
      refine ab_ldc (v := 1000000) (tb_8 (List.mem_of_getElem? (i := 138) (by decide +kernel)) rfl) dX12_splits_200 ?_
      refine ab_icmp_le (tgt := 217) dX12_splits_202 (by decide) (fun c55 => ?_) (fun c55 => ?_)
      · have ht := ht.1 c55
        refine ab_bipush (v := 10) dX12_splits_217 (by decide) ?_
        refine ab_aload_n (i := 0) dX12_splits_219 rfl rfl ?_
        refine ab_getR (b := 91) f_X12_46 rfl (sh_k hs 82 12 (by decide) rfl) (sh_r hs 107 rfl) dX12_splits_220 ?_
        refine ab_aload_n (i := 0) dX12_splits_223 rfl rfl ?_
        refine ab_getI f_X12_220 rfl (sh_k hs 82 12 (by decide) rfl) dX12_splits_224 ?_
        obtain ⟨hc56, ht⟩ := ht
        refine ab_iald (sh_k hs 91 14 (by decide) rfl) hc56 dX12_splits_227 ?_
        refine ab_imul dX12_splits_228 ?_
        refine ab_aload_n (i := 0) dX12_splits_229 rfl rfl ?_
        refine ab_getR (b := 88) f_X12_34 rfl (sh_k hs 82 12 (by decide) rfl) (sh_r hs 104 rfl) dX12_splits_230 ?_
        refine ab_iload (i := 5) dX12_splits_233 rfl ?_
        obtain ⟨hc57, ht⟩ := ht
        refine ab_bald (sh_k hs 88 13 (by decide) rfl) hc57 dX12_splits_235 ?_
        refine ab_iadd dX12_splits_236 ?_
        refine ab_bipush (v := 48) dX12_splits_237 (by decide) ?_
        refine ab_isub dX12_splits_239 ?_
        obtain ⟨hc58, ht⟩ := ht
        refine ab_iast (sh_k hs 91 14 (by decide) rfl) hc58 dX12_splits_240 ?_
        refine Wp.nm fun h59 e60 => ?_
        have ht := ht h59 e60
        have hs61 : Sh h59 := by rw [e60]; exact sh_si hs
        refine ab_iinc (i := 5) (x := x5) (v := (x5 + 1)) (L' := [some (.ref 82), some (.int x1), none, some (.int x3), some (.int x4), some (.int (x5 + 1))]) dX12_splits_241 rfl rfl (by exact (Nat.le_of_ble_eq_true rfl)) rfl rfl ?_
        refine ab_goto (tgt := 169) dX12_splits_244 (by decide) ?_
        exact Wp.fewer (L' := [some (.ref 82), some (.int x1), none, some (.int x3), some (.int x4), some (.int (x5 + 1))]) (show ab_leL _ _ from ⟨rfl, ⟨rfl, ⟨rfl, ⟨rfl, ⟨rfl, trivial⟩⟩⟩⟩⟩) ht
      · have ht := ht.2 c55
        refine ab_aload_n (i := 0) dX12_splits_205 rfl rfl ?_
        refine ab_getR (b := 91) f_X12_46 rfl (sh_k hs 82 12 (by decide) rfl) (sh_r hs 107 rfl) dX12_splits_206 ?_
        refine ab_aload_n (i := 0) dX12_splits_209 rfl rfl ?_
        refine ab_getI f_X12_220 rfl (sh_k hs 82 12 (by decide) rfl) dX12_splits_210 ?_
        obtain ⟨hc62, ht⟩ := ht
        refine ab_iald (sh_k hs 91 14 (by decide) rfl) hc62 dX12_splits_213 ?_
        refine ab_goto (tgt := 240) dX12_splits_214 (by decide) ?_
        obtain ⟨hc63, ht⟩ := ht
        refine ab_iast (sh_k hs 91 14 (by decide) rfl) hc63 dX12_splits_240 ?_
        refine Wp.nm fun h64 e65 => ?_
        have ht := ht h64 e65
        have hs66 : Sh h64 := by rw [e65]; exact sh_si hs
        refine ab_iinc (i := 5) (x := x5) (v := (x5 + 1)) (L' := [some (.ref 82), some (.int x1), none, some (.int x3), some (.int x4), some (.int (x5 + 1))]) dX12_splits_241 rfl rfl (by exact (Nat.le_of_ble_eq_true rfl)) rfl rfl ?_
        refine ab_goto (tgt := 169) dX12_splits_244 (by decide) ?_
        exact Wp.fewer (L' := [some (.ref 82), some (.int x1), none, some (.int x3), some (.int x4), some (.int (x5 + 1))]) (show ab_leL _ _ from ⟨rfl, ⟨rfl, ⟨rfl, ⟨rfl, ⟨rfl, trivial⟩⟩⟩⟩⟩) ht
set_option maxRecDepth 20000 in
theorem T_X12_splits_247 {Q : Option Value → ah_T → Prop} {h : ah_T} (hs : Sh h) (x1 : Int32) (x4 : Int32) (ht : (∀ h67, h67 = ah_si h 82 16 ((ah_i h 82 16) + 1) → Wp mX12_splits Q 0 0 7 [some (.ref 82), some (.int x1), some (.int x4), none, none, none] [] h67)) : Wp mX12_splits Q 0 0 247 [some (.ref 82), some (.int x1), none, none, some (.int x4), none] [] h := by
  refine ab_aload_n (i := 0) dX12_splits_247 rfl rfl ?_
  refine ab_dup dX12_splits_248 rfl ?_
  refine ab_getI f_X12_220 rfl (sh_k hs 82 12 (by decide) rfl) dX12_splits_249 ?_
  refine ab_iconst (v := 1) dX12_splits_252 (by decide) ?_
  refine ab_iadd dX12_splits_253 ?_
  refine ab_putI f_X12_220 (Or.inl rfl) rfl (sh_k hs 82 12 (by decide) rfl) rfl rfl dX12_splits_254 ?_
  refine Wp.nm fun h67 e68 => ?_
  have ht := ht h67 e68
  have hs69 : Sh h67 := by rw [e68]; exact sh_si hs
  refine ab_iload (i := 4) dX12_splits_257 rfl ?_
  refine ab_istore_n (i := 2) (L' := [some (.ref 82), some (.int x1), some (.int x4), none, some (.int x4), none]) dX12_splits_259 rfl (by exact (Nat.le_of_ble_eq_true rfl)) rfl rfl ?_
  refine ab_goto (tgt := 7) dX12_splits_260 (by decide) ?_
  exact Wp.fewer (L' := [some (.ref 82), some (.int x1), some (.int x4), none, none, none]) (show ab_leL _ _ from ⟨rfl, ⟨rfl, ⟨rfl, trivial⟩⟩⟩) ht
set_option maxRecDepth 20000 in
theorem T_X12_splits {Q : Option Value → ah_T → Prop} {h : ah_T} (hs : Sh h) (x1 : Int32) (ht : (∀ h1, h1 = ah_si h 82 16 0 → Wp mX12_splits Q 0 0 7 [some (.ref 82), some (.int x1), some (.int 0), none, none, none] [] h1)) : Mt mX12_splits [.ref 82, .int x1] h Q := by
  refine Mt.ofWp rfl (by exact (Nat.le_of_ble_eq_true rfl)) (Wp.fewer (L' := [some (.ref 82), some (.int x1), none, none, none, none]) (show ab_leL _ _ from ⟨rfl, ⟨rfl, trivial⟩⟩) ?_)
  refine ab_aload_n (i := 0) dX12_splits_0 rfl rfl ?_
  refine ab_iconst (v := 0) dX12_splits_1 (by decide) ?_
  refine ab_putI f_X12_220 (Or.inl rfl) rfl (sh_k hs 82 12 (by decide) rfl) rfl rfl dX12_splits_2 ?_
  refine Wp.nm fun h1 e2 => ?_
  have ht := ht h1 e2
  have hs3 : Sh h1 := by rw [e2]; exact sh_si hs
  refine ab_iconst (v := 0) dX12_splits_5 (by decide) ?_
  refine ab_istore_n (i := 2) (L' := [some (.ref 82), some (.int x1), some (.int 0), none, none, none]) dX12_splits_6 rfl (by exact (Nat.le_of_ble_eq_true rfl)) rfl rfl ?_
  exact Wp.fewer (L' := [some (.ref 82), some (.int x1), some (.int 0), none, none, none]) (show ab_leL _ _ from ⟨rfl, ⟨rfl, ⟨rfl, trivial⟩⟩⟩) ht
