/-! ===== blocks of methods (printed by wip/whole/mkall.py) ===== -/
theorem dX0_forget_0 : decode cX0_forget 0 = .ok (.aload_n 0, 1) := by decide +kernel
theorem dX0_forget_1 : decode cX0_forget 1 = .ok (.iconst 0, 1) := by decide +kernel
theorem dX0_forget_2 : decode cX0_forget 2 = .ok (.putfield 28, 3) := by decide +kernel
theorem dX0_forget_5 : decode cX0_forget 5 = .ok (.aload_n 0, 1) := by decide +kernel
theorem dX0_forget_6 : decode cX0_forget 6 = .ok (.getfield 35, 3) := by decide +kernel
theorem dX0_forget_9 : decode cX0_forget 9 = .ok (.iconst 0, 1) := by decide +kernel
theorem dX0_forget_10 : decode cX0_forget 10 = .ok (.iconst (-1), 1) := by decide +kernel
theorem dX0_forget_11 : decode cX0_forget 11 = .ok (.iastore, 1) := by decide +kernel
theorem dX0_forget_12 : decode cX0_forget 12 = .ok (.return_, 1) := by decide +kernel
set_option maxRecDepth 20000 in
theorem T_X0_forget {Q : Option Value → ah_T → Prop} {h : ah_T} (hs : Sh h)  (ht : (∀ h1, h1 = ah_si h 54 9 0 → (∀ h4, h4 = ah_si h1 60 (Int32.toNatClampNeg 0) (-1) → Q none h4))) : Mt mX0_forget [.ref 54] h Q := by
  refine Mt.ofWp rfl (by exact (Nat.le_of_ble_eq_true rfl)) (Wp.fewer (L' := [some (.ref 54)]) (show ab_leL _ _ from ⟨rfl, trivial⟩) ?_)
  refine ab_aload_n (i := 0) dX0_forget_0 rfl rfl ?_
  refine ab_iconst (v := 0) dX0_forget_1 (by decide) ?_
  refine ab_putI f_X0_28 (Or.inl rfl) rfl (sh_k hs 54 0 (by decide) rfl) rfl rfl dX0_forget_2 ?_
  refine Wp.nm fun h1 e2 => ?_
  have ht := ht h1 e2
  have hs3 : Sh h1 := by rw [e2]; exact sh_si hs
  refine ab_aload_n (i := 0) dX0_forget_5 rfl rfl ?_
  refine ab_getR (b := 60) f_X0_35 rfl (sh_k hs3 54 0 (by decide) rfl) (sh_r hs3 72 rfl) dX0_forget_6 ?_
  refine ab_iconst (v := 0) dX0_forget_9 (by decide) ?_
  refine ab_iconst (v := (-1)) dX0_forget_10 (by decide) ?_
  refine ab_iast (sh_k hs3 60 14 (by decide) rfl) (sh_in hs3 60 4 (by decide) (by decide) rfl (by unfold vp_in; decide)) dX0_forget_11 ?_
  refine Wp.nm fun h4 e5 => ?_
  have ht := ht h4 e5
  have hs6 : Sh h4 := by rw [e5]; exact sh_si hs3
  exact ab_vret rfl dX0_forget_12 (Nat.le_of_ble_eq_true rfl) (Nat.le_of_ble_eq_true rfl) ht
theorem dX0_relate_0 : decode cX0_relate 0 = .ok (.aload_n 0, 1) := by decide +kernel
theorem dX0_relate_1 : decode cX0_relate 1 = .ok (.getfield 28, 3) := by decide +kernel
theorem dX0_relate_4 : decode cX0_relate 4 = .ok (.ifCond .eq 4, 3) := by decide +kernel
theorem dX0_relate_7 : decode cX0_relate 7 = .ok (.return_, 1) := by decide +kernel
theorem dX0_relate_8 : decode cX0_relate 8 = .ok (.aload_n 0, 1) := by decide +kernel
theorem dX0_relate_9 : decode cX0_relate 9 = .ok (.iconst 1, 1) := by decide +kernel
theorem dX0_relate_10 : decode cX0_relate 10 = .ok (.putfield 28, 3) := by decide +kernel
theorem dX0_relate_13 : decode cX0_relate 13 = .ok (.aload_n 0, 1) := by decide +kernel
theorem dX0_relate_14 : decode cX0_relate 14 = .ok (.getfield 32, 3) := by decide +kernel
theorem dX0_relate_17 : decode cX0_relate 17 = .ok (.iconst (-1), 1) := by decide +kernel
theorem dX0_relate_18 : decode cX0_relate 18 = .ok (.invokestatic 57, 3) := by decide +kernel
theorem dX0_relate_21 : decode cX0_relate 21 = .ok (.aload_n 0, 1) := by decide +kernel
theorem dX0_relate_22 : decode cX0_relate 22 = .ok (.getfield 53, 3) := by decide +kernel
theorem dX0_relate_25 : decode cX0_relate 25 = .ok (.invokevirtual 63, 3) := by decide +kernel
theorem dX0_relate_28 : decode cX0_relate 28 = .ok (.iconst 0, 1) := by decide +kernel
theorem dX0_relate_29 : decode cX0_relate 29 = .ok (.istore_n 1, 1) := by decide +kernel
theorem dX0_relate_30 : decode cX0_relate 30 = .ok (.iload_n 1, 1) := by decide +kernel
theorem dX0_relate_31 : decode cX0_relate 31 = .ok (.bipush 120, 2) := by decide +kernel
theorem dX0_relate_33 : decode cX0_relate 33 = .ok (.if_icmp .ge 57, 3) := by decide +kernel
theorem dX0_relate_36 : decode cX0_relate 36 = .ok (.aload_n 0, 1) := by decide +kernel
theorem dX0_relate_37 : decode cX0_relate 37 = .ok (.getfield 9, 3) := by decide +kernel
theorem dX0_relate_40 : decode cX0_relate 40 = .ok (.iload_n 1, 1) := by decide +kernel
theorem dX0_relate_41 : decode cX0_relate 41 = .ok (.aload_n 0, 1) := by decide +kernel
theorem dX0_relate_42 : decode cX0_relate 42 = .ok (.getfield 53, 3) := by decide +kernel
theorem dX0_relate_45 : decode cX0_relate 45 = .ok (.iload_n 1, 1) := by decide +kernel
theorem dX0_relate_46 : decode cX0_relate 46 = .ok (.invokevirtual 68, 3) := by decide +kernel
theorem dX0_relate_49 : decode cX0_relate 49 = .ok (.iastore, 1) := by decide +kernel
theorem dX0_relate_50 : decode cX0_relate 50 = .ok (.aload_n 0, 1) := by decide +kernel
theorem dX0_relate_51 : decode cX0_relate 51 = .ok (.getfield 15, 3) := by decide +kernel
theorem dX0_relate_54 : decode cX0_relate 54 = .ok (.iload_n 1, 1) := by decide +kernel
theorem dX0_relate_55 : decode cX0_relate 55 = .ok (.aload_n 0, 1) := by decide +kernel
theorem dX0_relate_56 : decode cX0_relate 56 = .ok (.getfield 53, 3) := by decide +kernel
theorem dX0_relate_59 : decode cX0_relate 59 = .ok (.getfield 72, 3) := by decide +kernel
theorem dX0_relate_62 : decode cX0_relate 62 = .ok (.iastore, 1) := by decide +kernel
theorem dX0_relate_63 : decode cX0_relate 63 = .ok (.aload_n 0, 1) := by decide +kernel
theorem dX0_relate_64 : decode cX0_relate 64 = .ok (.getfield 53, 3) := by decide +kernel
theorem dX0_relate_67 : decode cX0_relate 67 = .ok (.getfield 75, 3) := by decide +kernel
theorem dX0_relate_70 : decode cX0_relate 70 = .ok (.iconst 0, 1) := by decide +kernel
theorem dX0_relate_71 : decode cX0_relate 71 = .ok (.aload_n 0, 1) := by decide +kernel
theorem dX0_relate_72 : decode cX0_relate 72 = .ok (.getfield 18, 3) := by decide +kernel
theorem dX0_relate_75 : decode cX0_relate 75 = .ok (.iload_n 1, 1) := by decide +kernel
theorem dX0_relate_76 : decode cX0_relate 76 = .ok (.bipush 10, 2) := by decide +kernel
theorem dX0_relate_78 : decode cX0_relate 78 = .ok (.imul, 1) := by decide +kernel
theorem dX0_relate_79 : decode cX0_relate 79 = .ok (.bipush 10, 2) := by decide +kernel
theorem dX0_relate_81 : decode cX0_relate 81 = .ok (.invokestatic 76, 3) := by decide +kernel
theorem dX0_relate_84 : decode cX0_relate 84 = .ok (.iinc 1 1, 3) := by decide +kernel
theorem dX0_relate_87 : decode cX0_relate 87 = .ok (.goto (-57), 3) := by decide +kernel
theorem dX0_relate_90 : decode cX0_relate 90 = .ok (.return_, 1) := by decide +kernel
set_option maxRecDepth 20000 in
theorem T_X0_relate_30 {Q : Option Value → ah_T → Prop} {h : ah_T} (hs : Sh h) (x1 : Int32) (ht : ((120 ≤ x1 → Q none h) ∧ (¬ 120 ≤ x1 → (Mt mX3_step [.ref 43, .int x1] h (ab_qi fun v14 h12 => Sh h12 ∧ (vp_in x1 (ah_n h12 55)) ∧ (∀ h16, h16 = ah_si h12 55 (Int32.toNatClampNeg x1) v14 → (vp_in x1 (ah_n h16 56)) ∧ (∀ h20, h20 = ah_si h16 56 (Int32.toNatClampNeg x1) (ah_i h16 43 7) → (¬ (x1 * 10) < 0) ∧ ((Int32.toNatClampNeg 0) + (Int32.toNatClampNeg 10) ≤ ah_n h20 46) ∧ ((Int32.toNatClampNeg (x1 * 10)) + (Int32.toNatClampNeg 10) ≤ ah_n h20 57) ∧ (∀ h26, h26 = ah_sa h20 57 (va_cpy (ah_i h20 46) (ah_i h20 57) (Int32.toNatClampNeg 0) (Int32.toNatClampNeg (x1 * 10)) (Int32.toNatClampNeg 10)) → Wp mX0_relate Q 0 0 30 [some (.ref 54), some (.int (x1 + 1))] [] h26)))))))) : Wp mX0_relate Q 0 0 30 [some (.ref 54), some (.int x1)] [] h := by
  refine ab_iload_n (i := 1) dX0_relate_30 rfl rfl ?_
  refine ab_bipush (v := 120) dX0_relate_31 (by decide) ?_
  refine ab_icmp_ge (tgt := 90) dX0_relate_33 (by decide) (fun c11 => ?_) (fun c11 => ?_)
  · have ht := ht.1 c11
    exact ab_vret rfl dX0_relate_90 (Nat.le_of_ble_eq_true rfl) (Nat.le_of_ble_eq_true rfl) ht
  · have ht := ht.2 c11
    refine ab_aload_n (i := 0) dX0_relate_36 rfl rfl ?_
    refine ab_getR (b := 55) f_X0_9 rfl (sh_k hs 54 0 (by decide) rfl) (sh_r hs 63 rfl) dX0_relate_37 ?_
    refine ab_iload_n (i := 1) dX0_relate_40 rfl rfl ?_
    refine ab_aload_n (i := 0) dX0_relate_41 rfl rfl ?_
    refine ab_getR (b := 43) f_X0_53 rfl (sh_k hs 54 0 (by decide) rfl) (sh_r hs 70 rfl) dX0_relate_42 ?_
    refine ab_iload_n (i := 1) dX0_relate_45 rfl rfl ?_
    refine ab_callV (b := 43) (As := [.int x1]) ht (Y_X3_step) l_X0_68 in_X3_step se_X3_step (sh_k hs 43 3 (by decide) rfl) (by decide) rfl rfl ⟨(Nat.le_of_ble_eq_true rfl), (Nat.le_of_ble_eq_true rfl), (Nat.le_of_ble_eq_true rfl), (Nat.le_of_ble_eq_true rfl)⟩ dX0_relate_46 ?_
    rintro _ h12 ⟨v14, rfl, hs13, ht⟩
    obtain ⟨hc15, ht⟩ := ht
    refine ab_iast (sh_k hs13 55 14 (by decide) rfl) hc15 dX0_relate_49 ?_
    refine Wp.nm fun h16 e17 => ?_
    have ht := ht h16 e17
    have hs18 : Sh h16 := by rw [e17]; exact sh_si hs13
    refine ab_aload_n (i := 0) dX0_relate_50 rfl rfl ?_
    refine ab_getR (b := 56) f_X0_15 rfl (sh_k hs18 54 0 (by decide) rfl) (sh_r hs18 64 rfl) dX0_relate_51 ?_
    refine ab_iload_n (i := 1) dX0_relate_54 rfl rfl ?_
    refine ab_aload_n (i := 0) dX0_relate_55 rfl rfl ?_
    refine ab_getR (b := 43) f_X0_53 rfl (sh_k hs18 54 0 (by decide) rfl) (sh_r hs18 70 rfl) dX0_relate_56 ?_
    refine ab_getI f_X0_72 rfl (sh_k hs18 43 3 (by decide) rfl) dX0_relate_59 ?_
    obtain ⟨hc19, ht⟩ := ht
    refine ab_iast (sh_k hs18 56 14 (by decide) rfl) hc19 dX0_relate_62 ?_
    refine Wp.nm fun h20 e21 => ?_
    have ht := ht h20 e21
    have hs22 : Sh h20 := by rw [e21]; exact sh_si hs18
    refine ab_aload_n (i := 0) dX0_relate_63 rfl rfl ?_
    refine ab_getR (b := 43) f_X0_53 rfl (sh_k hs22 54 0 (by decide) rfl) (sh_r hs22 70 rfl) dX0_relate_64 ?_
    refine ab_getR (b := 46) f_X0_75 rfl (sh_k hs22 43 3 (by decide) rfl) (sh_r hs22 52 rfl) dX0_relate_67 ?_
    refine ab_iconst (v := 0) dX0_relate_70 (by decide) ?_
    refine ab_aload_n (i := 0) dX0_relate_71 rfl rfl ?_
    refine ab_getR (b := 57) f_X0_18 rfl (sh_k hs22 54 0 (by decide) rfl) (sh_r hs22 65 rfl) dX0_relate_72 ?_
    refine ab_iload_n (i := 1) dX0_relate_75 rfl rfl ?_
    refine ab_bipush (v := 10) dX0_relate_76 (by decide) ?_
    refine ab_imul dX0_relate_78 ?_
    refine ab_bipush (v := 10) dX0_relate_79 (by decide) ?_
    obtain ⟨hc23, ht⟩ := ht
    obtain ⟨hc24, ht⟩ := ht
    obtain ⟨hc25, ht⟩ := ht
    refine ab_copy (tb_5 (List.mem_of_getElem? (i := 128) (by decide +kernel)) rfl) na_copy st_copy in_sys (sh_k hs22 46 14 (by decide) rfl) (sh_k hs22 57 14 (by decide) rfl) (by decide) hc23 (by decide) hc24 hc25 (Nat.le_of_ble_eq_true rfl) (Nat.le_of_ble_eq_true rfl) dX0_relate_81 ?_
    refine Wp.nm fun h26 e27 => ?_
    have ht := ht h26 e27
    have hs28 : Sh h26 := by rw [e27]; exact sh_sa hs22
    refine ab_iinc (i := 1) (x := x1) (v := (x1 + 1)) (L' := [some (.ref 54), some (.int (x1 + 1))]) dX0_relate_84 rfl rfl (by exact (Nat.le_of_ble_eq_true rfl)) rfl rfl ?_
    refine ab_goto (tgt := 30) dX0_relate_87 (by decide) ?_
    exact Wp.fewer (L' := [some (.ref 54), some (.int (x1 + 1))]) (show ab_leL _ _ from ⟨rfl, ⟨rfl, trivial⟩⟩) ht
set_option maxRecDepth 20000 in
theorem T_X0_relate {Q : Option Value → ah_T → Prop} {h : ah_T} (hs : Sh h)  (ht : (((ah_i h 54 9) = 0 → (∀ h2, h2 = ah_si h 54 9 1 → (Mt mJ7_fill_53178 [.ref 59, .int (-1)] h2 (ab_qv fun h5 => Sh h5 ∧ (Mt mX3_restart [.ref 43] h5 (ab_qv fun h8 => Sh h8 ∧ Wp mX0_relate Q 0 0 30 [some (.ref 54), some (.int 0)] [] h8)))))) ∧ (¬ (ah_i h 54 9) = 0 → Q none h))) : Mt mX0_relate [.ref 54] h Q := by
  refine Mt.ofWp rfl (by exact (Nat.le_of_ble_eq_true rfl)) (Wp.fewer (L' := [some (.ref 54), none]) (show ab_leL _ _ from ⟨rfl, trivial⟩) ?_)
  refine ab_aload_n (i := 0) dX0_relate_0 rfl rfl ?_
  refine ab_getI f_X0_28 rfl (sh_k hs 54 0 (by decide) rfl) dX0_relate_1 ?_
  refine ab_if_eq (tgt := 8) dX0_relate_4 (by decide) (fun c1 => ?_) (fun c1 => ?_)
  · have ht := ht.1 c1
    refine ab_aload_n (i := 0) dX0_relate_8 rfl rfl ?_
    refine ab_iconst (v := 1) dX0_relate_9 (by decide) ?_
    refine ab_putI f_X0_28 (Or.inl rfl) rfl (sh_k hs 54 0 (by decide) rfl) rfl rfl dX0_relate_10 ?_
    refine Wp.nm fun h2 e3 => ?_
    have ht := ht h2 e3
    have hs4 : Sh h2 := by rw [e3]; exact sh_si hs
    refine ab_aload_n (i := 0) dX0_relate_13 rfl rfl ?_
    refine ab_getR (b := 59) f_X0_32 rfl (sh_k hs4 54 0 (by decide) rfl) (sh_r hs4 71 rfl) dX0_relate_14 ?_
    refine ab_iconst (v := (-1)) dX0_relate_17 (by decide) ?_
    refine ab_callS (As := [.ref 59, .int (-1)]) ht (Y_J7_fill_53178) l_X0_57 st_J7_fill_53178 rfl ⟨(Nat.le_of_ble_eq_true rfl), (Nat.le_of_ble_eq_true rfl), (Nat.le_of_ble_eq_true rfl), (Nat.le_of_ble_eq_true rfl)⟩ dX0_relate_18 ?_
    rintro _ h5 ⟨rfl, hs6, ht⟩
    refine ab_aload_n (i := 0) dX0_relate_21 rfl rfl ?_
    refine ab_getR (b := 43) f_X0_53 rfl (sh_k hs6 54 0 (by decide) rfl) (sh_r hs6 70 rfl) dX0_relate_22 ?_
    refine ab_callV (b := 43) (As := []) ht (Y_X3_restart) l_X0_63 in_X3_restart se_X3_restart (sh_k hs6 43 3 (by decide) rfl) (by decide) rfl rfl ⟨(Nat.le_of_ble_eq_true rfl), (Nat.le_of_ble_eq_true rfl), (Nat.le_of_ble_eq_true rfl), (Nat.le_of_ble_eq_true rfl)⟩ dX0_relate_25 ?_
    rintro _ h8 ⟨rfl, hs9, ht⟩
    refine ab_iconst (v := 0) dX0_relate_28 (by decide) ?_
    refine ab_istore_n (i := 1) (L' := [some (.ref 54), some (.int 0)]) dX0_relate_29 rfl (by exact (Nat.le_of_ble_eq_true rfl)) rfl rfl ?_
    exact Wp.fewer (L' := [some (.ref 54), some (.int 0)]) (show ab_leL _ _ from ⟨rfl, ⟨rfl, trivial⟩⟩) ht
  · have ht := ht.2 c1
    exact ab_vret rfl dX0_relate_7 (Nat.le_of_ble_eq_true rfl) (Nat.le_of_ble_eq_true rfl) ht
theorem dX0_lightAt_0 : decode cX0_lightAt 0 = .ok (.aload_n 0, 1) := by decide +kernel
theorem dX0_lightAt_1 : decode cX0_lightAt 1 = .ok (.getfield 32, 3) := by decide +kernel
theorem dX0_lightAt_4 : decode cX0_lightAt 4 = .ok (.iload_n 1, 1) := by decide +kernel
theorem dX0_lightAt_5 : decode cX0_lightAt 5 = .ok (.iaload, 1) := by decide +kernel
theorem dX0_lightAt_6 : decode cX0_lightAt 6 = .ok (.iconst (-1), 1) := by decide +kernel
theorem dX0_lightAt_7 : decode cX0_lightAt 7 = .ok (.if_icmp .ne 135, 3) := by decide +kernel
theorem dX0_lightAt_10 : decode cX0_lightAt 10 = .ok (.iconst 0, 1) := by decide +kernel
theorem dX0_lightAt_11 : decode cX0_lightAt 11 = .ok (.istore_n 2, 1) := by decide +kernel
theorem dX0_lightAt_12 : decode cX0_lightAt 12 = .ok (.iconst 0, 1) := by decide +kernel
theorem dX0_lightAt_13 : decode cX0_lightAt 13 = .ok (.istore_n 3, 1) := by decide +kernel
theorem dX0_lightAt_14 : decode cX0_lightAt 14 = .ok (.iload_n 3, 1) := by decide +kernel
theorem dX0_lightAt_15 : decode cX0_lightAt 15 = .ok (.aload_n 0, 1) := by decide +kernel
theorem dX0_lightAt_16 : decode cX0_lightAt 16 = .ok (.getfield 41, 3) := by decide +kernel
theorem dX0_lightAt_19 : decode cX0_lightAt 19 = .ok (.getfield 82, 3) := by decide +kernel
theorem dX0_lightAt_22 : decode cX0_lightAt 22 = .ok (.getfield 88, 3) := by decide +kernel
theorem dX0_lightAt_25 : decode cX0_lightAt 25 = .ok (.if_icmp .ge 49, 3) := by decide +kernel
theorem dX0_lightAt_28 : decode cX0_lightAt 28 = .ok (.aload_n 0, 1) := by decide +kernel
theorem dX0_lightAt_29 : decode cX0_lightAt 29 = .ok (.getfield 9, 3) := by decide +kernel
theorem dX0_lightAt_32 : decode cX0_lightAt 32 = .ok (.iload_n 1, 1) := by decide +kernel
theorem dX0_lightAt_33 : decode cX0_lightAt 33 = .ok (.iaload, 1) := by decide +kernel
theorem dX0_lightAt_34 : decode cX0_lightAt 34 = .ok (.iload_n 3, 1) := by decide +kernel
theorem dX0_lightAt_35 : decode cX0_lightAt 35 = .ok (.ishr, 1) := by decide +kernel
theorem dX0_lightAt_36 : decode cX0_lightAt 36 = .ok (.iconst 1, 1) := by decide +kernel
theorem dX0_lightAt_37 : decode cX0_lightAt 37 = .ok (.iand, 1) := by decide +kernel
theorem dX0_lightAt_38 : decode cX0_lightAt 38 = .ok (.ifCond .eq 30, 3) := by decide +kernel
theorem dX0_lightAt_41 : decode cX0_lightAt 41 = .ok (.iload_n 2, 1) := by decide +kernel
theorem dX0_lightAt_42 : decode cX0_lightAt 42 = .ok (.aload_n 0, 1) := by decide +kernel
theorem dX0_lightAt_43 : decode cX0_lightAt 43 = .ok (.iload_n 3, 1) := by decide +kernel
theorem dX0_lightAt_44 : decode cX0_lightAt 44 = .ok (.aload_n 0, 1) := by decide +kernel
theorem dX0_lightAt_45 : decode cX0_lightAt 45 = .ok (.getfield 53, 3) := by decide +kernel
theorem dX0_lightAt_48 : decode cX0_lightAt 48 = .ok (.getfield 93, 3) := by decide +kernel
theorem dX0_lightAt_51 : decode cX0_lightAt 51 = .ok (.iload_n 3, 1) := by decide +kernel
theorem dX0_lightAt_52 : decode cX0_lightAt 52 = .ok (.iaload, 1) := by decide +kernel
theorem dX0_lightAt_53 : decode cX0_lightAt 53 = .ok (.aload_n 0, 1) := by decide +kernel
theorem dX0_lightAt_54 : decode cX0_lightAt 54 = .ok (.getfield 53, 3) := by decide +kernel
theorem dX0_lightAt_57 : decode cX0_lightAt 57 = .ok (.getfield 96, 3) := by decide +kernel
theorem dX0_lightAt_60 : decode cX0_lightAt 60 = .ok (.iload_n 3, 1) := by decide +kernel
theorem dX0_lightAt_61 : decode cX0_lightAt 61 = .ok (.iaload, 1) := by decide +kernel
theorem dX0_lightAt_62 : decode cX0_lightAt 62 = .ok (.iload_n 1, 1) := by decide +kernel
theorem dX0_lightAt_63 : decode cX0_lightAt 63 = .ok (.invokevirtual 99, 3) := by decide +kernel
theorem dX0_lightAt_66 : decode cX0_lightAt 66 = .ok (.ior, 1) := by decide +kernel
theorem dX0_lightAt_67 : decode cX0_lightAt 67 = .ok (.istore_n 2, 1) := by decide +kernel
theorem dX0_lightAt_68 : decode cX0_lightAt 68 = .ok (.iinc 3 1, 3) := by decide +kernel
theorem dX0_lightAt_71 : decode cX0_lightAt 71 = .ok (.goto (-57), 3) := by decide +kernel
theorem dX0_lightAt_74 : decode cX0_lightAt 74 = .ok (.iconst 0, 1) := by decide +kernel
theorem dX0_lightAt_75 : decode cX0_lightAt 75 = .ok (.istore_n 3, 1) := by decide +kernel
theorem dX0_lightAt_76 : decode cX0_lightAt 76 = .ok (.iload_n 3, 1) := by decide +kernel
theorem dX0_lightAt_77 : decode cX0_lightAt 77 = .ok (.aload_n 0, 1) := by decide +kernel
theorem dX0_lightAt_78 : decode cX0_lightAt 78 = .ok (.getfield 53, 3) := by decide +kernel
theorem dX0_lightAt_81 : decode cX0_lightAt 81 = .ok (.getfield 103, 3) := by decide +kernel
theorem dX0_lightAt_84 : decode cX0_lightAt 84 = .ok (.if_icmp .ge 51, 3) := by decide +kernel
theorem dX0_lightAt_87 : decode cX0_lightAt 87 = .ok (.aload_n 0, 1) := by decide +kernel
theorem dX0_lightAt_88 : decode cX0_lightAt 88 = .ok (.getfield 53, 3) := by decide +kernel
theorem dX0_lightAt_91 : decode cX0_lightAt 91 = .ok (.getfield 106, 3) := by decide +kernel
theorem dX0_lightAt_94 : decode cX0_lightAt 94 = .ok (.iload_n 3, 1) := by decide +kernel
theorem dX0_lightAt_95 : decode cX0_lightAt 95 = .ok (.bipush 120, 2) := by decide +kernel
theorem dX0_lightAt_97 : decode cX0_lightAt 97 = .ok (.imul, 1) := by decide +kernel
theorem dX0_lightAt_98 : decode cX0_lightAt 98 = .ok (.iload_n 1, 1) := by decide +kernel
theorem dX0_lightAt_99 : decode cX0_lightAt 99 = .ok (.iadd, 1) := by decide +kernel
theorem dX0_lightAt_100 : decode cX0_lightAt 100 = .ok (.iaload, 1) := by decide +kernel
theorem dX0_lightAt_101 : decode cX0_lightAt 101 = .ok (.istore 4, 2) := by decide +kernel
theorem dX0_lightAt_103 : decode cX0_lightAt 103 = .ok (.iload 4, 2) := by decide +kernel
theorem dX0_lightAt_105 : decode cX0_lightAt 105 = .ok (.iconst (-1), 1) := by decide +kernel
theorem dX0_lightAt_106 : decode cX0_lightAt 106 = .ok (.if_icmp .eq 23, 3) := by decide +kernel
theorem dX0_lightAt_109 : decode cX0_lightAt 109 = .ok (.iload_n 2, 1) := by decide +kernel
theorem dX0_lightAt_110 : decode cX0_lightAt 110 = .ok (.aload_n 0, 1) := by decide +kernel
theorem dX0_lightAt_111 : decode cX0_lightAt 111 = .ok (.iconst (-1), 1) := by decide +kernel
theorem dX0_lightAt_112 : decode cX0_lightAt 112 = .ok (.aload_n 0, 1) := by decide +kernel
theorem dX0_lightAt_113 : decode cX0_lightAt 113 = .ok (.getfield 53, 3) := by decide +kernel
theorem dX0_lightAt_116 : decode cX0_lightAt 116 = .ok (.getfield 109, 3) := by decide +kernel
theorem dX0_lightAt_119 : decode cX0_lightAt 119 = .ok (.iload_n 3, 1) := by decide +kernel
theorem dX0_lightAt_120 : decode cX0_lightAt 120 = .ok (.iaload, 1) := by decide +kernel
theorem dX0_lightAt_121 : decode cX0_lightAt 121 = .ok (.iload 4, 2) := by decide +kernel
theorem dX0_lightAt_123 : decode cX0_lightAt 123 = .ok (.iload_n 1, 1) := by decide +kernel
theorem dX0_lightAt_124 : decode cX0_lightAt 124 = .ok (.invokevirtual 99, 3) := by decide +kernel
theorem dX0_lightAt_127 : decode cX0_lightAt 127 = .ok (.ior, 1) := by decide +kernel
theorem dX0_lightAt_128 : decode cX0_lightAt 128 = .ok (.istore_n 2, 1) := by decide +kernel
theorem dX0_lightAt_129 : decode cX0_lightAt 129 = .ok (.iinc 3 1, 3) := by decide +kernel
theorem dX0_lightAt_132 : decode cX0_lightAt 132 = .ok (.goto (-56), 3) := by decide +kernel
theorem dX0_lightAt_135 : decode cX0_lightAt 135 = .ok (.aload_n 0, 1) := by decide +kernel
theorem dX0_lightAt_136 : decode cX0_lightAt 136 = .ok (.getfield 32, 3) := by decide +kernel
theorem dX0_lightAt_139 : decode cX0_lightAt 139 = .ok (.iload_n 1, 1) := by decide +kernel
theorem dX0_lightAt_140 : decode cX0_lightAt 140 = .ok (.iload_n 2, 1) := by decide +kernel
theorem dX0_lightAt_141 : decode cX0_lightAt 141 = .ok (.iastore, 1) := by decide +kernel
theorem dX0_lightAt_142 : decode cX0_lightAt 142 = .ok (.aload_n 0, 1) := by decide +kernel
theorem dX0_lightAt_143 : decode cX0_lightAt 143 = .ok (.getfield 32, 3) := by decide +kernel
theorem dX0_lightAt_146 : decode cX0_lightAt 146 = .ok (.iload_n 1, 1) := by decide +kernel
theorem dX0_lightAt_147 : decode cX0_lightAt 147 = .ok (.iaload, 1) := by decide +kernel
theorem dX0_lightAt_148 : decode cX0_lightAt 148 = .ok (.ireturn, 1) := by decide +kernel
set_option maxRecDepth 20000 in
theorem T_X0_lightAt_14 {Q : Option Value → ah_T → Prop} {h : ah_T} (hs : Sh h) (x1 : Int32) (x2 : Int32) (x3 : Int32) (ht : (((ah_i h 4 3) ≤ x3 → Wp mX0_lightAt Q 0 0 76 [some (.ref 54), some (.int x1), some (.int x2), some (.int 0), none] [] h) ∧ (¬ (ah_i h 4 3) ≤ x3 → (vp_in x1 (ah_n h 55)) ∧ (((((ah_i h 55 (Int32.toNatClampNeg x1)) >>> (x3 &&& 31)) &&& 1) = 0 → Wp mX0_lightAt Q 0 0 14 [some (.ref 54), some (.int x1), some (.int x2), some (.int (x3 + 1)), none] [] h) ∧ (¬ (((ah_i h 55 (Int32.toNatClampNeg x1)) >>> (x3 &&& 31)) &&& 1) = 0 → (vp_in x3 (ah_n h 45)) ∧ (vp_in x3 (ah_n h 44)) ∧ (Mt mX0_shine [.ref 54, .int x3, .int (ah_i h 45 (Int32.toNatClampNeg x3)), .int (ah_i h 44 (Int32.toNatClampNeg x3)), .int x1] h (ab_qi fun v11 h9 => Sh h9 ∧ Wp mX0_lightAt Q 0 0 14 [some (.ref 54), some (.int x1), some (.int (x2 ||| v11)), some (.int (x3 + 1)), none] [] h9))))))) : Wp mX0_lightAt Q 0 0 14 [some (.ref 54), some (.int x1), some (.int x2), some (.int x3), none] [] h := by
  refine ab_iload_n (i := 3) dX0_lightAt_14 rfl rfl ?_
  refine ab_aload_n (i := 0) dX0_lightAt_15 rfl rfl ?_
  refine ab_getR (b := 1) f_X0_41 rfl (sh_k hs 54 0 (by decide) rfl) (sh_r hs 67 rfl) dX0_lightAt_16 ?_
  refine ab_getR (b := 4) f_X0_82 rfl (sh_k hs 1 10 (by decide) rfl) (sh_r hs 14 rfl) dX0_lightAt_19 ?_
  refine ab_getI f_X0_88 rfl (sh_k hs 4 7 (by decide) rfl) dX0_lightAt_22 ?_
  refine ab_icmp_ge (tgt := 74) dX0_lightAt_25 (by decide) (fun c4 => ?_) (fun c4 => ?_)
  · have ht := ht.1 c4
    refine ab_iconst (v := 0) dX0_lightAt_74 (by decide) ?_
    refine ab_istore_n (i := 3) (L' := [some (.ref 54), some (.int x1), some (.int x2), some (.int 0), none]) dX0_lightAt_75 rfl (by exact (Nat.le_of_ble_eq_true rfl)) rfl rfl ?_
    exact Wp.fewer (L' := [some (.ref 54), some (.int x1), some (.int x2), some (.int 0), none]) (show ab_leL _ _ from ⟨rfl, ⟨rfl, ⟨rfl, ⟨rfl, trivial⟩⟩⟩⟩) ht
  · have ht := ht.2 c4
    refine ab_aload_n (i := 0) dX0_lightAt_28 rfl rfl ?_
    refine ab_getR (b := 55) f_X0_9 rfl (sh_k hs 54 0 (by decide) rfl) (sh_r hs 63 rfl) dX0_lightAt_29 ?_
    refine ab_iload_n (i := 1) dX0_lightAt_32 rfl rfl ?_
    obtain ⟨hc5, ht⟩ := ht
    refine ab_iald (sh_k hs 55 14 (by decide) rfl) hc5 dX0_lightAt_33 ?_
    refine ab_iload_n (i := 3) dX0_lightAt_34 rfl rfl ?_
    refine ab_ishr dX0_lightAt_35 ?_
    refine ab_iconst (v := 1) dX0_lightAt_36 (by decide) ?_
    refine ab_iand dX0_lightAt_37 ?_
    refine ab_if_eq (tgt := 68) dX0_lightAt_38 (by decide) (fun c6 => ?_) (fun c6 => ?_)
    · have ht := ht.1 c6
      refine ab_iinc (i := 3) (x := x3) (v := (x3 + 1)) (L' := [some (.ref 54), some (.int x1), some (.int x2), some (.int (x3 + 1)), none]) dX0_lightAt_68 rfl rfl (by exact (Nat.le_of_ble_eq_true rfl)) rfl rfl ?_
      refine ab_goto (tgt := 14) dX0_lightAt_71 (by decide) ?_
      exact Wp.fewer (L' := [some (.ref 54), some (.int x1), some (.int x2), some (.int (x3 + 1)), none]) (show ab_leL _ _ from ⟨rfl, ⟨rfl, ⟨rfl, ⟨rfl, trivial⟩⟩⟩⟩) ht
    · have ht := ht.2 c6
      refine ab_iload_n (i := 2) dX0_lightAt_41 rfl rfl ?_
      refine ab_aload_n (i := 0) dX0_lightAt_42 rfl rfl ?_
      refine ab_iload_n (i := 3) dX0_lightAt_43 rfl rfl ?_
      refine ab_aload_n (i := 0) dX0_lightAt_44 rfl rfl ?_
      refine ab_getR (b := 43) f_X0_53 rfl (sh_k hs 54 0 (by decide) rfl) (sh_r hs 70 rfl) dX0_lightAt_45 ?_
      refine ab_getR (b := 45) f_X0_93 rfl (sh_k hs 43 3 (by decide) rfl) (sh_r hs 51 rfl) dX0_lightAt_48 ?_
      refine ab_iload_n (i := 3) dX0_lightAt_51 rfl rfl ?_
      obtain ⟨hc7, ht⟩ := ht
      refine ab_iald (sh_k hs 45 14 (by decide) rfl) hc7 dX0_lightAt_52 ?_
      refine ab_aload_n (i := 0) dX0_lightAt_53 rfl rfl ?_
      refine ab_getR (b := 43) f_X0_53 rfl (sh_k hs 54 0 (by decide) rfl) (sh_r hs 70 rfl) dX0_lightAt_54 ?_
      refine ab_getR (b := 44) f_X0_96 rfl (sh_k hs 43 3 (by decide) rfl) (sh_r hs 50 rfl) dX0_lightAt_57 ?_
      refine ab_iload_n (i := 3) dX0_lightAt_60 rfl rfl ?_
      obtain ⟨hc8, ht⟩ := ht
      refine ab_iald (sh_k hs 44 14 (by decide) rfl) hc8 dX0_lightAt_61 ?_
      refine ab_iload_n (i := 1) dX0_lightAt_62 rfl rfl ?_
      refine ab_callV (b := 54) (As := [.int x3, .int (ah_i h 45 (Int32.toNatClampNeg x3)), .int (ah_i h 44 (Int32.toNatClampNeg x3)), .int x1]) ht (Y_X0_shine) l_X0_99 in_X0_shine se_X0_shine (sh_k hs 54 0 (by decide) rfl) (by decide) rfl rfl ⟨(Nat.le_of_ble_eq_true rfl), (Nat.le_of_ble_eq_true rfl), (Nat.le_of_ble_eq_true rfl), (Nat.le_of_ble_eq_true rfl)⟩ dX0_lightAt_63 ?_
      rintro _ h9 ⟨v11, rfl, hs10, ht⟩
      refine ab_ior dX0_lightAt_66 ?_
      refine ab_istore_n (i := 2) (L' := [some (.ref 54), some (.int x1), some (.int (x2 ||| v11)), some (.int x3), none]) dX0_lightAt_67 rfl (by exact (Nat.le_of_ble_eq_true rfl)) rfl rfl ?_
      refine ab_iinc (i := 3) (x := x3) (v := (x3 + 1)) (L' := [some (.ref 54), some (.int x1), some (.int (x2 ||| v11)), some (.int (x3 + 1)), none]) dX0_lightAt_68 rfl rfl (by exact (Nat.le_of_ble_eq_true rfl)) rfl rfl ?_
      refine ab_goto (tgt := 14) dX0_lightAt_71 (by decide) ?_
      exact Wp.fewer (L' := [some (.ref 54), some (.int x1), some (.int (x2 ||| v11)), some (.int (x3 + 1)), none]) (show ab_leL _ _ from ⟨rfl, ⟨rfl, ⟨rfl, ⟨rfl, trivial⟩⟩⟩⟩) ht
set_option maxRecDepth 20000 in
theorem T_X0_lightAt_76 {Q : Option Value → ah_T → Prop} {h : ah_T} (hs : Sh h) (x1 : Int32) (x2 : Int32) (x3 : Int32) (ht : (((ah_i h 43 8) ≤ x3 → (vp_in x1 (ah_n h 59)) ∧ (∀ h14, h14 = ah_si h 59 (Int32.toNatClampNeg x1) x2 → (vp_in x1 (ah_n h14 59)) ∧ Q (some (.int (ah_i h14 59 (Int32.toNatClampNeg x1)))) h14)) ∧ (¬ (ah_i h 43 8) ≤ x3 → (vp_in ((x3 * 120) + x1) (ah_n h 49)) ∧ (((ah_i h 49 (Int32.toNatClampNeg ((x3 * 120) + x1))) = (-1) → Wp mX0_lightAt Q 0 0 76 [some (.ref 54), some (.int x1), some (.int x2), some (.int (x3 + 1)), none] [] h) ∧ (¬ (ah_i h 49 (Int32.toNatClampNeg ((x3 * 120) + x1))) = (-1) → (vp_in x3 (ah_n h 48)) ∧ (Mt mX0_shine [.ref 54, .int (-1), .int (ah_i h 48 (Int32.toNatClampNeg x3)), .int (ah_i h 49 (Int32.toNatClampNeg ((x3 * 120) + x1))), .int x1] h (ab_qi fun v23 h21 => Sh h21 ∧ Wp mX0_lightAt Q 0 0 76 [some (.ref 54), some (.int x1), some (.int (x2 ||| v23)), some (.int (x3 + 1)), none] [] h21))))))) : Wp mX0_lightAt Q 0 0 76 [some (.ref 54), some (.int x1), some (.int x2), some (.int x3), none] [] h := by
  refine ab_iload_n (i := 3) dX0_lightAt_76 rfl rfl ?_
  refine ab_aload_n (i := 0) dX0_lightAt_77 rfl rfl ?_
  refine ab_getR (b := 43) f_X0_53 rfl (sh_k hs 54 0 (by decide) rfl) (sh_r hs 70 rfl) dX0_lightAt_78 ?_
  refine ab_getI f_X0_103 rfl (sh_k hs 43 3 (by decide) rfl) dX0_lightAt_81 ?_
  refine ab_icmp_ge (tgt := 135) dX0_lightAt_84 (by decide) (fun c12 => ?_) (fun c12 => ?_)
  · have ht := ht.1 c12
    refine ab_aload_n (i := 0) dX0_lightAt_135 rfl rfl ?_
    refine ab_getR (b := 59) f_X0_32 rfl (sh_k hs 54 0 (by decide) rfl) (sh_r hs 71 rfl) dX0_lightAt_136 ?_
    refine ab_iload_n (i := 1) dX0_lightAt_139 rfl rfl ?_
    refine ab_iload_n (i := 2) dX0_lightAt_140 rfl rfl ?_
    obtain ⟨hc13, ht⟩ := ht
    refine ab_iast (sh_k hs 59 14 (by decide) rfl) hc13 dX0_lightAt_141 ?_
    refine Wp.nm fun h14 e15 => ?_
    have ht := ht h14 e15
    have hs16 : Sh h14 := by rw [e15]; exact sh_si hs
    refine ab_aload_n (i := 0) dX0_lightAt_142 rfl rfl ?_
    refine ab_getR (b := 59) f_X0_32 rfl (sh_k hs16 54 0 (by decide) rfl) (sh_r hs16 71 rfl) dX0_lightAt_143 ?_
    refine ab_iload_n (i := 1) dX0_lightAt_146 rfl rfl ?_
    obtain ⟨hc17, ht⟩ := ht
    refine ab_iald (sh_k hs16 59 14 (by decide) rfl) hc17 dX0_lightAt_147 ?_
    exact ab_iret rfl dX0_lightAt_148 (Nat.le_of_ble_eq_true rfl) (Nat.le_of_ble_eq_true rfl) ht
  · have ht := ht.2 c12
    refine ab_aload_n (i := 0) dX0_lightAt_87 rfl rfl ?_
    refine ab_getR (b := 43) f_X0_53 rfl (sh_k hs 54 0 (by decide) rfl) (sh_r hs 70 rfl) dX0_lightAt_88 ?_
    refine ab_getR (b := 49) f_X0_106 rfl (sh_k hs 43 3 (by decide) rfl) (sh_r hs 55 rfl) dX0_lightAt_91 ?_
    refine ab_iload_n (i := 3) dX0_lightAt_94 rfl rfl ?_
    refine ab_bipush (v := 120) dX0_lightAt_95 (by decide) ?_
    refine ab_imul dX0_lightAt_97 ?_
    refine ab_iload_n (i := 1) dX0_lightAt_98 rfl rfl ?_
    refine ab_iadd dX0_lightAt_99 ?_
    obtain ⟨hc18, ht⟩ := ht
    refine ab_iald (sh_k hs 49 14 (by decide) rfl) hc18 dX0_lightAt_100 ?_
    refine ab_istore (i := 4) (L' := [some (.ref 54), some (.int x1), some (.int x2), some (.int x3), some (.int (ah_i h 49 (Int32.toNatClampNeg ((x3 * 120) + x1))))]) dX0_lightAt_101 (by exact (Nat.le_of_ble_eq_true rfl)) rfl rfl ?_
    refine ab_iload (i := 4) dX0_lightAt_103 rfl ?_
    refine ab_iconst (v := (-1)) dX0_lightAt_105 (by decide) ?_
    refine ab_icmp_eq (tgt := 129) dX0_lightAt_106 (by decide) (fun c19 => ?_) (fun c19 => ?_)
    · have ht := ht.1 c19
      refine ab_iinc (i := 3) (x := x3) (v := (x3 + 1)) (L' := [some (.ref 54), some (.int x1), some (.int x2), some (.int (x3 + 1)), some (.int (ah_i h 49 (Int32.toNatClampNeg ((x3 * 120) + x1))))]) dX0_lightAt_129 rfl rfl (by exact (Nat.le_of_ble_eq_true rfl)) rfl rfl ?_
      refine ab_goto (tgt := 76) dX0_lightAt_132 (by decide) ?_
      exact Wp.fewer (L' := [some (.ref 54), some (.int x1), some (.int x2), some (.int (x3 + 1)), none]) (show ab_leL _ _ from ⟨rfl, ⟨rfl, ⟨rfl, ⟨rfl, trivial⟩⟩⟩⟩) ht
    · have ht := ht.2 c19
      refine ab_iload_n (i := 2) dX0_lightAt_109 rfl rfl ?_
      refine ab_aload_n (i := 0) dX0_lightAt_110 rfl rfl ?_
      refine ab_iconst (v := (-1)) dX0_lightAt_111 (by decide) ?_
      refine ab_aload_n (i := 0) dX0_lightAt_112 rfl rfl ?_
      refine ab_getR (b := 43) f_X0_53 rfl (sh_k hs 54 0 (by decide) rfl) (sh_r hs 70 rfl) dX0_lightAt_113 ?_
      refine ab_getR (b := 48) f_X0_109 rfl (sh_k hs 43 3 (by decide) rfl) (sh_r hs 54 rfl) dX0_lightAt_116 ?_
      refine ab_iload_n (i := 3) dX0_lightAt_119 rfl rfl ?_
      obtain ⟨hc20, ht⟩ := ht
      refine ab_iald (sh_k hs 48 14 (by decide) rfl) hc20 dX0_lightAt_120 ?_
      refine ab_iload (i := 4) dX0_lightAt_121 rfl ?_
      refine ab_iload_n (i := 1) dX0_lightAt_123 rfl rfl ?_
      refine ab_callV (b := 54) (As := [.int (-1), .int (ah_i h 48 (Int32.toNatClampNeg x3)), .int (ah_i h 49 (Int32.toNatClampNeg ((x3 * 120) + x1))), .int x1]) ht (Y_X0_shine) l_X0_99 in_X0_shine se_X0_shine (sh_k hs 54 0 (by decide) rfl) (by decide) rfl rfl ⟨(Nat.le_of_ble_eq_true rfl), (Nat.le_of_ble_eq_true rfl), (Nat.le_of_ble_eq_true rfl), (Nat.le_of_ble_eq_true rfl)⟩ dX0_lightAt_124 ?_
      rintro _ h21 ⟨v23, rfl, hs22, ht⟩
      refine ab_ior dX0_lightAt_127 ?_
      refine ab_istore_n (i := 2) (L' := [some (.ref 54), some (.int x1), some (.int (x2 ||| v23)), some (.int x3), some (.int (ah_i h 49 (Int32.toNatClampNeg ((x3 * 120) + x1))))]) dX0_lightAt_128 rfl (by exact (Nat.le_of_ble_eq_true rfl)) rfl rfl ?_
      refine ab_iinc (i := 3) (x := x3) (v := (x3 + 1)) (L' := [some (.ref 54), some (.int x1), some (.int (x2 ||| v23)), some (.int (x3 + 1)), some (.int (ah_i h 49 (Int32.toNatClampNeg ((x3 * 120) + x1))))]) dX0_lightAt_129 rfl rfl (by exact (Nat.le_of_ble_eq_true rfl)) rfl rfl ?_
      refine ab_goto (tgt := 76) dX0_lightAt_132 (by decide) ?_
      exact Wp.fewer (L' := [some (.ref 54), some (.int x1), some (.int (x2 ||| v23)), some (.int (x3 + 1)), none]) (show ab_leL _ _ from ⟨rfl, ⟨rfl, ⟨rfl, ⟨rfl, trivial⟩⟩⟩⟩) ht
set_option maxRecDepth 20000 in
theorem T_X0_lightAt {Q : Option Value → ah_T → Prop} {h : ah_T} (hs : Sh h) (x1 : Int32) (ht : (vp_in x1 (ah_n h 59)) ∧ ((¬ (ah_i h 59 (Int32.toNatClampNeg x1)) = (-1) → (vp_in x1 (ah_n h 59)) ∧ Q (some (.int (ah_i h 59 (Int32.toNatClampNeg x1)))) h) ∧ ((ah_i h 59 (Int32.toNatClampNeg x1)) = (-1) → Wp mX0_lightAt Q 0 0 14 [some (.ref 54), some (.int x1), some (.int 0), some (.int 0), none] [] h))) : Mt mX0_lightAt [.ref 54, .int x1] h Q := by
  refine Mt.ofWp rfl (by exact (Nat.le_of_ble_eq_true rfl)) (Wp.fewer (L' := [some (.ref 54), some (.int x1), none, none, none]) (show ab_leL _ _ from ⟨rfl, ⟨rfl, trivial⟩⟩) ?_)
  refine ab_aload_n (i := 0) dX0_lightAt_0 rfl rfl ?_
  refine ab_getR (b := 59) f_X0_32 rfl (sh_k hs 54 0 (by decide) rfl) (sh_r hs 71 rfl) dX0_lightAt_1 ?_
  refine ab_iload_n (i := 1) dX0_lightAt_4 rfl rfl ?_
  obtain ⟨hc1, ht⟩ := ht
  refine ab_iald (sh_k hs 59 14 (by decide) rfl) hc1 dX0_lightAt_5 ?_
  refine ab_iconst (v := (-1)) dX0_lightAt_6 (by decide) ?_
  refine ab_icmp_ne (tgt := 142) dX0_lightAt_7 (by decide) (fun c2 => ?_) (fun c2 => ?_)
  · have ht := ht.1 c2
    refine ab_aload_n (i := 0) dX0_lightAt_142 rfl rfl ?_
    refine ab_getR (b := 59) f_X0_32 rfl (sh_k hs 54 0 (by decide) rfl) (sh_r hs 71 rfl) dX0_lightAt_143 ?_
    refine ab_iload_n (i := 1) dX0_lightAt_146 rfl rfl ?_
    obtain ⟨hc3, ht⟩ := ht
    refine ab_iald (sh_k hs 59 14 (by decide) rfl) hc3 dX0_lightAt_147 ?_
    exact ab_iret rfl dX0_lightAt_148 (Nat.le_of_ble_eq_true rfl) (Nat.le_of_ble_eq_true rfl) ht
  · have ht := ht.2 c2
    refine ab_iconst (v := 0) dX0_lightAt_10 (by decide) ?_
    refine ab_istore_n (i := 2) (L' := [some (.ref 54), some (.int x1), some (.int 0), none, none]) dX0_lightAt_11 rfl (by exact (Nat.le_of_ble_eq_true rfl)) rfl rfl ?_
    refine ab_iconst (v := 0) dX0_lightAt_12 (by decide) ?_
    refine ab_istore_n (i := 3) (L' := [some (.ref 54), some (.int x1), some (.int 0), some (.int 0), none]) dX0_lightAt_13 rfl (by exact (Nat.le_of_ble_eq_true rfl)) rfl rfl ?_
    exact Wp.fewer (L' := [some (.ref 54), some (.int x1), some (.int 0), some (.int 0), none]) (show ab_leL _ _ from ⟨rfl, ⟨rfl, ⟨rfl, ⟨rfl, trivial⟩⟩⟩⟩) ht
theorem dX0_shine_0 : decode cX0_shine 0 = .ok (.aload_n 0, 1) := by decide +kernel
theorem dX0_shine_1 : decode cX0_shine 1 = .ok (.getfield 45, 3) := by decide +kernel
theorem dX0_shine_4 : decode cX0_shine 4 = .ok (.iload_n 3, 1) := by decide +kernel
theorem dX0_shine_5 : decode cX0_shine 5 = .ok (.aload_n 0, 1) := by decide +kernel
theorem dX0_shine_6 : decode cX0_shine 6 = .ok (.getfield 49, 3) := by decide +kernel
theorem dX0_shine_9 : decode cX0_shine 9 = .ok (.iconst 1, 1) := by decide +kernel
theorem dX0_shine_10 : decode cX0_shine 10 = .ok (.iload_n 1, 1) := by decide +kernel
theorem dX0_shine_11 : decode cX0_shine 11 = .ok (.iload_n 2, 1) := by decide +kernel
theorem dX0_shine_12 : decode cX0_shine 12 = .ok (.iconst (-1), 1) := by decide +kernel
theorem dX0_shine_13 : decode cX0_shine 13 = .ok (.iconst (-1), 1) := by decide +kernel
theorem dX0_shine_14 : decode cX0_shine 14 = .ok (.iconst (-1), 1) := by decide +kernel
theorem dX0_shine_15 : decode cX0_shine 15 = .ok (.iload 4, 2) := by decide +kernel
theorem dX0_shine_17 : decode cX0_shine 17 = .ok (.invokevirtual 112, 3) := by decide +kernel
theorem dX0_shine_20 : decode cX0_shine 20 = .ok (.invokevirtual 118, 3) := by decide +kernel
theorem dX0_shine_23 : decode cX0_shine 23 = .ok (.ireturn, 1) := by decide +kernel
set_option maxRecDepth 20000 in
theorem T_X0_shine {Q : Option Value → ah_T → Prop} {h : ah_T} (hs : Sh h) (x1 : Int32) (x2 : Int32) (x3 : Int32) (x4 : Int32) (ht : (Mt mX8_ask [.ref 38, .int 1, .int x1, .int x2, .int (-1), .int (-1), .int (-1), .int x4] h (ab_qi fun v3 h1 => Sh h1 ∧ (Mt mX6_within [.ref 29, .int x3, .int v3] h1 (ab_qi fun v6 h4 => Sh h4 ∧ Q (some (.int v6)) h4))))) : Mt mX0_shine [.ref 54, .int x1, .int x2, .int x3, .int x4] h Q := by
  refine Mt.ofWp rfl (by exact (Nat.le_of_ble_eq_true rfl)) (Wp.fewer (L' := [some (.ref 54), some (.int x1), some (.int x2), some (.int x3), some (.int x4)]) (show ab_leL _ _ from ⟨rfl, ⟨rfl, ⟨rfl, ⟨rfl, ⟨rfl, trivial⟩⟩⟩⟩⟩) ?_)
  refine ab_aload_n (i := 0) dX0_shine_0 rfl rfl ?_
  refine ab_getR (b := 29) f_X0_45 rfl (sh_k hs 54 0 (by decide) rfl) (sh_r hs 68 rfl) dX0_shine_1 ?_
  refine ab_iload_n (i := 3) dX0_shine_4 rfl rfl ?_
  refine ab_aload_n (i := 0) dX0_shine_5 rfl rfl ?_
  refine ab_getR (b := 38) f_X0_49 rfl (sh_k hs 54 0 (by decide) rfl) (sh_r hs 69 rfl) dX0_shine_6 ?_
  refine ab_iconst (v := 1) dX0_shine_9 (by decide) ?_
  refine ab_iload_n (i := 1) dX0_shine_10 rfl rfl ?_
  refine ab_iload_n (i := 2) dX0_shine_11 rfl rfl ?_
  refine ab_iconst (v := (-1)) dX0_shine_12 (by decide) ?_
  refine ab_iconst (v := (-1)) dX0_shine_13 (by decide) ?_
  refine ab_iconst (v := (-1)) dX0_shine_14 (by decide) ?_
  refine ab_iload (i := 4) dX0_shine_15 rfl ?_
  refine ab_callV (b := 38) (As := [.int 1, .int x1, .int x2, .int (-1), .int (-1), .int (-1), .int x4]) ht (Y_X8_ask) l_X0_112 in_X8_ask se_X8_ask (sh_k hs 38 8 (by decide) rfl) (by decide) rfl rfl ⟨(Nat.le_of_ble_eq_true rfl), (Nat.le_of_ble_eq_true rfl), (Nat.le_of_ble_eq_true rfl), (Nat.le_of_ble_eq_true rfl)⟩ dX0_shine_17 ?_
  rintro _ h1 ⟨v3, rfl, hs2, ht⟩
  refine ab_callV (b := 29) (As := [.int x3, .int v3]) ht (Y_X6_within) l_X0_118 in_X6_within se_X6_within (sh_k hs2 29 6 (by decide) rfl) (by decide) rfl rfl ⟨(Nat.le_of_ble_eq_true rfl), (Nat.le_of_ble_eq_true rfl), (Nat.le_of_ble_eq_true rfl), (Nat.le_of_ble_eq_true rfl)⟩ dX0_shine_20 ?_
  rintro _ h4 ⟨v6, rfl, hs5, ht⟩
  exact ab_iret rfl dX0_shine_23 (Nat.le_of_ble_eq_true rfl) (Nat.le_of_ble_eq_true rfl) ht
theorem dX0_firstOut_0 : decode cX0_firstOut 0 = .ok (.iconst 0, 1) := by decide +kernel
theorem dX0_firstOut_1 : decode cX0_firstOut 1 = .ok (.istore_n 2, 1) := by decide +kernel
theorem dX0_firstOut_2 : decode cX0_firstOut 2 = .ok (.iload_n 2, 1) := by decide +kernel
theorem dX0_firstOut_3 : decode cX0_firstOut 3 = .ok (.bipush 120, 2) := by decide +kernel
theorem dX0_firstOut_5 : decode cX0_firstOut 5 = .ok (.if_icmp .ge 22, 3) := by decide +kernel
theorem dX0_firstOut_8 : decode cX0_firstOut 8 = .ok (.aload_n 0, 1) := by decide +kernel
theorem dX0_firstOut_9 : decode cX0_firstOut 9 = .ok (.getfield 15, 3) := by decide +kernel
theorem dX0_firstOut_12 : decode cX0_firstOut 12 = .ok (.iload_n 2, 1) := by decide +kernel
theorem dX0_firstOut_13 : decode cX0_firstOut 13 = .ok (.iaload, 1) := by decide +kernel
theorem dX0_firstOut_14 : decode cX0_firstOut 14 = .ok (.iload_n 1, 1) := by decide +kernel
theorem dX0_firstOut_15 : decode cX0_firstOut 15 = .ok (.iand, 1) := by decide +kernel
theorem dX0_firstOut_16 : decode cX0_firstOut 16 = .ok (.ifCond .eq 5, 3) := by decide +kernel
theorem dX0_firstOut_19 : decode cX0_firstOut 19 = .ok (.iload_n 2, 1) := by decide +kernel
theorem dX0_firstOut_20 : decode cX0_firstOut 20 = .ok (.ireturn, 1) := by decide +kernel
theorem dX0_firstOut_21 : decode cX0_firstOut 21 = .ok (.iinc 2 1, 3) := by decide +kernel
theorem dX0_firstOut_24 : decode cX0_firstOut 24 = .ok (.goto (-22), 3) := by decide +kernel
theorem dX0_firstOut_27 : decode cX0_firstOut 27 = .ok (.iconst (-1), 1) := by decide +kernel
theorem dX0_firstOut_28 : decode cX0_firstOut 28 = .ok (.ireturn, 1) := by decide +kernel
set_option maxRecDepth 20000 in
theorem T_X0_firstOut_2 {Q : Option Value → ah_T → Prop} {h : ah_T} (hs : Sh h) (x1 : Int32) (x2 : Int32) (ht : ((120 ≤ x2 → Q (some (.int (-1))) h) ∧ (¬ 120 ≤ x2 → (vp_in x2 (ah_n h 56)) ∧ ((((ah_i h 56 (Int32.toNatClampNeg x2)) &&& x1) = 0 → Wp mX0_firstOut Q 0 0 2 [some (.ref 54), some (.int x1), some (.int (x2 + 1))] [] h) ∧ (¬ ((ah_i h 56 (Int32.toNatClampNeg x2)) &&& x1) = 0 → Q (some (.int x2)) h))))) : Wp mX0_firstOut Q 0 0 2 [some (.ref 54), some (.int x1), some (.int x2)] [] h := by
  refine ab_iload_n (i := 2) dX0_firstOut_2 rfl rfl ?_
  refine ab_bipush (v := 120) dX0_firstOut_3 (by decide) ?_
  refine ab_icmp_ge (tgt := 27) dX0_firstOut_5 (by decide) (fun c1 => ?_) (fun c1 => ?_)
  · have ht := ht.1 c1
    refine ab_iconst (v := (-1)) dX0_firstOut_27 (by decide) ?_
    exact ab_iret rfl dX0_firstOut_28 (Nat.le_of_ble_eq_true rfl) (Nat.le_of_ble_eq_true rfl) ht
  · have ht := ht.2 c1
    refine ab_aload_n (i := 0) dX0_firstOut_8 rfl rfl ?_
    refine ab_getR (b := 56) f_X0_15 rfl (sh_k hs 54 0 (by decide) rfl) (sh_r hs 64 rfl) dX0_firstOut_9 ?_
    refine ab_iload_n (i := 2) dX0_firstOut_12 rfl rfl ?_
    obtain ⟨hc2, ht⟩ := ht
    refine ab_iald (sh_k hs 56 14 (by decide) rfl) hc2 dX0_firstOut_13 ?_
    refine ab_iload_n (i := 1) dX0_firstOut_14 rfl rfl ?_
    refine ab_iand dX0_firstOut_15 ?_
    refine ab_if_eq (tgt := 21) dX0_firstOut_16 (by decide) (fun c3 => ?_) (fun c3 => ?_)
    · have ht := ht.1 c3
      refine ab_iinc (i := 2) (x := x2) (v := (x2 + 1)) (L' := [some (.ref 54), some (.int x1), some (.int (x2 + 1))]) dX0_firstOut_21 rfl rfl (by exact (Nat.le_of_ble_eq_true rfl)) rfl rfl ?_
      refine ab_goto (tgt := 2) dX0_firstOut_24 (by decide) ?_
      exact Wp.fewer (L' := [some (.ref 54), some (.int x1), some (.int (x2 + 1))]) (show ab_leL _ _ from ⟨rfl, ⟨rfl, ⟨rfl, trivial⟩⟩⟩) ht
    · have ht := ht.2 c3
      refine ab_iload_n (i := 2) dX0_firstOut_19 rfl rfl ?_
      exact ab_iret rfl dX0_firstOut_20 (Nat.le_of_ble_eq_true rfl) (Nat.le_of_ble_eq_true rfl) ht
set_option maxRecDepth 20000 in
theorem T_X0_firstOut {Q : Option Value → ah_T → Prop} {h : ah_T} (hs : Sh h) (x1 : Int32) (ht : Wp mX0_firstOut Q 0 0 2 [some (.ref 54), some (.int x1), some (.int 0)] [] h) : Mt mX0_firstOut [.ref 54, .int x1] h Q := by
  refine Mt.ofWp rfl (by exact (Nat.le_of_ble_eq_true rfl)) (Wp.fewer (L' := [some (.ref 54), some (.int x1), none]) (show ab_leL _ _ from ⟨rfl, ⟨rfl, trivial⟩⟩) ?_)
  refine ab_iconst (v := 0) dX0_firstOut_0 (by decide) ?_
  refine ab_istore_n (i := 2) (L' := [some (.ref 54), some (.int x1), some (.int 0)]) dX0_firstOut_1 rfl (by exact (Nat.le_of_ble_eq_true rfl)) rfl rfl ?_
  exact Wp.fewer (L' := [some (.ref 54), some (.int x1), some (.int 0)]) (show ab_leL _ _ from ⟨rfl, ⟨rfl, ⟨rfl, trivial⟩⟩⟩) ht
theorem dX0_darkErrands_0 : decode cX0_darkErrands 0 = .ok (.iconst (-1), 1) := by decide +kernel
theorem dX0_darkErrands_1 : decode cX0_darkErrands 1 = .ok (.istore_n 2, 1) := by decide +kernel
theorem dX0_darkErrands_2 : decode cX0_darkErrands 2 = .ok (.iconst (-1), 1) := by decide +kernel
theorem dX0_darkErrands_3 : decode cX0_darkErrands 3 = .ok (.istore_n 3, 1) := by decide +kernel
theorem dX0_darkErrands_4 : decode cX0_darkErrands 4 = .ok (.iconst 0, 1) := by decide +kernel
theorem dX0_darkErrands_5 : decode cX0_darkErrands 5 = .ok (.istore 4, 2) := by decide +kernel
theorem dX0_darkErrands_7 : decode cX0_darkErrands 7 = .ok (.iconst 0, 1) := by decide +kernel
theorem dX0_darkErrands_8 : decode cX0_darkErrands 8 = .ok (.istore 5, 2) := by decide +kernel
theorem dX0_darkErrands_10 : decode cX0_darkErrands 10 = .ok (.iload 5, 2) := by decide +kernel
theorem dX0_darkErrands_12 : decode cX0_darkErrands 12 = .ok (.bipush 120, 2) := by decide +kernel
theorem dX0_darkErrands_14 : decode cX0_darkErrands 14 = .ok (.if_icmp .ge 117, 3) := by decide +kernel
theorem dX0_darkErrands_17 : decode cX0_darkErrands 17 = .ok (.iconst 0, 1) := by decide +kernel
theorem dX0_darkErrands_18 : decode cX0_darkErrands 18 = .ok (.istore 6, 2) := by decide +kernel
theorem dX0_darkErrands_20 : decode cX0_darkErrands 20 = .ok (.iload 6, 2) := by decide +kernel
theorem dX0_darkErrands_22 : decode cX0_darkErrands 22 = .ok (.aload_n 0, 1) := by decide +kernel
theorem dX0_darkErrands_23 : decode cX0_darkErrands 23 = .ok (.getfield 41, 3) := by decide +kernel
theorem dX0_darkErrands_26 : decode cX0_darkErrands 26 = .ok (.getfield 124, 3) := by decide +kernel
theorem dX0_darkErrands_29 : decode cX0_darkErrands 29 = .ok (.getfield 88, 3) := by decide +kernel
theorem dX0_darkErrands_32 : decode cX0_darkErrands 32 = .ok (.if_icmp .ge 93, 3) := by decide +kernel
theorem dX0_darkErrands_35 : decode cX0_darkErrands 35 = .ok (.iload 5, 2) := by decide +kernel
theorem dX0_darkErrands_37 : decode cX0_darkErrands 37 = .ok (.aload_n 0, 1) := by decide +kernel
theorem dX0_darkErrands_38 : decode cX0_darkErrands 38 = .ok (.getfield 41, 3) := by decide +kernel
theorem dX0_darkErrands_41 : decode cX0_darkErrands 41 = .ok (.getfield 124, 3) := by decide +kernel
theorem dX0_darkErrands_44 : decode cX0_darkErrands 44 = .ok (.iload 6, 2) := by decide +kernel
theorem dX0_darkErrands_46 : decode cX0_darkErrands 46 = .ok (.iconst 1, 1) := by decide +kernel
theorem dX0_darkErrands_47 : decode cX0_darkErrands 47 = .ok (.invokevirtual 127, 3) := by decide +kernel
theorem dX0_darkErrands_50 : decode cX0_darkErrands 50 = .ok (.if_icmp .lt 69, 3) := by decide +kernel
theorem dX0_darkErrands_53 : decode cX0_darkErrands 53 = .ok (.iload 5, 2) := by decide +kernel
theorem dX0_darkErrands_55 : decode cX0_darkErrands 55 = .ok (.aload_n 0, 1) := by decide +kernel
theorem dX0_darkErrands_56 : decode cX0_darkErrands 56 = .ok (.getfield 41, 3) := by decide +kernel
theorem dX0_darkErrands_59 : decode cX0_darkErrands 59 = .ok (.getfield 124, 3) := by decide +kernel
theorem dX0_darkErrands_62 : decode cX0_darkErrands 62 = .ok (.iload 6, 2) := by decide +kernel
theorem dX0_darkErrands_64 : decode cX0_darkErrands 64 = .ok (.iconst 2, 1) := by decide +kernel
theorem dX0_darkErrands_65 : decode cX0_darkErrands 65 = .ok (.invokevirtual 127, 3) := by decide +kernel
theorem dX0_darkErrands_68 : decode cX0_darkErrands 68 = .ok (.if_icmp .gt 51, 3) := by decide +kernel
theorem dX0_darkErrands_71 : decode cX0_darkErrands 71 = .ok (.aload_n 0, 1) := by decide +kernel
theorem dX0_darkErrands_72 : decode cX0_darkErrands 72 = .ok (.iload 5, 2) := by decide +kernel
theorem dX0_darkErrands_74 : decode cX0_darkErrands 74 = .ok (.invokevirtual 130, 3) := by decide +kernel
theorem dX0_darkErrands_77 : decode cX0_darkErrands 77 = .ok (.aload_n 0, 1) := by decide +kernel
theorem dX0_darkErrands_78 : decode cX0_darkErrands 78 = .ok (.getfield 41, 3) := by decide +kernel
theorem dX0_darkErrands_81 : decode cX0_darkErrands 81 = .ok (.getfield 124, 3) := by decide +kernel
theorem dX0_darkErrands_84 : decode cX0_darkErrands 84 = .ok (.iload 6, 2) := by decide +kernel
theorem dX0_darkErrands_86 : decode cX0_darkErrands 86 = .ok (.iconst 0, 1) := by decide +kernel
theorem dX0_darkErrands_87 : decode cX0_darkErrands 87 = .ok (.invokevirtual 127, 3) := by decide +kernel
theorem dX0_darkErrands_90 : decode cX0_darkErrands 90 = .ok (.ishr, 1) := by decide +kernel
theorem dX0_darkErrands_91 : decode cX0_darkErrands 91 = .ok (.iconst 1, 1) := by decide +kernel
theorem dX0_darkErrands_92 : decode cX0_darkErrands 92 = .ok (.iand, 1) := by decide +kernel
theorem dX0_darkErrands_93 : decode cX0_darkErrands 93 = .ok (.ifCond .eq 6, 3) := by decide +kernel
theorem dX0_darkErrands_96 : decode cX0_darkErrands 96 = .ok (.goto 23, 3) := by decide +kernel
theorem dX0_darkErrands_99 : decode cX0_darkErrands 99 = .ok (.iload_n 2, 1) := by decide +kernel
theorem dX0_darkErrands_100 : decode cX0_darkErrands 100 = .ok (.iconst (-1), 1) := by decide +kernel
theorem dX0_darkErrands_101 : decode cX0_darkErrands 101 = .ok (.if_icmp .ne 9, 3) := by decide +kernel
theorem dX0_darkErrands_104 : decode cX0_darkErrands 104 = .ok (.iload 6, 2) := by decide +kernel
theorem dX0_darkErrands_106 : decode cX0_darkErrands 106 = .ok (.istore_n 2, 1) := by decide +kernel
theorem dX0_darkErrands_107 : decode cX0_darkErrands 107 = .ok (.iload 5, 2) := by decide +kernel
theorem dX0_darkErrands_109 : decode cX0_darkErrands 109 = .ok (.istore_n 3, 1) := by decide +kernel
theorem dX0_darkErrands_110 : decode cX0_darkErrands 110 = .ok (.iload 4, 2) := by decide +kernel
theorem dX0_darkErrands_112 : decode cX0_darkErrands 112 = .ok (.iconst 1, 1) := by decide +kernel
theorem dX0_darkErrands_113 : decode cX0_darkErrands 113 = .ok (.iload 6, 2) := by decide +kernel
theorem dX0_darkErrands_115 : decode cX0_darkErrands 115 = .ok (.ishl, 1) := by decide +kernel
theorem dX0_darkErrands_116 : decode cX0_darkErrands 116 = .ok (.ior, 1) := by decide +kernel
theorem dX0_darkErrands_117 : decode cX0_darkErrands 117 = .ok (.istore 4, 2) := by decide +kernel
theorem dX0_darkErrands_119 : decode cX0_darkErrands 119 = .ok (.iinc 6 1, 3) := by decide +kernel
theorem dX0_darkErrands_122 : decode cX0_darkErrands 122 = .ok (.goto (-102), 3) := by decide +kernel
theorem dX0_darkErrands_125 : decode cX0_darkErrands 125 = .ok (.iinc 5 1, 3) := by decide +kernel
theorem dX0_darkErrands_128 : decode cX0_darkErrands 128 = .ok (.goto (-118), 3) := by decide +kernel
theorem dX0_darkErrands_131 : decode cX0_darkErrands 131 = .ok (.iload_n 1, 1) := by decide +kernel
theorem dX0_darkErrands_132 : decode cX0_darkErrands 132 = .ok (.ifCond .ne 7, 3) := by decide +kernel
theorem dX0_darkErrands_135 : decode cX0_darkErrands 135 = .ok (.iload_n 2, 1) := by decide +kernel
theorem dX0_darkErrands_136 : decode cX0_darkErrands 136 = .ok (.goto 17, 3) := by decide +kernel
theorem dX0_darkErrands_139 : decode cX0_darkErrands 139 = .ok (.iload_n 1, 1) := by decide +kernel
theorem dX0_darkErrands_140 : decode cX0_darkErrands 140 = .ok (.iconst 1, 1) := by decide +kernel
theorem dX0_darkErrands_141 : decode cX0_darkErrands 141 = .ok (.if_icmp .ne 7, 3) := by decide +kernel
theorem dX0_darkErrands_144 : decode cX0_darkErrands 144 = .ok (.iload_n 3, 1) := by decide +kernel
theorem dX0_darkErrands_145 : decode cX0_darkErrands 145 = .ok (.goto 8, 3) := by decide +kernel
theorem dX0_darkErrands_148 : decode cX0_darkErrands 148 = .ok (.iload 4, 2) := by decide +kernel
theorem dX0_darkErrands_150 : decode cX0_darkErrands 150 = .ok (.invokestatic 133, 3) := by decide +kernel
theorem dX0_darkErrands_153 : decode cX0_darkErrands 153 = .ok (.ireturn, 1) := by decide +kernel
set_option maxRecDepth 20000 in
theorem T_X0_darkErrands_10 {Q : Option Value → ah_T → Prop} {h : ah_T} (hs : Sh h) (x1 : Int32) (x2 : Int32) (x3 : Int32) (x4 : Int32) (x5 : Int32) (ht : ((120 ≤ x5 → ((¬ x1 = 0 → ((¬ x1 = 1 → Q (some (.int (f_J6_bitCount_0f7a4 x4))) h) ∧ (x1 = 1 → Q (some (.int x3)) h))) ∧ (x1 = 0 → Q (some (.int x2)) h))) ∧ (¬ 120 ≤ x5 → Wp mX0_darkErrands Q 0 0 20 [some (.ref 54), some (.int x1), some (.int x2), some (.int x3), some (.int x4), some (.int x5), some (.int 0)] [] h))) : Wp mX0_darkErrands Q 0 0 10 [some (.ref 54), some (.int x1), some (.int x2), some (.int x3), some (.int x4), some (.int x5), none] [] h := by
  refine ab_iload (i := 5) dX0_darkErrands_10 rfl ?_
  refine ab_bipush (v := 120) dX0_darkErrands_12 (by decide) ?_
  refine ab_icmp_ge (tgt := 131) dX0_darkErrands_14 (by decide) (fun c1 => ?_) (fun c1 => ?_)
  · have ht := ht.1 c1
    refine ab_iload_n (i := 1) dX0_darkErrands_131 rfl rfl ?_
    refine ab_if_ne (tgt := 139) dX0_darkErrands_132 (by decide) (fun c2 => ?_) (fun c2 => ?_)
    · have ht := ht.1 c2
      refine ab_iload_n (i := 1) dX0_darkErrands_139 rfl rfl ?_
      refine ab_iconst (v := 1) dX0_darkErrands_140 (by decide) ?_
      refine ab_icmp_ne (tgt := 148) dX0_darkErrands_141 (by decide) (fun c3 => ?_) (fun c3 => ?_)
      · have ht := ht.1 c3
        refine ab_iload (i := 4) dX0_darkErrands_148 rfl ?_
        refine ab_callS (Q' := fun r h' => r = some (.int (f_J6_bitCount_0f7a4 x4)) ∧ h = h') (As := [.int x4]) (c_J6_bitCount_0f7a4 hs x4 ⟨rfl, rfl⟩) (Y_J6_bitCount_0f7a4) l_X0_133 st_J6_bitCount_0f7a4 rfl ⟨(Nat.le_of_ble_eq_true rfl), (Nat.le_of_ble_eq_true rfl), (Nat.le_of_ble_eq_true rfl), (Nat.le_of_ble_eq_true rfl)⟩ dX0_darkErrands_150 ?_
        rintro _ _ ⟨rfl, rfl⟩
        exact ab_iret rfl dX0_darkErrands_153 (Nat.le_of_ble_eq_true rfl) (Nat.le_of_ble_eq_true rfl) ht
      · have ht := ht.2 c3
        refine ab_iload_n (i := 3) dX0_darkErrands_144 rfl rfl ?_
        refine ab_goto (tgt := 153) dX0_darkErrands_145 (by decide) ?_
        exact ab_iret rfl dX0_darkErrands_153 (Nat.le_of_ble_eq_true rfl) (Nat.le_of_ble_eq_true rfl) ht
    · have ht := ht.2 c2
      refine ab_iload_n (i := 2) dX0_darkErrands_135 rfl rfl ?_
      refine ab_goto (tgt := 153) dX0_darkErrands_136 (by decide) ?_
      exact ab_iret rfl dX0_darkErrands_153 (Nat.le_of_ble_eq_true rfl) (Nat.le_of_ble_eq_true rfl) ht
  · have ht := ht.2 c1
    refine ab_iconst (v := 0) dX0_darkErrands_17 (by decide) ?_
    refine ab_istore (i := 6) (L' := [some (.ref 54), some (.int x1), some (.int x2), some (.int x3), some (.int x4), some (.int x5), some (.int 0)]) dX0_darkErrands_18 (by exact (Nat.le_of_ble_eq_true rfl)) rfl rfl ?_
    exact Wp.fewer (L' := [some (.ref 54), some (.int x1), some (.int x2), some (.int x3), some (.int x4), some (.int x5), some (.int 0)]) (show ab_leL _ _ from ⟨rfl, ⟨rfl, ⟨rfl, ⟨rfl, ⟨rfl, ⟨rfl, ⟨rfl, trivial⟩⟩⟩⟩⟩⟩⟩) ht
set_option maxRecDepth 20000 in
theorem T_X0_darkErrands_20 {Q : Option Value → ah_T → Prop} {h : ah_T} (hs : Sh h) (x1 : Int32) (x2 : Int32) (x3 : Int32) (x4 : Int32) (x5 : Int32) (x6 : Int32) (ht : (((ah_i h 10 3) ≤ x6 → Wp mX0_darkErrands Q 0 0 10 [some (.ref 54), some (.int x1), some (.int x2), some (.int x3), some (.int x4), some (.int (x5 + 1)), none] [] h) ∧ (¬ (ah_i h 10 3) ≤ x6 → (Mt mX7_get [.ref 10, .int x6, .int 1] h (ab_qi fun v7 h5 => Sh h5 ∧ ((x5 < v7 → Wp mX0_darkErrands Q 0 0 20 [some (.ref 54), some (.int x1), some (.int x2), some (.int x3), some (.int x4), some (.int x5), some (.int (x6 + 1))] [] h5) ∧ (¬ x5 < v7 → (Mt mX7_get [.ref 10, .int x6, .int 2] h5 (ab_qi fun v11 h9 => Sh h9 ∧ ((v11 < x5 → Wp mX0_darkErrands Q 0 0 20 [some (.ref 54), some (.int x1), some (.int x2), some (.int x3), some (.int x4), some (.int x5), some (.int (x6 + 1))] [] h9) ∧ (¬ v11 < x5 → (Mt mX0_lightAt [.ref 54, .int x5] h9 (ab_qi fun v15 h13 => Sh h13 ∧ (Mt mX7_get [.ref 10, .int x6, .int 0] h13 (ab_qi fun v18 h16 => Sh h16 ∧ ((((v15 >>> (v18 &&& 31)) &&& 1) = 0 → ((¬ x2 = (-1) → Wp mX0_darkErrands Q 0 0 20 [some (.ref 54), some (.int x1), some (.int x2), some (.int x3), some (.int (x4 ||| ((1 : Int32) <<< (x6 &&& 31)))), some (.int x5), some (.int (x6 + 1))] [] h16) ∧ (x2 = (-1) → Wp mX0_darkErrands Q 0 0 20 [some (.ref 54), some (.int x1), some (.int x6), some (.int x5), some (.int (x4 ||| ((1 : Int32) <<< (x6 &&& 31)))), some (.int x5), some (.int (x6 + 1))] [] h16))) ∧ (¬ ((v15 >>> (v18 &&& 31)) &&& 1) = 0 → Wp mX0_darkErrands Q 0 0 20 [some (.ref 54), some (.int x1), some (.int x2), some (.int x3), some (.int x4), some (.int x5), some (.int (x6 + 1))] [] h16))))))))))))))))) : Wp mX0_darkErrands Q 0 0 20 [some (.ref 54), some (.int x1), some (.int x2), some (.int x3), some (.int x4), some (.int x5), some (.int x6)] [] h := by
  refine ab_iload (i := 6) dX0_darkErrands_20 rfl ?_
  refine ab_aload_n (i := 0) dX0_darkErrands_22 rfl rfl ?_
  refine ab_getR (b := 1) f_X0_41 rfl (sh_k hs 54 0 (by decide) rfl) (sh_r hs 67 rfl) dX0_darkErrands_23 ?_
  refine ab_getR (b := 10) f_X0_124 rfl (sh_k hs 1 10 (by decide) rfl) (sh_r hs 17 rfl) dX0_darkErrands_26 ?_
  refine ab_getI f_X0_88 rfl (sh_k hs 10 7 (by decide) rfl) dX0_darkErrands_29 ?_
  refine ab_icmp_ge (tgt := 125) dX0_darkErrands_32 (by decide) (fun c4 => ?_) (fun c4 => ?_)
  · have ht := ht.1 c4
    refine ab_iinc (i := 5) (x := x5) (v := (x5 + 1)) (L' := [some (.ref 54), some (.int x1), some (.int x2), some (.int x3), some (.int x4), some (.int (x5 + 1)), some (.int x6)]) dX0_darkErrands_125 rfl rfl (by exact (Nat.le_of_ble_eq_true rfl)) rfl rfl ?_
    refine ab_goto (tgt := 10) dX0_darkErrands_128 (by decide) ?_
    exact Wp.fewer (L' := [some (.ref 54), some (.int x1), some (.int x2), some (.int x3), some (.int x4), some (.int (x5 + 1)), none]) (show ab_leL _ _ from ⟨rfl, ⟨rfl, ⟨rfl, ⟨rfl, ⟨rfl, ⟨rfl, trivial⟩⟩⟩⟩⟩⟩) ht
  · have ht := ht.2 c4
    refine ab_iload (i := 5) dX0_darkErrands_35 rfl ?_
    refine ab_aload_n (i := 0) dX0_darkErrands_37 rfl rfl ?_
    refine ab_getR (b := 1) f_X0_41 rfl (sh_k hs 54 0 (by decide) rfl) (sh_r hs 67 rfl) dX0_darkErrands_38 ?_
    refine ab_getR (b := 10) f_X0_124 rfl (sh_k hs 1 10 (by decide) rfl) (sh_r hs 17 rfl) dX0_darkErrands_41 ?_
    refine ab_iload (i := 6) dX0_darkErrands_44 rfl ?_
    refine ab_iconst (v := 1) dX0_darkErrands_46 (by decide) ?_
    refine ab_callV (b := 10) (As := [.int x6, .int 1]) ht (Y_X7_get) l_X0_127 in_X7_get se_X7_get (sh_k hs 10 7 (by decide) rfl) (by decide) rfl rfl ⟨(Nat.le_of_ble_eq_true rfl), (Nat.le_of_ble_eq_true rfl), (Nat.le_of_ble_eq_true rfl), (Nat.le_of_ble_eq_true rfl)⟩ dX0_darkErrands_47 ?_
    rintro _ h5 ⟨v7, rfl, hs6, ht⟩
    refine ab_icmp_lt (tgt := 119) dX0_darkErrands_50 (by decide) (fun c8 => ?_) (fun c8 => ?_)
    · have ht := ht.1 c8
      refine ab_iinc (i := 6) (x := x6) (v := (x6 + 1)) (L' := [some (.ref 54), some (.int x1), some (.int x2), some (.int x3), some (.int x4), some (.int x5), some (.int (x6 + 1))]) dX0_darkErrands_119 rfl rfl (by exact (Nat.le_of_ble_eq_true rfl)) rfl rfl ?_
      refine ab_goto (tgt := 20) dX0_darkErrands_122 (by decide) ?_
      exact Wp.fewer (L' := [some (.ref 54), some (.int x1), some (.int x2), some (.int x3), some (.int x4), some (.int x5), some (.int (x6 + 1))]) (show ab_leL _ _ from ⟨rfl, ⟨rfl, ⟨rfl, ⟨rfl, ⟨rfl, ⟨rfl, ⟨rfl, trivial⟩⟩⟩⟩⟩⟩⟩) ht
    · have ht := ht.2 c8
      refine ab_iload (i := 5) dX0_darkErrands_53 rfl ?_
      refine ab_aload_n (i := 0) dX0_darkErrands_55 rfl rfl ?_
      refine ab_getR (b := 1) f_X0_41 rfl (sh_k hs6 54 0 (by decide) rfl) (sh_r hs6 67 rfl) dX0_darkErrands_56 ?_
      refine ab_getR (b := 10) f_X0_124 rfl (sh_k hs6 1 10 (by decide) rfl) (sh_r hs6 17 rfl) dX0_darkErrands_59 ?_
      refine ab_iload (i := 6) dX0_darkErrands_62 rfl ?_
      refine ab_iconst (v := 2) dX0_darkErrands_64 (by decide) ?_
      refine ab_callV (b := 10) (As := [.int x6, .int 2]) ht (Y_X7_get) l_X0_127 in_X7_get se_X7_get (sh_k hs6 10 7 (by decide) rfl) (by decide) rfl rfl ⟨(Nat.le_of_ble_eq_true rfl), (Nat.le_of_ble_eq_true rfl), (Nat.le_of_ble_eq_true rfl), (Nat.le_of_ble_eq_true rfl)⟩ dX0_darkErrands_65 ?_
      rintro _ h9 ⟨v11, rfl, hs10, ht⟩
      refine ab_icmp_gt (tgt := 119) dX0_darkErrands_68 (by decide) (fun c12 => ?_) (fun c12 => ?_)
      · have ht := ht.1 c12
        refine ab_iinc (i := 6) (x := x6) (v := (x6 + 1)) (L' := [some (.ref 54), some (.int x1), some (.int x2), some (.int x3), some (.int x4), some (.int x5), some (.int (x6 + 1))]) dX0_darkErrands_119 rfl rfl (by exact (Nat.le_of_ble_eq_true rfl)) rfl rfl ?_
        refine ab_goto (tgt := 20) dX0_darkErrands_122 (by decide) ?_
        exact Wp.fewer (L' := [some (.ref 54), some (.int x1), some (.int x2), some (.int x3), some (.int x4), some (.int x5), some (.int (x6 + 1))]) (show ab_leL _ _ from ⟨rfl, ⟨rfl, ⟨rfl, ⟨rfl, ⟨rfl, ⟨rfl, ⟨rfl, trivial⟩⟩⟩⟩⟩⟩⟩) ht
      · have ht := ht.2 c12
        refine ab_aload_n (i := 0) dX0_darkErrands_71 rfl rfl ?_
        refine ab_iload (i := 5) dX0_darkErrands_72 rfl ?_
        refine ab_callV (b := 54) (As := [.int x5]) ht (Y_X0_lightAt) l_X0_130 in_X0_lightAt se_X0_lightAt (sh_k hs10 54 0 (by decide) rfl) (by decide) rfl rfl ⟨(Nat.le_of_ble_eq_true rfl), (Nat.le_of_ble_eq_true rfl), (Nat.le_of_ble_eq_true rfl), (Nat.le_of_ble_eq_true rfl)⟩ dX0_darkErrands_74 ?_
        rintro _ h13 ⟨v15, rfl, hs14, ht⟩
        refine ab_aload_n (i := 0) dX0_darkErrands_77 rfl rfl ?_
        refine ab_getR (b := 1) f_X0_41 rfl (sh_k hs14 54 0 (by decide) rfl) (sh_r hs14 67 rfl) dX0_darkErrands_78 ?_
        refine ab_getR (b := 10) f_X0_124 rfl (sh_k hs14 1 10 (by decide) rfl) (sh_r hs14 17 rfl) dX0_darkErrands_81 ?_
        refine ab_iload (i := 6) dX0_darkErrands_84 rfl ?_
        refine ab_iconst (v := 0) dX0_darkErrands_86 (by decide) ?_
        refine ab_callV (b := 10) (As := [.int x6, .int 0]) ht (Y_X7_get) l_X0_127 in_X7_get se_X7_get (sh_k hs14 10 7 (by decide) rfl) (by decide) rfl rfl ⟨(Nat.le_of_ble_eq_true rfl), (Nat.le_of_ble_eq_true rfl), (Nat.le_of_ble_eq_true rfl), (Nat.le_of_ble_eq_true rfl)⟩ dX0_darkErrands_87 ?_
        rintro _ h16 ⟨v18, rfl, hs17, ht⟩
        refine ab_ishr dX0_darkErrands_90 ?_
        refine ab_iconst (v := 1) dX0_darkErrands_91 (by decide) ?_
        refine ab_iand dX0_darkErrands_92 ?_
        refine ab_if_eq (tgt := 99) dX0_darkErrands_93 (by decide) (fun c19 => ?_) (fun c19 => ?_)
        · have ht := ht.1 c19
          refine ab_iload_n (i := 2) dX0_darkErrands_99 rfl rfl ?_
          refine ab_iconst (v := (-1)) dX0_darkErrands_100 (by decide) ?_
          refine ab_icmp_ne (tgt := 110) dX0_darkErrands_101 (by decide) (fun c20 => ?_) (fun c20 => ?_)
          · have ht := ht.1 c20
            refine ab_iload (i := 4) dX0_darkErrands_110 rfl ?_
            refine ab_iconst (v := 1) dX0_darkErrands_112 (by decide) ?_
            refine ab_iload (i := 6) dX0_darkErrands_113 rfl ?_
            refine ab_ishl dX0_darkErrands_115 ?_
            refine ab_ior dX0_darkErrands_116 ?_
            refine ab_istore (i := 4) (L' := [some (.ref 54), some (.int x1), some (.int x2), some (.int x3), some (.int (x4 ||| ((1 : Int32) <<< (x6 &&& 31)))), some (.int x5), some (.int x6)]) dX0_darkErrands_117 (by exact (Nat.le_of_ble_eq_true rfl)) rfl rfl ?_
            refine ab_iinc (i := 6) (x := x6) (v := (x6 + 1)) (L' := [some (.ref 54), some (.int x1), some (.int x2), some (.int x3), some (.int (x4 ||| ((1 : Int32) <<< (x6 &&& 31)))), some (.int x5), some (.int (x6 + 1))]) dX0_darkErrands_119 rfl rfl (by exact (Nat.le_of_ble_eq_true rfl)) rfl rfl ?_
            refine ab_goto (tgt := 20) dX0_darkErrands_122 (by decide) ?_
            exact Wp.fewer (L' := [some (.ref 54), some (.int x1), some (.int x2), some (.int x3), some (.int (x4 ||| ((1 : Int32) <<< (x6 &&& 31)))), some (.int x5), some (.int (x6 + 1))]) (show ab_leL _ _ from ⟨rfl, ⟨rfl, ⟨rfl, ⟨rfl, ⟨rfl, ⟨rfl, ⟨rfl, trivial⟩⟩⟩⟩⟩⟩⟩) ht
          · have ht := ht.2 c20
            refine ab_iload (i := 6) dX0_darkErrands_104 rfl ?_
            refine ab_istore_n (i := 2) (L' := [some (.ref 54), some (.int x1), some (.int x6), some (.int x3), some (.int x4), some (.int x5), some (.int x6)]) dX0_darkErrands_106 rfl (by exact (Nat.le_of_ble_eq_true rfl)) rfl rfl ?_
            refine ab_iload (i := 5) dX0_darkErrands_107 rfl ?_
            refine ab_istore_n (i := 3) (L' := [some (.ref 54), some (.int x1), some (.int x6), some (.int x5), some (.int x4), some (.int x5), some (.int x6)]) dX0_darkErrands_109 rfl (by exact (Nat.le_of_ble_eq_true rfl)) rfl rfl ?_
            refine ab_iload (i := 4) dX0_darkErrands_110 rfl ?_
            refine ab_iconst (v := 1) dX0_darkErrands_112 (by decide) ?_
            refine ab_iload (i := 6) dX0_darkErrands_113 rfl ?_
            refine ab_ishl dX0_darkErrands_115 ?_
            refine ab_ior dX0_darkErrands_116 ?_
            refine ab_istore (i := 4) (L' := [some (.ref 54), some (.int x1), some (.int x6), some (.int x5), some (.int (x4 ||| ((1 : Int32) <<< (x6 &&& 31)))), some (.int x5), some (.int x6)]) dX0_darkErrands_117 (by exact (Nat.le_of_ble_eq_true rfl)) rfl rfl ?_
            refine ab_iinc (i := 6) (x := x6) (v := (x6 + 1)) (L' := [some (.ref 54), some (.int x1), some (.int x6), some (.int x5), some (.int (x4 ||| ((1 : Int32) <<< (x6 &&& 31)))), some (.int x5), some (.int (x6 + 1))]) dX0_darkErrands_119 rfl rfl (by exact (Nat.le_of_ble_eq_true rfl)) rfl rfl ?_
            refine ab_goto (tgt := 20) dX0_darkErrands_122 (by decide) ?_
            exact Wp.fewer (L' := [some (.ref 54), some (.int x1), some (.int x6), some (.int x5), some (.int (x4 ||| ((1 : Int32) <<< (x6 &&& 31)))), some (.int x5), some (.int (x6 + 1))]) (show ab_leL _ _ from ⟨rfl, ⟨rfl, ⟨rfl, ⟨rfl, ⟨rfl, ⟨rfl, ⟨rfl, trivial⟩⟩⟩⟩⟩⟩⟩) ht
        · have ht := ht.2 c19
          refine ab_goto (tgt := 119) dX0_darkErrands_96 (by decide) ?_
          refine ab_iinc (i := 6) (x := x6) (v := (x6 + 1)) (L' := [some (.ref 54), some (.int x1), some (.int x2), some (.int x3), some (.int x4), some (.int x5), some (.int (x6 + 1))]) dX0_darkErrands_119 rfl rfl (by exact (Nat.le_of_ble_eq_true rfl)) rfl rfl ?_
          refine ab_goto (tgt := 20) dX0_darkErrands_122 (by decide) ?_
          exact Wp.fewer (L' := [some (.ref 54), some (.int x1), some (.int x2), some (.int x3), some (.int x4), some (.int x5), some (.int (x6 + 1))]) (show ab_leL _ _ from ⟨rfl, ⟨rfl, ⟨rfl, ⟨rfl, ⟨rfl, ⟨rfl, ⟨rfl, trivial⟩⟩⟩⟩⟩⟩⟩) ht
set_option maxRecDepth 20000 in
theorem T_X0_darkErrands {Q : Option Value → ah_T → Prop} {h : ah_T} (hs : Sh h) (x1 : Int32) (ht : Wp mX0_darkErrands Q 0 0 10 [some (.ref 54), some (.int x1), some (.int (-1)), some (.int (-1)), some (.int 0), some (.int 0), none] [] h) : Mt mX0_darkErrands [.ref 54, .int x1] h Q := by
  refine Mt.ofWp rfl (by exact (Nat.le_of_ble_eq_true rfl)) (Wp.fewer (L' := [some (.ref 54), some (.int x1), none, none, none, none, none]) (show ab_leL _ _ from ⟨rfl, ⟨rfl, trivial⟩⟩) ?_)
  refine ab_iconst (v := (-1)) dX0_darkErrands_0 (by decide) ?_
  refine ab_istore_n (i := 2) (L' := [some (.ref 54), some (.int x1), some (.int (-1)), none, none, none, none]) dX0_darkErrands_1 rfl (by exact (Nat.le_of_ble_eq_true rfl)) rfl rfl ?_
  refine ab_iconst (v := (-1)) dX0_darkErrands_2 (by decide) ?_
  refine ab_istore_n (i := 3) (L' := [some (.ref 54), some (.int x1), some (.int (-1)), some (.int (-1)), none, none, none]) dX0_darkErrands_3 rfl (by exact (Nat.le_of_ble_eq_true rfl)) rfl rfl ?_
  refine ab_iconst (v := 0) dX0_darkErrands_4 (by decide) ?_
  refine ab_istore (i := 4) (L' := [some (.ref 54), some (.int x1), some (.int (-1)), some (.int (-1)), some (.int 0), none, none]) dX0_darkErrands_5 (by exact (Nat.le_of_ble_eq_true rfl)) rfl rfl ?_
  refine ab_iconst (v := 0) dX0_darkErrands_7 (by decide) ?_
  refine ab_istore (i := 5) (L' := [some (.ref 54), some (.int x1), some (.int (-1)), some (.int (-1)), some (.int 0), some (.int 0), none]) dX0_darkErrands_8 (by exact (Nat.le_of_ble_eq_true rfl)) rfl rfl ?_
  exact Wp.fewer (L' := [some (.ref 54), some (.int x1), some (.int (-1)), some (.int (-1)), some (.int 0), some (.int 0), none]) (show ab_leL _ _ from ⟨rfl, ⟨rfl, ⟨rfl, ⟨rfl, ⟨rfl, ⟨rfl, trivial⟩⟩⟩⟩⟩⟩) ht
theorem dX0_findWalk_0 : decode cX0_findWalk 0 = .ok (.aload_n 0, 1) := by decide +kernel
theorem dX0_findWalk_1 : decode cX0_findWalk 1 = .ok (.getfield 35, 3) := by decide +kernel
theorem dX0_findWalk_4 : decode cX0_findWalk 4 = .ok (.iconst 0, 1) := by decide +kernel
theorem dX0_findWalk_5 : decode cX0_findWalk 5 = .ok (.iaload, 1) := by decide +kernel
theorem dX0_findWalk_6 : decode cX0_findWalk 6 = .ok (.iload_n 1, 1) := by decide +kernel
theorem dX0_findWalk_7 : decode cX0_findWalk 7 = .ok (.if_icmp .ne 35, 3) := by decide +kernel
theorem dX0_findWalk_10 : decode cX0_findWalk 10 = .ok (.aload_n 0, 1) := by decide +kernel
theorem dX0_findWalk_11 : decode cX0_findWalk 11 = .ok (.getfield 35, 3) := by decide +kernel
theorem dX0_findWalk_14 : decode cX0_findWalk 14 = .ok (.iconst 1, 1) := by decide +kernel
theorem dX0_findWalk_15 : decode cX0_findWalk 15 = .ok (.iaload, 1) := by decide +kernel
theorem dX0_findWalk_16 : decode cX0_findWalk 16 = .ok (.iload_n 2, 1) := by decide +kernel
theorem dX0_findWalk_17 : decode cX0_findWalk 17 = .ok (.if_icmp .ne 25, 3) := by decide +kernel
theorem dX0_findWalk_20 : decode cX0_findWalk 20 = .ok (.aload_n 0, 1) := by decide +kernel
theorem dX0_findWalk_21 : decode cX0_findWalk 21 = .ok (.getfield 35, 3) := by decide +kernel
theorem dX0_findWalk_24 : decode cX0_findWalk 24 = .ok (.iconst 2, 1) := by decide +kernel
theorem dX0_findWalk_25 : decode cX0_findWalk 25 = .ok (.iaload, 1) := by decide +kernel
theorem dX0_findWalk_26 : decode cX0_findWalk 26 = .ok (.iload_n 3, 1) := by decide +kernel
theorem dX0_findWalk_27 : decode cX0_findWalk 27 = .ok (.if_icmp .ne 15, 3) := by decide +kernel
theorem dX0_findWalk_30 : decode cX0_findWalk 30 = .ok (.aload_n 0, 1) := by decide +kernel
theorem dX0_findWalk_31 : decode cX0_findWalk 31 = .ok (.getfield 35, 3) := by decide +kernel
theorem dX0_findWalk_34 : decode cX0_findWalk 34 = .ok (.iconst 3, 1) := by decide +kernel
theorem dX0_findWalk_35 : decode cX0_findWalk 35 = .ok (.iaload, 1) := by decide +kernel
theorem dX0_findWalk_36 : decode cX0_findWalk 36 = .ok (.iload 4, 2) := by decide +kernel
theorem dX0_findWalk_38 : decode cX0_findWalk 38 = .ok (.if_icmp .ne 4, 3) := by decide +kernel
theorem dX0_findWalk_41 : decode cX0_findWalk 41 = .ok (.return_, 1) := by decide +kernel
theorem dX0_findWalk_42 : decode cX0_findWalk 42 = .ok (.aload_n 0, 1) := by decide +kernel
theorem dX0_findWalk_43 : decode cX0_findWalk 43 = .ok (.getfield 35, 3) := by decide +kernel
theorem dX0_findWalk_46 : decode cX0_findWalk 46 = .ok (.iconst 0, 1) := by decide +kernel
theorem dX0_findWalk_47 : decode cX0_findWalk 47 = .ok (.iload_n 1, 1) := by decide +kernel
theorem dX0_findWalk_48 : decode cX0_findWalk 48 = .ok (.iastore, 1) := by decide +kernel
theorem dX0_findWalk_49 : decode cX0_findWalk 49 = .ok (.aload_n 0, 1) := by decide +kernel
theorem dX0_findWalk_50 : decode cX0_findWalk 50 = .ok (.getfield 35, 3) := by decide +kernel
theorem dX0_findWalk_53 : decode cX0_findWalk 53 = .ok (.iconst 1, 1) := by decide +kernel
theorem dX0_findWalk_54 : decode cX0_findWalk 54 = .ok (.iload_n 2, 1) := by decide +kernel
theorem dX0_findWalk_55 : decode cX0_findWalk 55 = .ok (.iastore, 1) := by decide +kernel
theorem dX0_findWalk_56 : decode cX0_findWalk 56 = .ok (.aload_n 0, 1) := by decide +kernel
theorem dX0_findWalk_57 : decode cX0_findWalk 57 = .ok (.getfield 35, 3) := by decide +kernel
theorem dX0_findWalk_60 : decode cX0_findWalk 60 = .ok (.iconst 2, 1) := by decide +kernel
theorem dX0_findWalk_61 : decode cX0_findWalk 61 = .ok (.iload_n 3, 1) := by decide +kernel
theorem dX0_findWalk_62 : decode cX0_findWalk 62 = .ok (.iastore, 1) := by decide +kernel
theorem dX0_findWalk_63 : decode cX0_findWalk 63 = .ok (.aload_n 0, 1) := by decide +kernel
theorem dX0_findWalk_64 : decode cX0_findWalk 64 = .ok (.getfield 35, 3) := by decide +kernel
theorem dX0_findWalk_67 : decode cX0_findWalk 67 = .ok (.iconst 3, 1) := by decide +kernel
theorem dX0_findWalk_68 : decode cX0_findWalk 68 = .ok (.iload 4, 2) := by decide +kernel
theorem dX0_findWalk_70 : decode cX0_findWalk 70 = .ok (.iastore, 1) := by decide +kernel
theorem dX0_findWalk_71 : decode cX0_findWalk 71 = .ok (.aload_n 0, 1) := by decide +kernel
theorem dX0_findWalk_72 : decode cX0_findWalk 72 = .ok (.iconst (-1), 1) := by decide +kernel
theorem dX0_findWalk_73 : decode cX0_findWalk 73 = .ok (.putfield 21, 3) := by decide +kernel
theorem dX0_findWalk_76 : decode cX0_findWalk 76 = .ok (.iconst 1, 1) := by decide +kernel
theorem dX0_findWalk_77 : decode cX0_findWalk 77 = .ok (.iload_n 1, 1) := by decide +kernel
theorem dX0_findWalk_78 : decode cX0_findWalk 78 = .ok (.ishl, 1) := by decide +kernel
theorem dX0_findWalk_79 : decode cX0_findWalk 79 = .ok (.istore 5, 2) := by decide +kernel
theorem dX0_findWalk_81 : decode cX0_findWalk 81 = .ok (.iload_n 2, 1) := by decide +kernel
theorem dX0_findWalk_82 : decode cX0_findWalk 82 = .ok (.istore 6, 2) := by decide +kernel
theorem dX0_findWalk_84 : decode cX0_findWalk 84 = .ok (.iload 6, 2) := by decide +kernel
theorem dX0_findWalk_86 : decode cX0_findWalk 86 = .ok (.bipush 120, 2) := by decide +kernel
theorem dX0_findWalk_88 : decode cX0_findWalk 88 = .ok (.if_icmp .ge 87, 3) := by decide +kernel
theorem dX0_findWalk_91 : decode cX0_findWalk 91 = .ok (.aload_n 0, 1) := by decide +kernel
theorem dX0_findWalk_92 : decode cX0_findWalk 92 = .ok (.getfield 21, 3) := by decide +kernel
theorem dX0_findWalk_95 : decode cX0_findWalk 95 = .ok (.iconst (-1), 1) := by decide +kernel
theorem dX0_findWalk_96 : decode cX0_findWalk 96 = .ok (.if_icmp .ne 79, 3) := by decide +kernel
theorem dX0_findWalk_99 : decode cX0_findWalk 99 = .ok (.iload 6, 2) := by decide +kernel
theorem dX0_findWalk_101 : decode cX0_findWalk 101 = .ok (.iload_n 2, 1) := by decide +kernel
theorem dX0_findWalk_102 : decode cX0_findWalk 102 = .ok (.if_icmp .ne 8, 3) := by decide +kernel
theorem dX0_findWalk_105 : decode cX0_findWalk 105 = .ok (.iload 5, 2) := by decide +kernel
theorem dX0_findWalk_107 : decode cX0_findWalk 107 = .ok (.goto 12, 3) := by decide +kernel
theorem dX0_findWalk_110 : decode cX0_findWalk 110 = .ok (.aload_n 0, 1) := by decide +kernel
theorem dX0_findWalk_111 : decode cX0_findWalk 111 = .ok (.getfield 45, 3) := by decide +kernel
theorem dX0_findWalk_114 : decode cX0_findWalk 114 = .ok (.iload 5, 2) := by decide +kernel
theorem dX0_findWalk_116 : decode cX0_findWalk 116 = .ok (.invokevirtual 138, 3) := by decide +kernel
theorem dX0_findWalk_119 : decode cX0_findWalk 119 = .ok (.iload 4, 2) := by decide +kernel
theorem dX0_findWalk_121 : decode cX0_findWalk 121 = .ok (.iconst 1, 1) := by decide +kernel
theorem dX0_findWalk_122 : decode cX0_findWalk 122 = .ok (.if_icmp .ne 12, 3) := by decide +kernel
theorem dX0_findWalk_125 : decode cX0_findWalk 125 = .ok (.aload_n 0, 1) := by decide +kernel
theorem dX0_findWalk_126 : decode cX0_findWalk 126 = .ok (.iload 6, 2) := by decide +kernel
theorem dX0_findWalk_128 : decode cX0_findWalk 128 = .ok (.invokevirtual 130, 3) := by decide +kernel
theorem dX0_findWalk_131 : decode cX0_findWalk 131 = .ok (.goto 11, 3) := by decide +kernel
theorem dX0_findWalk_134 : decode cX0_findWalk 134 = .ok (.aload_n 0, 1) := by decide +kernel
theorem dX0_findWalk_135 : decode cX0_findWalk 135 = .ok (.iload 6, 2) := by decide +kernel
theorem dX0_findWalk_137 : decode cX0_findWalk 137 = .ok (.invokevirtual 130, 3) := by decide +kernel
theorem dX0_findWalk_140 : decode cX0_findWalk 140 = .ok (.iconst (-1), 1) := by decide +kernel
theorem dX0_findWalk_141 : decode cX0_findWalk 141 = .ok (.ixor, 1) := by decide +kernel
theorem dX0_findWalk_142 : decode cX0_findWalk 142 = .ok (.iand, 1) := by decide +kernel
theorem dX0_findWalk_143 : decode cX0_findWalk 143 = .ok (.istore 5, 2) := by decide +kernel
theorem dX0_findWalk_145 : decode cX0_findWalk 145 = .ok (.aload_n 0, 1) := by decide +kernel
theorem dX0_findWalk_146 : decode cX0_findWalk 146 = .ok (.getfield 38, 3) := by decide +kernel
theorem dX0_findWalk_149 : decode cX0_findWalk 149 = .ok (.iload 6, 2) := by decide +kernel
theorem dX0_findWalk_151 : decode cX0_findWalk 151 = .ok (.iload 5, 2) := by decide +kernel
theorem dX0_findWalk_153 : decode cX0_findWalk 153 = .ok (.iastore, 1) := by decide +kernel
theorem dX0_findWalk_154 : decode cX0_findWalk 154 = .ok (.iload 5, 2) := by decide +kernel
theorem dX0_findWalk_156 : decode cX0_findWalk 156 = .ok (.iload_n 3, 1) := by decide +kernel
theorem dX0_findWalk_157 : decode cX0_findWalk 157 = .ok (.ishr, 1) := by decide +kernel
theorem dX0_findWalk_158 : decode cX0_findWalk 158 = .ok (.iconst 1, 1) := by decide +kernel
theorem dX0_findWalk_159 : decode cX0_findWalk 159 = .ok (.iand, 1) := by decide +kernel
theorem dX0_findWalk_160 : decode cX0_findWalk 160 = .ok (.ifCond .eq 9, 3) := by decide +kernel
theorem dX0_findWalk_163 : decode cX0_findWalk 163 = .ok (.aload_n 0, 1) := by decide +kernel
theorem dX0_findWalk_164 : decode cX0_findWalk 164 = .ok (.iload 6, 2) := by decide +kernel
theorem dX0_findWalk_166 : decode cX0_findWalk 166 = .ok (.putfield 21, 3) := by decide +kernel
theorem dX0_findWalk_169 : decode cX0_findWalk 169 = .ok (.iinc 6 1, 3) := by decide +kernel
theorem dX0_findWalk_172 : decode cX0_findWalk 172 = .ok (.goto (-88), 3) := by decide +kernel
theorem dX0_findWalk_175 : decode cX0_findWalk 175 = .ok (.aload_n 0, 1) := by decide +kernel
theorem dX0_findWalk_176 : decode cX0_findWalk 176 = .ok (.getfield 21, 3) := by decide +kernel
theorem dX0_findWalk_179 : decode cX0_findWalk 179 = .ok (.iconst (-1), 1) := by decide +kernel
theorem dX0_findWalk_180 : decode cX0_findWalk 180 = .ok (.if_icmp .eq 9, 3) := by decide +kernel
theorem dX0_findWalk_183 : decode cX0_findWalk 183 = .ok (.aload_n 0, 1) := by decide +kernel
theorem dX0_findWalk_184 : decode cX0_findWalk 184 = .ok (.iload_n 2, 1) := by decide +kernel
theorem dX0_findWalk_185 : decode cX0_findWalk 185 = .ok (.iload_n 3, 1) := by decide +kernel
theorem dX0_findWalk_186 : decode cX0_findWalk 186 = .ok (.invokevirtual 141, 3) := by decide +kernel
theorem dX0_findWalk_189 : decode cX0_findWalk 189 = .ok (.return_, 1) := by decide +kernel
set_option maxRecDepth 20000 in
theorem T_X0_findWalk_84 {Q : Option Value → ah_T → Prop} {h : ah_T} (hs : Sh h) (x2 : Int32) (x3 : Int32) (x4 : Int32) (x5 : Int32) (x6 : Int32) (ht : ((120 ≤ x6 → (((ah_i h 54 3) = (-1) → Q none h) ∧ (¬ (ah_i h 54 3) = (-1) → (Mt mX0_layWalk [.ref 54, .int x2, .int x3] h (ab_qv fun h67 => Sh h67 ∧ Q none h67))))) ∧ (¬ 120 ≤ x6 → ((¬ (ah_i h 54 3) = (-1) → (((ah_i h 54 3) = (-1) → Q none h) ∧ (¬ (ah_i h 54 3) = (-1) → (Mt mX0_layWalk [.ref 54, .int x2, .int x3] h (ab_qv fun h72 => Sh h72 ∧ Q none h72))))) ∧ ((ah_i h 54 3) = (-1) → ((¬ x6 = x2 → (Mt mX6_around [.ref 29, .int x5] h (ab_qi fun v78 h76 => Sh h76 ∧ ((¬ x4 = 1 → (Mt mX0_lightAt [.ref 54, .int x6] h76 (ab_qi fun v82 h80 => Sh h80 ∧ (vp_in x6 (ah_n h80 61)) ∧ (∀ h84, h84 = ah_si h80 61 (Int32.toNatClampNeg x6) (v78 &&& (v82 ^^^ (-1))) → (((((v78 &&& (v82 ^^^ (-1))) >>> (x3 &&& 31)) &&& 1) = 0 → Wp mX0_findWalk Q 0 0 84 [some (.ref 54), none, some (.int x2), some (.int x3), some (.int x4), some (.int (v78 &&& (v82 ^^^ (-1)))), some (.int (x6 + 1))] [] h84) ∧ (¬ (((v78 &&& (v82 ^^^ (-1))) >>> (x3 &&& 31)) &&& 1) = 0 → (∀ h88, h88 = ah_si h84 54 3 x6 → Wp mX0_findWalk Q 0 0 84 [some (.ref 54), none, some (.int x2), some (.int x3), some (.int x4), some (.int (v78 &&& (v82 ^^^ (-1)))), some (.int (x6 + 1))] [] h88))))))) ∧ (x4 = 1 → (Mt mX0_lightAt [.ref 54, .int x6] h76 (ab_qi fun v93 h91 => Sh h91 ∧ (vp_in x6 (ah_n h91 61)) ∧ (∀ h95, h95 = ah_si h91 61 (Int32.toNatClampNeg x6) (v78 &&& v93) → (((((v78 &&& v93) >>> (x3 &&& 31)) &&& 1) = 0 → Wp mX0_findWalk Q 0 0 84 [some (.ref 54), none, some (.int x2), some (.int x3), some (.int x4), some (.int (v78 &&& v93)), some (.int (x6 + 1))] [] h95) ∧ (¬ (((v78 &&& v93) >>> (x3 &&& 31)) &&& 1) = 0 → (∀ h99, h99 = ah_si h95 54 3 x6 → Wp mX0_findWalk Q 0 0 84 [some (.ref 54), none, some (.int x2), some (.int x3), some (.int x4), some (.int (v78 &&& v93)), some (.int (x6 + 1))] [] h99))))))))))) ∧ (x6 = x2 → ((¬ x4 = 1 → (Mt mX0_lightAt [.ref 54, .int x6] h (ab_qi fun v105 h103 => Sh h103 ∧ (vp_in x6 (ah_n h103 61)) ∧ (∀ h107, h107 = ah_si h103 61 (Int32.toNatClampNeg x6) (x5 &&& (v105 ^^^ (-1))) → (((((x5 &&& (v105 ^^^ (-1))) >>> (x3 &&& 31)) &&& 1) = 0 → Wp mX0_findWalk Q 0 0 84 [some (.ref 54), none, some (.int x2), some (.int x3), some (.int x4), some (.int (x5 &&& (v105 ^^^ (-1)))), some (.int (x6 + 1))] [] h107) ∧ (¬ (((x5 &&& (v105 ^^^ (-1))) >>> (x3 &&& 31)) &&& 1) = 0 → (∀ h111, h111 = ah_si h107 54 3 x6 → Wp mX0_findWalk Q 0 0 84 [some (.ref 54), none, some (.int x2), some (.int x3), some (.int x4), some (.int (x5 &&& (v105 ^^^ (-1)))), some (.int (x6 + 1))] [] h111))))))) ∧ (x4 = 1 → (Mt mX0_lightAt [.ref 54, .int x6] h (ab_qi fun v116 h114 => Sh h114 ∧ (vp_in x6 (ah_n h114 61)) ∧ (∀ h118, h118 = ah_si h114 61 (Int32.toNatClampNeg x6) (x5 &&& v116) → (((((x5 &&& v116) >>> (x3 &&& 31)) &&& 1) = 0 → Wp mX0_findWalk Q 0 0 84 [some (.ref 54), none, some (.int x2), some (.int x3), some (.int x4), some (.int (x5 &&& v116)), some (.int (x6 + 1))] [] h118) ∧ (¬ (((x5 &&& v116) >>> (x3 &&& 31)) &&& 1) = 0 → (∀ h122, h122 = ah_si h118 54 3 x6 → Wp mX0_findWalk Q 0 0 84 [some (.ref 54), none, some (.int x2), some (.int x3), some (.int x4), some (.int (x5 &&& v116)), some (.int (x6 + 1))] [] h122))))))))))))))) : Wp mX0_findWalk Q 0 0 84 [some (.ref 54), none, some (.int x2), some (.int x3), some (.int x4), some (.int x5), some (.int x6)] [] h := by
  refine ab_iload (i := 6) dX0_findWalk_84 rfl ?_
  refine ab_bipush (v := 120) dX0_findWalk_86 (by decide) ?_
  refine ab_icmp_ge (tgt := 175) dX0_findWalk_88 (by decide) (fun c65 => ?_) (fun c65 => ?_)
  · have ht := ht.1 c65
    refine ab_aload_n (i := 0) dX0_findWalk_175 rfl rfl ?_
    refine ab_getI f_X0_21 rfl (sh_k hs 54 0 (by decide) rfl) dX0_findWalk_176 ?_
    refine ab_iconst (v := (-1)) dX0_findWalk_179 (by decide) ?_
    refine ab_icmp_eq (tgt := 189) dX0_findWalk_180 (by decide) (fun c66 => ?_) (fun c66 => ?_)
    · have ht := ht.1 c66
      exact ab_vret rfl dX0_findWalk_189 (Nat.le_of_ble_eq_true rfl) (Nat.le_of_ble_eq_true rfl) ht
    · have ht := ht.2 c66
      refine ab_aload_n (i := 0) dX0_findWalk_183 rfl rfl ?_
      refine ab_iload_n (i := 2) dX0_findWalk_184 rfl rfl ?_
      refine ab_iload_n (i := 3) dX0_findWalk_185 rfl rfl ?_
      refine ab_callV (b := 54) (As := [.int x2, .int x3]) ht (Y_X0_layWalk) l_X0_141 in_X0_layWalk se_X0_layWalk (sh_k hs 54 0 (by decide) rfl) (by decide) rfl rfl ⟨(Nat.le_of_ble_eq_true rfl), (Nat.le_of_ble_eq_true rfl), (Nat.le_of_ble_eq_true rfl), (Nat.le_of_ble_eq_true rfl)⟩ dX0_findWalk_186 ?_
      rintro _ h67 ⟨rfl, hs68, ht⟩
      exact ab_vret rfl dX0_findWalk_189 (Nat.le_of_ble_eq_true rfl) (Nat.le_of_ble_eq_true rfl) ht
  · have ht := ht.2 c65
    refine ab_aload_n (i := 0) dX0_findWalk_91 rfl rfl ?_
    refine ab_getI f_X0_21 rfl (sh_k hs 54 0 (by decide) rfl) dX0_findWalk_92 ?_
    refine ab_iconst (v := (-1)) dX0_findWalk_95 (by decide) ?_
    refine ab_icmp_ne (tgt := 175) dX0_findWalk_96 (by decide) (fun c70 => ?_) (fun c70 => ?_)
    · have ht := ht.1 c70
      refine ab_aload_n (i := 0) dX0_findWalk_175 rfl rfl ?_
      refine ab_getI f_X0_21 rfl (sh_k hs 54 0 (by decide) rfl) dX0_findWalk_176 ?_
      refine ab_iconst (v := (-1)) dX0_findWalk_179 (by decide) ?_
      refine ab_icmp_eq (tgt := 189) dX0_findWalk_180 (by decide) (fun c71 => ?_) (fun c71 => ?_)
      · have ht := ht.1 c71
        exact ab_vret rfl dX0_findWalk_189 (Nat.le_of_ble_eq_true rfl) (Nat.le_of_ble_eq_true rfl) ht
      · have ht := ht.2 c71
        refine ab_aload_n (i := 0) dX0_findWalk_183 rfl rfl ?_
        refine ab_iload_n (i := 2) dX0_findWalk_184 rfl rfl ?_
        refine ab_iload_n (i := 3) dX0_findWalk_185 rfl rfl ?_
        refine ab_callV (b := 54) (As := [.int x2, .int x3]) ht (Y_X0_layWalk) l_X0_141 in_X0_layWalk se_X0_layWalk (sh_k hs 54 0 (by decide) rfl) (by decide) rfl rfl ⟨(Nat.le_of_ble_eq_true rfl), (Nat.le_of_ble_eq_true rfl), (Nat.le_of_ble_eq_true rfl), (Nat.le_of_ble_eq_true rfl)⟩ dX0_findWalk_186 ?_
        rintro _ h72 ⟨rfl, hs73, ht⟩
        exact ab_vret rfl dX0_findWalk_189 (Nat.le_of_ble_eq_true rfl) (Nat.le_of_ble_eq_true rfl) ht
    · have ht := ht.2 c70
      refine ab_iload (i := 6) dX0_findWalk_99 rfl ?_
      refine ab_iload_n (i := 2) dX0_findWalk_101 rfl rfl ?_
      refine ab_icmp_ne (tgt := 110) dX0_findWalk_102 (by decide) (fun c75 => ?_) (fun c75 => ?_)
      · have ht := ht.1 c75
        refine ab_aload_n (i := 0) dX0_findWalk_110 rfl rfl ?_
        refine ab_getR (b := 29) f_X0_45 rfl (sh_k hs 54 0 (by decide) rfl) (sh_r hs 68 rfl) dX0_findWalk_111 ?_
        refine ab_iload (i := 5) dX0_findWalk_114 rfl ?_
        refine ab_callV (b := 29) (As := [.int x5]) ht (Y_X6_around) l_X0_138 in_X6_around se_X6_around (sh_k hs 29 6 (by decide) rfl) (by decide) rfl rfl ⟨(Nat.le_of_ble_eq_true rfl), (Nat.le_of_ble_eq_true rfl), (Nat.le_of_ble_eq_true rfl), (Nat.le_of_ble_eq_true rfl)⟩ dX0_findWalk_116 ?_
        rintro _ h76 ⟨v78, rfl, hs77, ht⟩
        refine ab_iload (i := 4) dX0_findWalk_119 rfl ?_
        refine ab_iconst (v := 1) dX0_findWalk_121 (by decide) ?_
        refine ab_icmp_ne (tgt := 134) dX0_findWalk_122 (by decide) (fun c79 => ?_) (fun c79 => ?_)
        · have ht := ht.1 c79
          refine ab_aload_n (i := 0) dX0_findWalk_134 rfl rfl ?_
          refine ab_iload (i := 6) dX0_findWalk_135 rfl ?_
          refine ab_callV (b := 54) (As := [.int x6]) ht (Y_X0_lightAt) l_X0_130 in_X0_lightAt se_X0_lightAt (sh_k hs77 54 0 (by decide) rfl) (by decide) rfl rfl ⟨(Nat.le_of_ble_eq_true rfl), (Nat.le_of_ble_eq_true rfl), (Nat.le_of_ble_eq_true rfl), (Nat.le_of_ble_eq_true rfl)⟩ dX0_findWalk_137 ?_
          rintro _ h80 ⟨v82, rfl, hs81, ht⟩
          refine ab_iconst (v := (-1)) dX0_findWalk_140 (by decide) ?_
          refine ab_ixor dX0_findWalk_141 ?_
          refine ab_iand dX0_findWalk_142 ?_
          refine ab_istore (i := 5) (L' := [some (.ref 54), none, some (.int x2), some (.int x3), some (.int x4), some (.int (v78 &&& (v82 ^^^ (-1)))), some (.int x6)]) dX0_findWalk_143 (by exact (Nat.le_of_ble_eq_true rfl)) rfl rfl ?_
          refine ab_aload_n (i := 0) dX0_findWalk_145 rfl rfl ?_
          refine ab_getR (b := 61) f_X0_38 rfl (sh_k hs81 54 0 (by decide) rfl) (sh_r hs81 73 rfl) dX0_findWalk_146 ?_
          refine ab_iload (i := 6) dX0_findWalk_149 rfl ?_
          refine ab_iload (i := 5) dX0_findWalk_151 rfl ?_
          obtain ⟨hc83, ht⟩ := ht
          refine ab_iast (sh_k hs81 61 14 (by decide) rfl) hc83 dX0_findWalk_153 ?_
          refine Wp.nm fun h84 e85 => ?_
          have ht := ht h84 e85
          have hs86 : Sh h84 := by rw [e85]; exact sh_si hs81
          refine ab_iload (i := 5) dX0_findWalk_154 rfl ?_
          refine ab_iload_n (i := 3) dX0_findWalk_156 rfl rfl ?_
          refine ab_ishr dX0_findWalk_157 ?_
          refine ab_iconst (v := 1) dX0_findWalk_158 (by decide) ?_
          refine ab_iand dX0_findWalk_159 ?_
          refine ab_if_eq (tgt := 169) dX0_findWalk_160 (by decide) (fun c87 => ?_) (fun c87 => ?_)
          · have ht := ht.1 c87
            refine ab_iinc (i := 6) (x := x6) (v := (x6 + 1)) (L' := [some (.ref 54), none, some (.int x2), some (.int x3), some (.int x4), some (.int (v78 &&& (v82 ^^^ (-1)))), some (.int (x6 + 1))]) dX0_findWalk_169 rfl rfl (by exact (Nat.le_of_ble_eq_true rfl)) rfl rfl ?_
            refine ab_goto (tgt := 84) dX0_findWalk_172 (by decide) ?_
            exact Wp.fewer (L' := [some (.ref 54), none, some (.int x2), some (.int x3), some (.int x4), some (.int (v78 &&& (v82 ^^^ (-1)))), some (.int (x6 + 1))]) (show ab_leL _ _ from ⟨rfl, ⟨rfl, ⟨rfl, ⟨rfl, ⟨rfl, ⟨rfl, trivial⟩⟩⟩⟩⟩⟩) ht
          · have ht := ht.2 c87
            refine ab_aload_n (i := 0) dX0_findWalk_163 rfl rfl ?_
            refine ab_iload (i := 6) dX0_findWalk_164 rfl ?_
            refine ab_putI f_X0_21 (Or.inl rfl) rfl (sh_k hs86 54 0 (by decide) rfl) rfl rfl dX0_findWalk_166 ?_
            refine Wp.nm fun h88 e89 => ?_
            have ht := ht h88 e89
            have hs90 : Sh h88 := by rw [e89]; exact sh_si hs86
            refine ab_iinc (i := 6) (x := x6) (v := (x6 + 1)) (L' := [some (.ref 54), none, some (.int x2), some (.int x3), some (.int x4), some (.int (v78 &&& (v82 ^^^ (-1)))), some (.int (x6 + 1))]) dX0_findWalk_169 rfl rfl (by exact (Nat.le_of_ble_eq_true rfl)) rfl rfl ?_
            refine ab_goto (tgt := 84) dX0_findWalk_172 (by decide) ?_
            exact Wp.fewer (L' := [some (.ref 54), none, some (.int x2), some (.int x3), some (.int x4), some (.int (v78 &&& (v82 ^^^ (-1)))), some (.int (x6 + 1))]) (show ab_leL _ _ from ⟨rfl, ⟨rfl, ⟨rfl, ⟨rfl, ⟨rfl, ⟨rfl, trivial⟩⟩⟩⟩⟩⟩) ht
        · have ht := ht.2 c79
          refine ab_aload_n (i := 0) dX0_findWalk_125 rfl rfl ?_
          refine ab_iload (i := 6) dX0_findWalk_126 rfl ?_
          refine ab_callV (b := 54) (As := [.int x6]) ht (Y_X0_lightAt) l_X0_130 in_X0_lightAt se_X0_lightAt (sh_k hs77 54 0 (by decide) rfl) (by decide) rfl rfl ⟨(Nat.le_of_ble_eq_true rfl), (Nat.le_of_ble_eq_true rfl), (Nat.le_of_ble_eq_true rfl), (Nat.le_of_ble_eq_true rfl)⟩ dX0_findWalk_128 ?_
          rintro _ h91 ⟨v93, rfl, hs92, ht⟩
          refine ab_goto (tgt := 142) dX0_findWalk_131 (by decide) ?_
          refine ab_iand dX0_findWalk_142 ?_
          refine ab_istore (i := 5) (L' := [some (.ref 54), none, some (.int x2), some (.int x3), some (.int x4), some (.int (v78 &&& v93)), some (.int x6)]) dX0_findWalk_143 (by exact (Nat.le_of_ble_eq_true rfl)) rfl rfl ?_
          refine ab_aload_n (i := 0) dX0_findWalk_145 rfl rfl ?_
          refine ab_getR (b := 61) f_X0_38 rfl (sh_k hs92 54 0 (by decide) rfl) (sh_r hs92 73 rfl) dX0_findWalk_146 ?_
          refine ab_iload (i := 6) dX0_findWalk_149 rfl ?_
          refine ab_iload (i := 5) dX0_findWalk_151 rfl ?_
          obtain ⟨hc94, ht⟩ := ht
          refine ab_iast (sh_k hs92 61 14 (by decide) rfl) hc94 dX0_findWalk_153 ?_
          refine Wp.nm fun h95 e96 => ?_
          have ht := ht h95 e96
          have hs97 : Sh h95 := by rw [e96]; exact sh_si hs92
          refine ab_iload (i := 5) dX0_findWalk_154 rfl ?_
          refine ab_iload_n (i := 3) dX0_findWalk_156 rfl rfl ?_
          refine ab_ishr dX0_findWalk_157 ?_
          refine ab_iconst (v := 1) dX0_findWalk_158 (by decide) ?_
          refine ab_iand dX0_findWalk_159 ?_
          refine ab_if_eq (tgt := 169) dX0_findWalk_160 (by decide) (fun c98 => ?_) (fun c98 => ?_)
          · have ht := ht.1 c98
            refine ab_iinc (i := 6) (x := x6) (v := (x6 + 1)) (L' := [some (.ref 54), none, some (.int x2), some (.int x3), some (.int x4), some (.int (v78 &&& v93)), some (.int (x6 + 1))]) dX0_findWalk_169 rfl rfl (by exact (Nat.le_of_ble_eq_true rfl)) rfl rfl ?_
            refine ab_goto (tgt := 84) dX0_findWalk_172 (by decide) ?_
            exact Wp.fewer (L' := [some (.ref 54), none, some (.int x2), some (.int x3), some (.int x4), some (.int (v78 &&& v93)), some (.int (x6 + 1))]) (show ab_leL _ _ from ⟨rfl, ⟨rfl, ⟨rfl, ⟨rfl, ⟨rfl, ⟨rfl, trivial⟩⟩⟩⟩⟩⟩) ht
          · have ht := ht.2 c98
            refine ab_aload_n (i := 0) dX0_findWalk_163 rfl rfl ?_
            refine ab_iload (i := 6) dX0_findWalk_164 rfl ?_
            refine ab_putI f_X0_21 (Or.inl rfl) rfl (sh_k hs97 54 0 (by decide) rfl) rfl rfl dX0_findWalk_166 ?_
            refine Wp.nm fun h99 e100 => ?_
            have ht := ht h99 e100
            have hs101 : Sh h99 := by rw [e100]; exact sh_si hs97
            refine ab_iinc (i := 6) (x := x6) (v := (x6 + 1)) (L' := [some (.ref 54), none, some (.int x2), some (.int x3), some (.int x4), some (.int (v78 &&& v93)), some (.int (x6 + 1))]) dX0_findWalk_169 rfl rfl (by exact (Nat.le_of_ble_eq_true rfl)) rfl rfl ?_
            refine ab_goto (tgt := 84) dX0_findWalk_172 (by decide) ?_
            exact Wp.fewer (L' := [some (.ref 54), none, some (.int x2), some (.int x3), some (.int x4), some (.int (v78 &&& v93)), some (.int (x6 + 1))]) (show ab_leL _ _ from ⟨rfl, ⟨rfl, ⟨rfl, ⟨rfl, ⟨rfl, ⟨rfl, trivial⟩⟩⟩⟩⟩⟩) ht
      · have ht := ht.2 c75
        refine ab_iload (i := 5) dX0_findWalk_105 rfl ?_
        refine ab_goto (tgt := 119) dX0_findWalk_107 (by decide) ?_
        refine ab_iload (i := 4) dX0_findWalk_119 rfl ?_
        refine ab_iconst (v := 1) dX0_findWalk_121 (by decide) ?_
        refine ab_icmp_ne (tgt := 134) dX0_findWalk_122 (by decide) (fun c102 => ?_) (fun c102 => ?_)
        · have ht := ht.1 c102
          refine ab_aload_n (i := 0) dX0_findWalk_134 rfl rfl ?_
          refine ab_iload (i := 6) dX0_findWalk_135 rfl ?_
          refine ab_callV (b := 54) (As := [.int x6]) ht (Y_X0_lightAt) l_X0_130 in_X0_lightAt se_X0_lightAt (sh_k hs 54 0 (by decide) rfl) (by decide) rfl rfl ⟨(Nat.le_of_ble_eq_true rfl), (Nat.le_of_ble_eq_true rfl), (Nat.le_of_ble_eq_true rfl), (Nat.le_of_ble_eq_true rfl)⟩ dX0_findWalk_137 ?_
          rintro _ h103 ⟨v105, rfl, hs104, ht⟩
          refine ab_iconst (v := (-1)) dX0_findWalk_140 (by decide) ?_
          refine ab_ixor dX0_findWalk_141 ?_
          refine ab_iand dX0_findWalk_142 ?_
          refine ab_istore (i := 5) (L' := [some (.ref 54), none, some (.int x2), some (.int x3), some (.int x4), some (.int (x5 &&& (v105 ^^^ (-1)))), some (.int x6)]) dX0_findWalk_143 (by exact (Nat.le_of_ble_eq_true rfl)) rfl rfl ?_
          refine ab_aload_n (i := 0) dX0_findWalk_145 rfl rfl ?_
          refine ab_getR (b := 61) f_X0_38 rfl (sh_k hs104 54 0 (by decide) rfl) (sh_r hs104 73 rfl) dX0_findWalk_146 ?_
          refine ab_iload (i := 6) dX0_findWalk_149 rfl ?_
          refine ab_iload (i := 5) dX0_findWalk_151 rfl ?_
          obtain ⟨hc106, ht⟩ := ht
          refine ab_iast (sh_k hs104 61 14 (by decide) rfl) hc106 dX0_findWalk_153 ?_
          refine Wp.nm fun h107 e108 => ?_
          have ht := ht h107 e108
          have hs109 : Sh h107 := by rw [e108]; exact sh_si hs104
          refine ab_iload (i := 5) dX0_findWalk_154 rfl ?_
          refine ab_iload_n (i := 3) dX0_findWalk_156 rfl rfl ?_
          refine ab_ishr dX0_findWalk_157 ?_
          refine ab_iconst (v := 1) dX0_findWalk_158 (by decide) ?_
          refine ab_iand dX0_findWalk_159 ?_
          refine ab_if_eq (tgt := 169) dX0_findWalk_160 (by decide) (fun c110 => ?_) (fun c110 => ?_)
          · have ht := ht.1 c110
            refine ab_iinc (i := 6) (x := x6) (v := (x6 + 1)) (L' := [some (.ref 54), none, some (.int x2), some (.int x3), some (.int x4), some (.int (x5 &&& (v105 ^^^ (-1)))), some (.int (x6 + 1))]) dX0_findWalk_169 rfl rfl (by exact (Nat.le_of_ble_eq_true rfl)) rfl rfl ?_
            refine ab_goto (tgt := 84) dX0_findWalk_172 (by decide) ?_
            exact Wp.fewer (L' := [some (.ref 54), none, some (.int x2), some (.int x3), some (.int x4), some (.int (x5 &&& (v105 ^^^ (-1)))), some (.int (x6 + 1))]) (show ab_leL _ _ from ⟨rfl, ⟨rfl, ⟨rfl, ⟨rfl, ⟨rfl, ⟨rfl, trivial⟩⟩⟩⟩⟩⟩) ht
          · have ht := ht.2 c110
            refine ab_aload_n (i := 0) dX0_findWalk_163 rfl rfl ?_
            refine ab_iload (i := 6) dX0_findWalk_164 rfl ?_
            refine ab_putI f_X0_21 (Or.inl rfl) rfl (sh_k hs109 54 0 (by decide) rfl) rfl rfl dX0_findWalk_166 ?_
            refine Wp.nm fun h111 e112 => ?_
            have ht := ht h111 e112
            have hs113 : Sh h111 := by rw [e112]; exact sh_si hs109
            refine ab_iinc (i := 6) (x := x6) (v := (x6 + 1)) (L' := [some (.ref 54), none, some (.int x2), some (.int x3), some (.int x4), some (.int (x5 &&& (v105 ^^^ (-1)))), some (.int (x6 + 1))]) dX0_findWalk_169 rfl rfl (by exact (Nat.le_of_ble_eq_true rfl)) rfl rfl ?_
            refine ab_goto (tgt := 84) dX0_findWalk_172 (by decide) ?_
            exact Wp.fewer (L' := [some (.ref 54), none, some (.int x2), some (.int x3), some (.int x4), some (.int (x5 &&& (v105 ^^^ (-1)))), some (.int (x6 + 1))]) (show ab_leL _ _ from ⟨rfl, ⟨rfl, ⟨rfl, ⟨rfl, ⟨rfl, ⟨rfl, trivial⟩⟩⟩⟩⟩⟩) ht
        · have ht := ht.2 c102
          refine ab_aload_n (i := 0) dX0_findWalk_125 rfl rfl ?_
          refine ab_iload (i := 6) dX0_findWalk_126 rfl ?_
          refine ab_callV (b := 54) (As := [.int x6]) ht (Y_X0_lightAt) l_X0_130 in_X0_lightAt se_X0_lightAt (sh_k hs 54 0 (by decide) rfl) (by decide) rfl rfl ⟨(Nat.le_of_ble_eq_true rfl), (Nat.le_of_ble_eq_true rfl), (Nat.le_of_ble_eq_true rfl), (Nat.le_of_ble_eq_true rfl)⟩ dX0_findWalk_128 ?_
          rintro _ h114 ⟨v116, rfl, hs115, ht⟩
          refine ab_goto (tgt := 142) dX0_findWalk_131 (by decide) ?_
          refine ab_iand dX0_findWalk_142 ?_
          refine ab_istore (i := 5) (L' := [some (.ref 54), none, some (.int x2), some (.int x3), some (.int x4), some (.int (x5 &&& v116)), some (.int x6)]) dX0_findWalk_143 (by exact (Nat.le_of_ble_eq_true rfl)) rfl rfl ?_
          refine ab_aload_n (i := 0) dX0_findWalk_145 rfl rfl ?_
          refine ab_getR (b := 61) f_X0_38 rfl (sh_k hs115 54 0 (by decide) rfl) (sh_r hs115 73 rfl) dX0_findWalk_146 ?_
          refine ab_iload (i := 6) dX0_findWalk_149 rfl ?_
          refine ab_iload (i := 5) dX0_findWalk_151 rfl ?_
          obtain ⟨hc117, ht⟩ := ht
          refine ab_iast (sh_k hs115 61 14 (by decide) rfl) hc117 dX0_findWalk_153 ?_
          refine Wp.nm fun h118 e119 => ?_
          have ht := ht h118 e119
          have hs120 : Sh h118 := by rw [e119]; exact sh_si hs115
          refine ab_iload (i := 5) dX0_findWalk_154 rfl ?_
          refine ab_iload_n (i := 3) dX0_findWalk_156 rfl rfl ?_
          refine ab_ishr dX0_findWalk_157 ?_
          refine ab_iconst (v := 1) dX0_findWalk_158 (by decide) ?_
          refine ab_iand dX0_findWalk_159 ?_
          refine ab_if_eq (tgt := 169) dX0_findWalk_160 (by decide) (fun c121 => ?_) (fun c121 => ?_)
          · have ht := ht.1 c121
            refine ab_iinc (i := 6) (x := x6) (v := (x6 + 1)) (L' := [some (.ref 54), none, some (.int x2), some (.int x3), some (.int x4), some (.int (x5 &&& v116)), some (.int (x6 + 1))]) dX0_findWalk_169 rfl rfl (by exact (Nat.le_of_ble_eq_true rfl)) rfl rfl ?_
            refine ab_goto (tgt := 84) dX0_findWalk_172 (by decide) ?_
            exact Wp.fewer (L' := [some (.ref 54), none, some (.int x2), some (.int x3), some (.int x4), some (.int (x5 &&& v116)), some (.int (x6 + 1))]) (show ab_leL _ _ from ⟨rfl, ⟨rfl, ⟨rfl, ⟨rfl, ⟨rfl, ⟨rfl, trivial⟩⟩⟩⟩⟩⟩) ht
          · have ht := ht.2 c121
            refine ab_aload_n (i := 0) dX0_findWalk_163 rfl rfl ?_
            refine ab_iload (i := 6) dX0_findWalk_164 rfl ?_
            refine ab_putI f_X0_21 (Or.inl rfl) rfl (sh_k hs120 54 0 (by decide) rfl) rfl rfl dX0_findWalk_166 ?_
            refine Wp.nm fun h122 e123 => ?_
            have ht := ht h122 e123
            have hs124 : Sh h122 := by rw [e123]; exact sh_si hs120
            refine ab_iinc (i := 6) (x := x6) (v := (x6 + 1)) (L' := [some (.ref 54), none, some (.int x2), some (.int x3), some (.int x4), some (.int (x5 &&& v116)), some (.int (x6 + 1))]) dX0_findWalk_169 rfl rfl (by exact (Nat.le_of_ble_eq_true rfl)) rfl rfl ?_
            refine ab_goto (tgt := 84) dX0_findWalk_172 (by decide) ?_
            exact Wp.fewer (L' := [some (.ref 54), none, some (.int x2), some (.int x3), some (.int x4), some (.int (x5 &&& v116)), some (.int (x6 + 1))]) (show ab_leL _ _ from ⟨rfl, ⟨rfl, ⟨rfl, ⟨rfl, ⟨rfl, ⟨rfl, trivial⟩⟩⟩⟩⟩⟩) ht
set_option maxRecDepth 20000 in
theorem T_X0_findWalk {Q : Option Value → ah_T → Prop} {h : ah_T} (hs : Sh h) (x1 : Int32) (x2 : Int32) (x3 : Int32) (x4 : Int32) (ht : ((¬ (ah_i h 60 (Int32.toNatClampNeg 0)) = x1 → (∀ h2, h2 = ah_si h 60 (Int32.toNatClampNeg 0) x1 → (∀ h5, h5 = ah_si h2 60 (Int32.toNatClampNeg 1) x2 → (∀ h8, h8 = ah_si h5 60 (Int32.toNatClampNeg 2) x3 → (∀ h11, h11 = ah_si h8 60 (Int32.toNatClampNeg 3) x4 → (∀ h14, h14 = ah_si h11 54 3 (-1) → Wp mX0_findWalk Q 0 0 84 [some (.ref 54), none, some (.int x2), some (.int x3), some (.int x4), some (.int ((1 : Int32) <<< (x1 &&& 31))), some (.int x2)] [] h14)))))) ∧ ((ah_i h 60 (Int32.toNatClampNeg 0)) = x1 → ((¬ (ah_i h 60 (Int32.toNatClampNeg 1)) = x2 → (∀ h18, h18 = ah_si h 60 (Int32.toNatClampNeg 0) x1 → (∀ h21, h21 = ah_si h18 60 (Int32.toNatClampNeg 1) x2 → (∀ h24, h24 = ah_si h21 60 (Int32.toNatClampNeg 2) x3 → (∀ h27, h27 = ah_si h24 60 (Int32.toNatClampNeg 3) x4 → (∀ h30, h30 = ah_si h27 54 3 (-1) → Wp mX0_findWalk Q 0 0 84 [some (.ref 54), none, some (.int x2), some (.int x3), some (.int x4), some (.int ((1 : Int32) <<< (x1 &&& 31))), some (.int x2)] [] h30)))))) ∧ ((ah_i h 60 (Int32.toNatClampNeg 1)) = x2 → ((¬ (ah_i h 60 (Int32.toNatClampNeg 2)) = x3 → (∀ h34, h34 = ah_si h 60 (Int32.toNatClampNeg 0) x1 → (∀ h37, h37 = ah_si h34 60 (Int32.toNatClampNeg 1) x2 → (∀ h40, h40 = ah_si h37 60 (Int32.toNatClampNeg 2) x3 → (∀ h43, h43 = ah_si h40 60 (Int32.toNatClampNeg 3) x4 → (∀ h46, h46 = ah_si h43 54 3 (-1) → Wp mX0_findWalk Q 0 0 84 [some (.ref 54), none, some (.int x2), some (.int x3), some (.int x4), some (.int ((1 : Int32) <<< (x1 &&& 31))), some (.int x2)] [] h46)))))) ∧ ((ah_i h 60 (Int32.toNatClampNeg 2)) = x3 → ((¬ (ah_i h 60 (Int32.toNatClampNeg 3)) = x4 → (∀ h50, h50 = ah_si h 60 (Int32.toNatClampNeg 0) x1 → (∀ h53, h53 = ah_si h50 60 (Int32.toNatClampNeg 1) x2 → (∀ h56, h56 = ah_si h53 60 (Int32.toNatClampNeg 2) x3 → (∀ h59, h59 = ah_si h56 60 (Int32.toNatClampNeg 3) x4 → (∀ h62, h62 = ah_si h59 54 3 (-1) → Wp mX0_findWalk Q 0 0 84 [some (.ref 54), none, some (.int x2), some (.int x3), some (.int x4), some (.int ((1 : Int32) <<< (x1 &&& 31))), some (.int x2)] [] h62)))))) ∧ ((ah_i h 60 (Int32.toNatClampNeg 3)) = x4 → Q none h))))))))) : Mt mX0_findWalk [.ref 54, .int x1, .int x2, .int x3, .int x4] h Q := by
  refine Mt.ofWp rfl (by exact (Nat.le_of_ble_eq_true rfl)) (Wp.fewer (L' := [some (.ref 54), some (.int x1), some (.int x2), some (.int x3), some (.int x4), none, none]) (show ab_leL _ _ from ⟨rfl, ⟨rfl, ⟨rfl, ⟨rfl, ⟨rfl, trivial⟩⟩⟩⟩⟩) ?_)
  refine ab_aload_n (i := 0) dX0_findWalk_0 rfl rfl ?_
  refine ab_getR (b := 60) f_X0_35 rfl (sh_k hs 54 0 (by decide) rfl) (sh_r hs 72 rfl) dX0_findWalk_1 ?_
  refine ab_iconst (v := 0) dX0_findWalk_4 (by decide) ?_
  refine ab_iald (sh_k hs 60 14 (by decide) rfl) (sh_in hs 60 4 (by decide) (by decide) rfl (by unfold vp_in; decide)) dX0_findWalk_5 ?_
  refine ab_iload_n (i := 1) dX0_findWalk_6 rfl rfl ?_
  refine ab_icmp_ne (tgt := 42) dX0_findWalk_7 (by decide) (fun c1 => ?_) (fun c1 => ?_)
  · have ht := ht.1 c1
    refine ab_aload_n (i := 0) dX0_findWalk_42 rfl rfl ?_
    refine ab_getR (b := 60) f_X0_35 rfl (sh_k hs 54 0 (by decide) rfl) (sh_r hs 72 rfl) dX0_findWalk_43 ?_
    refine ab_iconst (v := 0) dX0_findWalk_46 (by decide) ?_
    refine ab_iload_n (i := 1) dX0_findWalk_47 rfl rfl ?_
    refine ab_iast (sh_k hs 60 14 (by decide) rfl) (sh_in hs 60 4 (by decide) (by decide) rfl (by unfold vp_in; decide)) dX0_findWalk_48 ?_
    refine Wp.nm fun h2 e3 => ?_
    have ht := ht h2 e3
    have hs4 : Sh h2 := by rw [e3]; exact sh_si hs
    refine ab_aload_n (i := 0) dX0_findWalk_49 rfl rfl ?_
    refine ab_getR (b := 60) f_X0_35 rfl (sh_k hs4 54 0 (by decide) rfl) (sh_r hs4 72 rfl) dX0_findWalk_50 ?_
    refine ab_iconst (v := 1) dX0_findWalk_53 (by decide) ?_
    refine ab_iload_n (i := 2) dX0_findWalk_54 rfl rfl ?_
    refine ab_iast (sh_k hs4 60 14 (by decide) rfl) (sh_in hs4 60 4 (by decide) (by decide) rfl (by unfold vp_in; decide)) dX0_findWalk_55 ?_
    refine Wp.nm fun h5 e6 => ?_
    have ht := ht h5 e6
    have hs7 : Sh h5 := by rw [e6]; exact sh_si hs4
    refine ab_aload_n (i := 0) dX0_findWalk_56 rfl rfl ?_
    refine ab_getR (b := 60) f_X0_35 rfl (sh_k hs7 54 0 (by decide) rfl) (sh_r hs7 72 rfl) dX0_findWalk_57 ?_
    refine ab_iconst (v := 2) dX0_findWalk_60 (by decide) ?_
    refine ab_iload_n (i := 3) dX0_findWalk_61 rfl rfl ?_
    refine ab_iast (sh_k hs7 60 14 (by decide) rfl) (sh_in hs7 60 4 (by decide) (by decide) rfl (by unfold vp_in; decide)) dX0_findWalk_62 ?_
    refine Wp.nm fun h8 e9 => ?_
    have ht := ht h8 e9
    have hs10 : Sh h8 := by rw [e9]; exact sh_si hs7
    refine ab_aload_n (i := 0) dX0_findWalk_63 rfl rfl ?_
    refine ab_getR (b := 60) f_X0_35 rfl (sh_k hs10 54 0 (by decide) rfl) (sh_r hs10 72 rfl) dX0_findWalk_64 ?_
    refine ab_iconst (v := 3) dX0_findWalk_67 (by decide) ?_
    refine ab_iload (i := 4) dX0_findWalk_68 rfl ?_
    refine ab_iast (sh_k hs10 60 14 (by decide) rfl) (sh_in hs10 60 4 (by decide) (by decide) rfl (by unfold vp_in; decide)) dX0_findWalk_70 ?_
    refine Wp.nm fun h11 e12 => ?_
    have ht := ht h11 e12
    have hs13 : Sh h11 := by rw [e12]; exact sh_si hs10
    refine ab_aload_n (i := 0) dX0_findWalk_71 rfl rfl ?_
    refine ab_iconst (v := (-1)) dX0_findWalk_72 (by decide) ?_
    refine ab_putI f_X0_21 (Or.inl rfl) rfl (sh_k hs13 54 0 (by decide) rfl) rfl rfl dX0_findWalk_73 ?_
    refine Wp.nm fun h14 e15 => ?_
    have ht := ht h14 e15
    have hs16 : Sh h14 := by rw [e15]; exact sh_si hs13
    refine ab_iconst (v := 1) dX0_findWalk_76 (by decide) ?_
    refine ab_iload_n (i := 1) dX0_findWalk_77 rfl rfl ?_
    refine ab_ishl dX0_findWalk_78 ?_
    refine ab_istore (i := 5) (L' := [some (.ref 54), some (.int x1), some (.int x2), some (.int x3), some (.int x4), some (.int ((1 : Int32) <<< (x1 &&& 31))), none]) dX0_findWalk_79 (by exact (Nat.le_of_ble_eq_true rfl)) rfl rfl ?_
    refine ab_iload_n (i := 2) dX0_findWalk_81 rfl rfl ?_
    refine ab_istore (i := 6) (L' := [some (.ref 54), some (.int x1), some (.int x2), some (.int x3), some (.int x4), some (.int ((1 : Int32) <<< (x1 &&& 31))), some (.int x2)]) dX0_findWalk_82 (by exact (Nat.le_of_ble_eq_true rfl)) rfl rfl ?_
    exact Wp.fewer (L' := [some (.ref 54), none, some (.int x2), some (.int x3), some (.int x4), some (.int ((1 : Int32) <<< (x1 &&& 31))), some (.int x2)]) (show ab_leL _ _ from ⟨rfl, ⟨rfl, ⟨rfl, ⟨rfl, ⟨rfl, ⟨rfl, trivial⟩⟩⟩⟩⟩⟩) ht
  · have ht := ht.2 c1
    refine ab_aload_n (i := 0) dX0_findWalk_10 rfl rfl ?_
    refine ab_getR (b := 60) f_X0_35 rfl (sh_k hs 54 0 (by decide) rfl) (sh_r hs 72 rfl) dX0_findWalk_11 ?_
    refine ab_iconst (v := 1) dX0_findWalk_14 (by decide) ?_
    refine ab_iald (sh_k hs 60 14 (by decide) rfl) (sh_in hs 60 4 (by decide) (by decide) rfl (by unfold vp_in; decide)) dX0_findWalk_15 ?_
    refine ab_iload_n (i := 2) dX0_findWalk_16 rfl rfl ?_
    refine ab_icmp_ne (tgt := 42) dX0_findWalk_17 (by decide) (fun c17 => ?_) (fun c17 => ?_)
    · have ht := ht.1 c17
      refine ab_aload_n (i := 0) dX0_findWalk_42 rfl rfl ?_
      refine ab_getR (b := 60) f_X0_35 rfl (sh_k hs 54 0 (by decide) rfl) (sh_r hs 72 rfl) dX0_findWalk_43 ?_
      refine ab_iconst (v := 0) dX0_findWalk_46 (by decide) ?_
      refine ab_iload_n (i := 1) dX0_findWalk_47 rfl rfl ?_
      refine ab_iast (sh_k hs 60 14 (by decide) rfl) (sh_in hs 60 4 (by decide) (by decide) rfl (by unfold vp_in; decide)) dX0_findWalk_48 ?_
      refine Wp.nm fun h18 e19 => ?_
      have ht := ht h18 e19
      have hs20 : Sh h18 := by rw [e19]; exact sh_si hs
      refine ab_aload_n (i := 0) dX0_findWalk_49 rfl rfl ?_
      refine ab_getR (b := 60) f_X0_35 rfl (sh_k hs20 54 0 (by decide) rfl) (sh_r hs20 72 rfl) dX0_findWalk_50 ?_
      refine ab_iconst (v := 1) dX0_findWalk_53 (by decide) ?_
      refine ab_iload_n (i := 2) dX0_findWalk_54 rfl rfl ?_
      refine ab_iast (sh_k hs20 60 14 (by decide) rfl) (sh_in hs20 60 4 (by decide) (by decide) rfl (by unfold vp_in; decide)) dX0_findWalk_55 ?_
      refine Wp.nm fun h21 e22 => ?_
      have ht := ht h21 e22
      have hs23 : Sh h21 := by rw [e22]; exact sh_si hs20
      refine ab_aload_n (i := 0) dX0_findWalk_56 rfl rfl ?_
      refine ab_getR (b := 60) f_X0_35 rfl (sh_k hs23 54 0 (by decide) rfl) (sh_r hs23 72 rfl) dX0_findWalk_57 ?_
      refine ab_iconst (v := 2) dX0_findWalk_60 (by decide) ?_
      refine ab_iload_n (i := 3) dX0_findWalk_61 rfl rfl ?_
      refine ab_iast (sh_k hs23 60 14 (by decide) rfl) (sh_in hs23 60 4 (by decide) (by decide) rfl (by unfold vp_in; decide)) dX0_findWalk_62 ?_
      refine Wp.nm fun h24 e25 => ?_
      have ht := ht h24 e25
      have hs26 : Sh h24 := by rw [e25]; exact sh_si hs23
      refine ab_aload_n (i := 0) dX0_findWalk_63 rfl rfl ?_
      refine ab_getR (b := 60) f_X0_35 rfl (sh_k hs26 54 0 (by decide) rfl) (sh_r hs26 72 rfl) dX0_findWalk_64 ?_
      refine ab_iconst (v := 3) dX0_findWalk_67 (by decide) ?_
      refine ab_iload (i := 4) dX0_findWalk_68 rfl ?_
      refine ab_iast (sh_k hs26 60 14 (by decide) rfl) (sh_in hs26 60 4 (by decide) (by decide) rfl (by unfold vp_in; decide)) dX0_findWalk_70 ?_
      refine Wp.nm fun h27 e28 => ?_
      have ht := ht h27 e28
      have hs29 : Sh h27 := by rw [e28]; exact sh_si hs26
      refine ab_aload_n (i := 0) dX0_findWalk_71 rfl rfl ?_
      refine ab_iconst (v := (-1)) dX0_findWalk_72 (by decide) ?_
      refine ab_putI f_X0_21 (Or.inl rfl) rfl (sh_k hs29 54 0 (by decide) rfl) rfl rfl dX0_findWalk_73 ?_
      refine Wp.nm fun h30 e31 => ?_
      have ht := ht h30 e31
      have hs32 : Sh h30 := by rw [e31]; exact sh_si hs29
      refine ab_iconst (v := 1) dX0_findWalk_76 (by decide) ?_
      refine ab_iload_n (i := 1) dX0_findWalk_77 rfl rfl ?_
      refine ab_ishl dX0_findWalk_78 ?_
      refine ab_istore (i := 5) (L' := [some (.ref 54), some (.int x1), some (.int x2), some (.int x3), some (.int x4), some (.int ((1 : Int32) <<< (x1 &&& 31))), none]) dX0_findWalk_79 (by exact (Nat.le_of_ble_eq_true rfl)) rfl rfl ?_
      refine ab_iload_n (i := 2) dX0_findWalk_81 rfl rfl ?_
      refine ab_istore (i := 6) (L' := [some (.ref 54), some (.int x1), some (.int x2), some (.int x3), some (.int x4), some (.int ((1 : Int32) <<< (x1 &&& 31))), some (.int x2)]) dX0_findWalk_82 (by exact (Nat.le_of_ble_eq_true rfl)) rfl rfl ?_
      exact Wp.fewer (L' := [some (.ref 54), none, some (.int x2), some (.int x3), some (.int x4), some (.int ((1 : Int32) <<< (x1 &&& 31))), some (.int x2)]) (show ab_leL _ _ from ⟨rfl, ⟨rfl, ⟨rfl, ⟨rfl, ⟨rfl, ⟨rfl, trivial⟩⟩⟩⟩⟩⟩) ht
    · have ht := ht.2 c17
      refine ab_aload_n (i := 0) dX0_findWalk_20 rfl rfl ?_
      refine ab_getR (b := 60) f_X0_35 rfl (sh_k hs 54 0 (by decide) rfl) (sh_r hs 72 rfl) dX0_findWalk_21 ?_
      refine ab_iconst (v := 2) dX0_findWalk_24 (by decide) ?_
      refine ab_iald (sh_k hs 60 14 (by decide) rfl) (sh_in hs 60 4 (by decide) (by decide) rfl (by unfold vp_in; decide)) dX0_findWalk_25 ?_
      refine ab_iload_n (i := 3) dX0_findWalk_26 rfl rfl ?_
      refine ab_icmp_ne (tgt := 42) dX0_findWalk_27 (by decide) (fun c33 => ?_) (fun c33 => ?_)
      · have ht := ht.1 c33
        refine ab_aload_n (i := 0) dX0_findWalk_42 rfl rfl ?_
        refine ab_getR (b := 60) f_X0_35 rfl (sh_k hs 54 0 (by decide) rfl) (sh_r hs 72 rfl) dX0_findWalk_43 ?_
        refine ab_iconst (v := 0) dX0_findWalk_46 (by decide) ?_
        refine ab_iload_n (i := 1) dX0_findWalk_47 rfl rfl ?_
        refine ab_iast (sh_k hs 60 14 (by decide) rfl) (sh_in hs 60 4 (by decide) (by decide) rfl (by unfold vp_in; decide)) dX0_findWalk_48 ?_
        refine Wp.nm fun h34 e35 => ?_
        have ht := ht h34 e35
        have hs36 : Sh h34 := by rw [e35]; exact sh_si hs
        refine ab_aload_n (i := 0) dX0_findWalk_49 rfl rfl ?_
        refine ab_getR (b := 60) f_X0_35 rfl (sh_k hs36 54 0 (by decide) rfl) (sh_r hs36 72 rfl) dX0_findWalk_50 ?_
        refine ab_iconst (v := 1) dX0_findWalk_53 (by decide) ?_
        refine ab_iload_n (i := 2) dX0_findWalk_54 rfl rfl ?_
        refine ab_iast (sh_k hs36 60 14 (by decide) rfl) (sh_in hs36 60 4 (by decide) (by decide) rfl (by unfold vp_in; decide)) dX0_findWalk_55 ?_
        refine Wp.nm fun h37 e38 => ?_
        have ht := ht h37 e38
        have hs39 : Sh h37 := by rw [e38]; exact sh_si hs36
        refine ab_aload_n (i := 0) dX0_findWalk_56 rfl rfl ?_
        refine ab_getR (b := 60) f_X0_35 rfl (sh_k hs39 54 0 (by decide) rfl) (sh_r hs39 72 rfl) dX0_findWalk_57 ?_
        refine ab_iconst (v := 2) dX0_findWalk_60 (by decide) ?_
        refine ab_iload_n (i := 3) dX0_findWalk_61 rfl rfl ?_
        refine ab_iast (sh_k hs39 60 14 (by decide) rfl) (sh_in hs39 60 4 (by decide) (by decide) rfl (by unfold vp_in; decide)) dX0_findWalk_62 ?_
        refine Wp.nm fun h40 e41 => ?_
        have ht := ht h40 e41
        have hs42 : Sh h40 := by rw [e41]; exact sh_si hs39
        refine ab_aload_n (i := 0) dX0_findWalk_63 rfl rfl ?_
        refine ab_getR (b := 60) f_X0_35 rfl (sh_k hs42 54 0 (by decide) rfl) (sh_r hs42 72 rfl) dX0_findWalk_64 ?_
        refine ab_iconst (v := 3) dX0_findWalk_67 (by decide) ?_
        refine ab_iload (i := 4) dX0_findWalk_68 rfl ?_
        refine ab_iast (sh_k hs42 60 14 (by decide) rfl) (sh_in hs42 60 4 (by decide) (by decide) rfl (by unfold vp_in; decide)) dX0_findWalk_70 ?_
        refine Wp.nm fun h43 e44 => ?_
        have ht := ht h43 e44
        have hs45 : Sh h43 := by rw [e44]; exact sh_si hs42
        refine ab_aload_n (i := 0) dX0_findWalk_71 rfl rfl ?_
        refine ab_iconst (v := (-1)) dX0_findWalk_72 (by decide) ?_
        refine ab_putI f_X0_21 (Or.inl rfl) rfl (sh_k hs45 54 0 (by decide) rfl) rfl rfl dX0_findWalk_73 ?_
        refine Wp.nm fun h46 e47 => ?_
        have ht := ht h46 e47
        have hs48 : Sh h46 := by rw [e47]; exact sh_si hs45
        refine ab_iconst (v := 1) dX0_findWalk_76 (by decide) ?_
        refine ab_iload_n (i := 1) dX0_findWalk_77 rfl rfl ?_
        refine ab_ishl dX0_findWalk_78 ?_
        refine ab_istore (i := 5) (L' := [some (.ref 54), some (.int x1), some (.int x2), some (.int x3), some (.int x4), some (.int ((1 : Int32) <<< (x1 &&& 31))), none]) dX0_findWalk_79 (by exact (Nat.le_of_ble_eq_true rfl)) rfl rfl ?_
        refine ab_iload_n (i := 2) dX0_findWalk_81 rfl rfl ?_
        refine ab_istore (i := 6) (L' := [some (.ref 54), some (.int x1), some (.int x2), some (.int x3), some (.int x4), some (.int ((1 : Int32) <<< (x1 &&& 31))), some (.int x2)]) dX0_findWalk_82 (by exact (Nat.le_of_ble_eq_true rfl)) rfl rfl ?_
        exact Wp.fewer (L' := [some (.ref 54), none, some (.int x2), some (.int x3), some (.int x4), some (.int ((1 : Int32) <<< (x1 &&& 31))), some (.int x2)]) (show ab_leL _ _ from ⟨rfl, ⟨rfl, ⟨rfl, ⟨rfl, ⟨rfl, ⟨rfl, trivial⟩⟩⟩⟩⟩⟩) ht
      · have ht := ht.2 c33
        refine ab_aload_n (i := 0) dX0_findWalk_30 rfl rfl ?_
        refine ab_getR (b := 60) f_X0_35 rfl (sh_k hs 54 0 (by decide) rfl) (sh_r hs 72 rfl) dX0_findWalk_31 ?_
        refine ab_iconst (v := 3) dX0_findWalk_34 (by decide) ?_
        refine ab_iald (sh_k hs 60 14 (by decide) rfl) (sh_in hs 60 4 (by decide) (by decide) rfl (by unfold vp_in; decide)) dX0_findWalk_35 ?_
        refine ab_iload (i := 4) dX0_findWalk_36 rfl ?_
        refine ab_icmp_ne (tgt := 42) dX0_findWalk_38 (by decide) (fun c49 => ?_) (fun c49 => ?_)
        · have ht := ht.1 c49
          refine ab_aload_n (i := 0) dX0_findWalk_42 rfl rfl ?_
          refine ab_getR (b := 60) f_X0_35 rfl (sh_k hs 54 0 (by decide) rfl) (sh_r hs 72 rfl) dX0_findWalk_43 ?_
          refine ab_iconst (v := 0) dX0_findWalk_46 (by decide) ?_
          refine ab_iload_n (i := 1) dX0_findWalk_47 rfl rfl ?_
          refine ab_iast (sh_k hs 60 14 (by decide) rfl) (sh_in hs 60 4 (by decide) (by decide) rfl (by unfold vp_in; decide)) dX0_findWalk_48 ?_
          refine Wp.nm fun h50 e51 => ?_
          have ht := ht h50 e51
          have hs52 : Sh h50 := by rw [e51]; exact sh_si hs
          refine ab_aload_n (i := 0) dX0_findWalk_49 rfl rfl ?_
          refine ab_getR (b := 60) f_X0_35 rfl (sh_k hs52 54 0 (by decide) rfl) (sh_r hs52 72 rfl) dX0_findWalk_50 ?_
          refine ab_iconst (v := 1) dX0_findWalk_53 (by decide) ?_
          refine ab_iload_n (i := 2) dX0_findWalk_54 rfl rfl ?_
          refine ab_iast (sh_k hs52 60 14 (by decide) rfl) (sh_in hs52 60 4 (by decide) (by decide) rfl (by unfold vp_in; decide)) dX0_findWalk_55 ?_
          refine Wp.nm fun h53 e54 => ?_
          have ht := ht h53 e54
          have hs55 : Sh h53 := by rw [e54]; exact sh_si hs52
          refine ab_aload_n (i := 0) dX0_findWalk_56 rfl rfl ?_
          refine ab_getR (b := 60) f_X0_35 rfl (sh_k hs55 54 0 (by decide) rfl) (sh_r hs55 72 rfl) dX0_findWalk_57 ?_
          refine ab_iconst (v := 2) dX0_findWalk_60 (by decide) ?_
          refine ab_iload_n (i := 3) dX0_findWalk_61 rfl rfl ?_
          refine ab_iast (sh_k hs55 60 14 (by decide) rfl) (sh_in hs55 60 4 (by decide) (by decide) rfl (by unfold vp_in; decide)) dX0_findWalk_62 ?_
          refine Wp.nm fun h56 e57 => ?_
          have ht := ht h56 e57
          have hs58 : Sh h56 := by rw [e57]; exact sh_si hs55
          refine ab_aload_n (i := 0) dX0_findWalk_63 rfl rfl ?_
          refine ab_getR (b := 60) f_X0_35 rfl (sh_k hs58 54 0 (by decide) rfl) (sh_r hs58 72 rfl) dX0_findWalk_64 ?_
          refine ab_iconst (v := 3) dX0_findWalk_67 (by decide) ?_
          refine ab_iload (i := 4) dX0_findWalk_68 rfl ?_
          refine ab_iast (sh_k hs58 60 14 (by decide) rfl) (sh_in hs58 60 4 (by decide) (by decide) rfl (by unfold vp_in; decide)) dX0_findWalk_70 ?_
          refine Wp.nm fun h59 e60 => ?_
          have ht := ht h59 e60
          have hs61 : Sh h59 := by rw [e60]; exact sh_si hs58
          refine ab_aload_n (i := 0) dX0_findWalk_71 rfl rfl ?_
          refine ab_iconst (v := (-1)) dX0_findWalk_72 (by decide) ?_
          refine ab_putI f_X0_21 (Or.inl rfl) rfl (sh_k hs61 54 0 (by decide) rfl) rfl rfl dX0_findWalk_73 ?_
          refine Wp.nm fun h62 e63 => ?_
          have ht := ht h62 e63
          have hs64 : Sh h62 := by rw [e63]; exact sh_si hs61
          refine ab_iconst (v := 1) dX0_findWalk_76 (by decide) ?_
          refine ab_iload_n (i := 1) dX0_findWalk_77 rfl rfl ?_
          refine ab_ishl dX0_findWalk_78 ?_
          refine ab_istore (i := 5) (L' := [some (.ref 54), some (.int x1), some (.int x2), some (.int x3), some (.int x4), some (.int ((1 : Int32) <<< (x1 &&& 31))), none]) dX0_findWalk_79 (by exact (Nat.le_of_ble_eq_true rfl)) rfl rfl ?_
          refine ab_iload_n (i := 2) dX0_findWalk_81 rfl rfl ?_
          refine ab_istore (i := 6) (L' := [some (.ref 54), some (.int x1), some (.int x2), some (.int x3), some (.int x4), some (.int ((1 : Int32) <<< (x1 &&& 31))), some (.int x2)]) dX0_findWalk_82 (by exact (Nat.le_of_ble_eq_true rfl)) rfl rfl ?_
          exact Wp.fewer (L' := [some (.ref 54), none, some (.int x2), some (.int x3), some (.int x4), some (.int ((1 : Int32) <<< (x1 &&& 31))), some (.int x2)]) (show ab_leL _ _ from ⟨rfl, ⟨rfl, ⟨rfl, ⟨rfl, ⟨rfl, ⟨rfl, trivial⟩⟩⟩⟩⟩⟩) ht
        · have ht := ht.2 c49
          exact ab_vret rfl dX0_findWalk_41 (Nat.le_of_ble_eq_true rfl) (Nat.le_of_ble_eq_true rfl) ht
theorem dX0_layWalk_0 : decode cX0_layWalk 0 = .ok (.aload_n 0, 1) := by decide +kernel
theorem dX0_layWalk_1 : decode cX0_layWalk 1 = .ok (.getfield 38, 3) := by decide +kernel
theorem dX0_layWalk_4 : decode cX0_layWalk 4 = .ok (.aload_n 0, 1) := by decide +kernel
theorem dX0_layWalk_5 : decode cX0_layWalk 5 = .ok (.getfield 21, 3) := by decide +kernel
theorem dX0_layWalk_8 : decode cX0_layWalk 8 = .ok (.iconst 1, 1) := by decide +kernel
theorem dX0_layWalk_9 : decode cX0_layWalk 9 = .ok (.iload_n 2, 1) := by decide +kernel
theorem dX0_layWalk_10 : decode cX0_layWalk 10 = .ok (.ishl, 1) := by decide +kernel
theorem dX0_layWalk_11 : decode cX0_layWalk 11 = .ok (.iastore, 1) := by decide +kernel
theorem dX0_layWalk_12 : decode cX0_layWalk 12 = .ok (.aload_n 0, 1) := by decide +kernel
theorem dX0_layWalk_13 : decode cX0_layWalk 13 = .ok (.getfield 21, 3) := by decide +kernel
theorem dX0_layWalk_16 : decode cX0_layWalk 16 = .ok (.iconst 1, 1) := by decide +kernel
theorem dX0_layWalk_17 : decode cX0_layWalk 17 = .ok (.isub, 1) := by decide +kernel
theorem dX0_layWalk_18 : decode cX0_layWalk 18 = .ok (.istore_n 3, 1) := by decide +kernel
theorem dX0_layWalk_19 : decode cX0_layWalk 19 = .ok (.iload_n 3, 1) := by decide +kernel
theorem dX0_layWalk_20 : decode cX0_layWalk 20 = .ok (.iload_n 1, 1) := by decide +kernel
theorem dX0_layWalk_21 : decode cX0_layWalk 21 = .ok (.if_icmp .lt 33, 3) := by decide +kernel
theorem dX0_layWalk_24 : decode cX0_layWalk 24 = .ok (.aload_n 0, 1) := by decide +kernel
theorem dX0_layWalk_25 : decode cX0_layWalk 25 = .ok (.getfield 38, 3) := by decide +kernel
theorem dX0_layWalk_28 : decode cX0_layWalk 28 = .ok (.iload_n 3, 1) := by decide +kernel
theorem dX0_layWalk_29 : decode cX0_layWalk 29 = .ok (.dup2, 1) := by decide +kernel
theorem dX0_layWalk_30 : decode cX0_layWalk 30 = .ok (.iaload, 1) := by decide +kernel
theorem dX0_layWalk_31 : decode cX0_layWalk 31 = .ok (.aload_n 0, 1) := by decide +kernel
theorem dX0_layWalk_32 : decode cX0_layWalk 32 = .ok (.getfield 45, 3) := by decide +kernel
theorem dX0_layWalk_35 : decode cX0_layWalk 35 = .ok (.aload_n 0, 1) := by decide +kernel
theorem dX0_layWalk_36 : decode cX0_layWalk 36 = .ok (.getfield 38, 3) := by decide +kernel
theorem dX0_layWalk_39 : decode cX0_layWalk 39 = .ok (.iload_n 3, 1) := by decide +kernel
theorem dX0_layWalk_40 : decode cX0_layWalk 40 = .ok (.iconst 1, 1) := by decide +kernel
theorem dX0_layWalk_41 : decode cX0_layWalk 41 = .ok (.iadd, 1) := by decide +kernel
theorem dX0_layWalk_42 : decode cX0_layWalk 42 = .ok (.iaload, 1) := by decide +kernel
theorem dX0_layWalk_43 : decode cX0_layWalk 43 = .ok (.invokevirtual 138, 3) := by decide +kernel
theorem dX0_layWalk_46 : decode cX0_layWalk 46 = .ok (.iand, 1) := by decide +kernel
theorem dX0_layWalk_47 : decode cX0_layWalk 47 = .ok (.iastore, 1) := by decide +kernel
theorem dX0_layWalk_48 : decode cX0_layWalk 48 = .ok (.iinc 3 (-1), 3) := by decide +kernel
theorem dX0_layWalk_51 : decode cX0_layWalk 51 = .ok (.goto (-32), 3) := by decide +kernel
theorem dX0_layWalk_54 : decode cX0_layWalk 54 = .ok (.aload_n 0, 1) := by decide +kernel
theorem dX0_layWalk_55 : decode cX0_layWalk 55 = .ok (.getfield 38, 3) := by decide +kernel
theorem dX0_layWalk_58 : decode cX0_layWalk 58 = .ok (.iload_n 1, 1) := by decide +kernel
theorem dX0_layWalk_59 : decode cX0_layWalk 59 = .ok (.iaload, 1) := by decide +kernel
theorem dX0_layWalk_60 : decode cX0_layWalk 60 = .ok (.istore_n 3, 1) := by decide +kernel
theorem dX0_layWalk_61 : decode cX0_layWalk 61 = .ok (.iload_n 1, 1) := by decide +kernel
theorem dX0_layWalk_62 : decode cX0_layWalk 62 = .ok (.istore 4, 2) := by decide +kernel
theorem dX0_layWalk_64 : decode cX0_layWalk 64 = .ok (.iload 4, 2) := by decide +kernel
theorem dX0_layWalk_66 : decode cX0_layWalk 66 = .ok (.aload_n 0, 1) := by decide +kernel
theorem dX0_layWalk_67 : decode cX0_layWalk 67 = .ok (.getfield 21, 3) := by decide +kernel
theorem dX0_layWalk_70 : decode cX0_layWalk 70 = .ok (.if_icmp .gt 77, 3) := by decide +kernel
theorem dX0_layWalk_73 : decode cX0_layWalk 73 = .ok (.iload 4, 2) := by decide +kernel
theorem dX0_layWalk_75 : decode cX0_layWalk 75 = .ok (.iload_n 1, 1) := by decide +kernel
theorem dX0_layWalk_76 : decode cX0_layWalk 76 = .ok (.if_icmp .ne 7, 3) := by decide +kernel
theorem dX0_layWalk_79 : decode cX0_layWalk 79 = .ok (.iload_n 3, 1) := by decide +kernel
theorem dX0_layWalk_80 : decode cX0_layWalk 80 = .ok (.goto 11, 3) := by decide +kernel
theorem dX0_layWalk_83 : decode cX0_layWalk 83 = .ok (.aload_n 0, 1) := by decide +kernel
theorem dX0_layWalk_84 : decode cX0_layWalk 84 = .ok (.getfield 45, 3) := by decide +kernel
theorem dX0_layWalk_87 : decode cX0_layWalk 87 = .ok (.iload_n 3, 1) := by decide +kernel
theorem dX0_layWalk_88 : decode cX0_layWalk 88 = .ok (.invokevirtual 138, 3) := by decide +kernel
theorem dX0_layWalk_91 : decode cX0_layWalk 91 = .ok (.aload_n 0, 1) := by decide +kernel
theorem dX0_layWalk_92 : decode cX0_layWalk 92 = .ok (.getfield 38, 3) := by decide +kernel
theorem dX0_layWalk_95 : decode cX0_layWalk 95 = .ok (.iload 4, 2) := by decide +kernel
theorem dX0_layWalk_97 : decode cX0_layWalk 97 = .ok (.iaload, 1) := by decide +kernel
theorem dX0_layWalk_98 : decode cX0_layWalk 98 = .ok (.iand, 1) := by decide +kernel
theorem dX0_layWalk_99 : decode cX0_layWalk 99 = .ok (.istore 5, 2) := by decide +kernel
theorem dX0_layWalk_101 : decode cX0_layWalk 101 = .ok (.iconst 0, 1) := by decide +kernel
theorem dX0_layWalk_102 : decode cX0_layWalk 102 = .ok (.istore 6, 2) := by decide +kernel
theorem dX0_layWalk_104 : decode cX0_layWalk 104 = .ok (.iload 6, 2) := by decide +kernel
theorem dX0_layWalk_106 : decode cX0_layWalk 106 = .ok (.bipush 11, 2) := by decide +kernel
theorem dX0_layWalk_108 : decode cX0_layWalk 108 = .ok (.if_icmp .ge 19, 3) := by decide +kernel
theorem dX0_layWalk_111 : decode cX0_layWalk 111 = .ok (.iload 5, 2) := by decide +kernel
theorem dX0_layWalk_113 : decode cX0_layWalk 113 = .ok (.iload 6, 2) := by decide +kernel
theorem dX0_layWalk_115 : decode cX0_layWalk 115 = .ok (.ishr, 1) := by decide +kernel
theorem dX0_layWalk_116 : decode cX0_layWalk 116 = .ok (.iconst 1, 1) := by decide +kernel
theorem dX0_layWalk_117 : decode cX0_layWalk 117 = .ok (.iand, 1) := by decide +kernel
theorem dX0_layWalk_118 : decode cX0_layWalk 118 = .ok (.ifCond .ne 9, 3) := by decide +kernel
theorem dX0_layWalk_121 : decode cX0_layWalk 121 = .ok (.iinc 6 1, 3) := by decide +kernel
theorem dX0_layWalk_124 : decode cX0_layWalk 124 = .ok (.goto (-20), 3) := by decide +kernel
theorem dX0_layWalk_127 : decode cX0_layWalk 127 = .ok (.iconst 1, 1) := by decide +kernel
theorem dX0_layWalk_128 : decode cX0_layWalk 128 = .ok (.iload 6, 2) := by decide +kernel
theorem dX0_layWalk_130 : decode cX0_layWalk 130 = .ok (.ishl, 1) := by decide +kernel
theorem dX0_layWalk_131 : decode cX0_layWalk 131 = .ok (.istore_n 3, 1) := by decide +kernel
theorem dX0_layWalk_132 : decode cX0_layWalk 132 = .ok (.aload_n 0, 1) := by decide +kernel
theorem dX0_layWalk_133 : decode cX0_layWalk 133 = .ok (.getfield 25, 3) := by decide +kernel
theorem dX0_layWalk_136 : decode cX0_layWalk 136 = .ok (.iload 4, 2) := by decide +kernel
theorem dX0_layWalk_138 : decode cX0_layWalk 138 = .ok (.iload 6, 2) := by decide +kernel
theorem dX0_layWalk_140 : decode cX0_layWalk 140 = .ok (.iastore, 1) := by decide +kernel
theorem dX0_layWalk_141 : decode cX0_layWalk 141 = .ok (.iinc 4 1, 3) := by decide +kernel
theorem dX0_layWalk_144 : decode cX0_layWalk 144 = .ok (.goto (-80), 3) := by decide +kernel
theorem dX0_layWalk_147 : decode cX0_layWalk 147 = .ok (.return_, 1) := by decide +kernel
set_option maxRecDepth 20000 in
theorem T_X0_layWalk_19 {Q : Option Value → ah_T → Prop} {h : ah_T} (hs : Sh h) (x1 : Int32) (x3 : Int32) (ht : ((x3 < x1 → (vp_in x1 (ah_n h 61)) ∧ Wp mX0_layWalk Q 0 0 64 [some (.ref 54), some (.int x1), none, some (.int (ah_i h 61 (Int32.toNatClampNeg x1))), some (.int x1), none, none] [] h) ∧ (¬ x3 < x1 → (vp_in x3 (ah_n h 61)) ∧ (vp_in (x3 + 1) (ah_n h 61)) ∧ (Mt mX6_around [.ref 29, .int (ah_i h 61 (Int32.toNatClampNeg (x3 + 1)))] h (ab_qi fun v11 h9 => Sh h9 ∧ (vp_in x3 (ah_n h9 61)) ∧ (∀ h13, h13 = ah_si h9 61 (Int32.toNatClampNeg x3) ((ah_i h 61 (Int32.toNatClampNeg x3)) &&& v11) → Wp mX0_layWalk Q 0 0 19 [some (.ref 54), some (.int x1), none, some (.int (x3 + (-1))), none, none, none] [] h13)))))) : Wp mX0_layWalk Q 0 0 19 [some (.ref 54), some (.int x1), none, some (.int x3), none, none, none] [] h := by
  refine ab_iload_n (i := 3) dX0_layWalk_19 rfl rfl ?_
  refine ab_iload_n (i := 1) dX0_layWalk_20 rfl rfl ?_
  refine ab_icmp_lt (tgt := 54) dX0_layWalk_21 (by decide) (fun c5 => ?_) (fun c5 => ?_)
  · have ht := ht.1 c5
    refine ab_aload_n (i := 0) dX0_layWalk_54 rfl rfl ?_
    refine ab_getR (b := 61) f_X0_38 rfl (sh_k hs 54 0 (by decide) rfl) (sh_r hs 73 rfl) dX0_layWalk_55 ?_
    refine ab_iload_n (i := 1) dX0_layWalk_58 rfl rfl ?_
    obtain ⟨hc6, ht⟩ := ht
    refine ab_iald (sh_k hs 61 14 (by decide) rfl) hc6 dX0_layWalk_59 ?_
    refine ab_istore_n (i := 3) (L' := [some (.ref 54), some (.int x1), none, some (.int (ah_i h 61 (Int32.toNatClampNeg x1))), none, none, none]) dX0_layWalk_60 rfl (by exact (Nat.le_of_ble_eq_true rfl)) rfl rfl ?_
    refine ab_iload_n (i := 1) dX0_layWalk_61 rfl rfl ?_
    refine ab_istore (i := 4) (L' := [some (.ref 54), some (.int x1), none, some (.int (ah_i h 61 (Int32.toNatClampNeg x1))), some (.int x1), none, none]) dX0_layWalk_62 (by exact (Nat.le_of_ble_eq_true rfl)) rfl rfl ?_
    exact Wp.fewer (L' := [some (.ref 54), some (.int x1), none, some (.int (ah_i h 61 (Int32.toNatClampNeg x1))), some (.int x1), none, none]) (show ab_leL _ _ from ⟨rfl, ⟨rfl, ⟨rfl, ⟨rfl, trivial⟩⟩⟩⟩) ht
  · have ht := ht.2 c5
    refine ab_aload_n (i := 0) dX0_layWalk_24 rfl rfl ?_
    refine ab_getR (b := 61) f_X0_38 rfl (sh_k hs 54 0 (by decide) rfl) (sh_r hs 73 rfl) dX0_layWalk_25 ?_
    refine ab_iload_n (i := 3) dX0_layWalk_28 rfl rfl ?_
    refine ab_dup2 dX0_layWalk_29 rfl rfl ?_
    obtain ⟨hc7, ht⟩ := ht
    refine ab_iald (sh_k hs 61 14 (by decide) rfl) hc7 dX0_layWalk_30 ?_
    refine ab_aload_n (i := 0) dX0_layWalk_31 rfl rfl ?_
    refine ab_getR (b := 29) f_X0_45 rfl (sh_k hs 54 0 (by decide) rfl) (sh_r hs 68 rfl) dX0_layWalk_32 ?_
    refine ab_aload_n (i := 0) dX0_layWalk_35 rfl rfl ?_
    refine ab_getR (b := 61) f_X0_38 rfl (sh_k hs 54 0 (by decide) rfl) (sh_r hs 73 rfl) dX0_layWalk_36 ?_
    refine ab_iload_n (i := 3) dX0_layWalk_39 rfl rfl ?_
    refine ab_iconst (v := 1) dX0_layWalk_40 (by decide) ?_
    refine ab_iadd dX0_layWalk_41 ?_
    obtain ⟨hc8, ht⟩ := ht
    refine ab_iald (sh_k hs 61 14 (by decide) rfl) hc8 dX0_layWalk_42 ?_
    refine ab_callV (b := 29) (As := [.int (ah_i h 61 (Int32.toNatClampNeg (x3 + 1)))]) ht (Y_X6_around) l_X0_138 in_X6_around se_X6_around (sh_k hs 29 6 (by decide) rfl) (by decide) rfl rfl ⟨(Nat.le_of_ble_eq_true rfl), (Nat.le_of_ble_eq_true rfl), (Nat.le_of_ble_eq_true rfl), (Nat.le_of_ble_eq_true rfl)⟩ dX0_layWalk_43 ?_
    rintro _ h9 ⟨v11, rfl, hs10, ht⟩
    refine ab_iand dX0_layWalk_46 ?_
    obtain ⟨hc12, ht⟩ := ht
    refine ab_iast (sh_k hs10 61 14 (by decide) rfl) hc12 dX0_layWalk_47 ?_
    refine Wp.nm fun h13 e14 => ?_
    have ht := ht h13 e14
    have hs15 : Sh h13 := by rw [e14]; exact sh_si hs10
    refine ab_iinc (i := 3) (x := x3) (v := (x3 + (-1))) (L' := [some (.ref 54), some (.int x1), none, some (.int (x3 + (-1))), none, none, none]) dX0_layWalk_48 rfl rfl (by exact (Nat.le_of_ble_eq_true rfl)) rfl rfl ?_
    refine ab_goto (tgt := 19) dX0_layWalk_51 (by decide) ?_
    exact Wp.fewer (L' := [some (.ref 54), some (.int x1), none, some (.int (x3 + (-1))), none, none, none]) (show ab_leL _ _ from ⟨rfl, ⟨rfl, ⟨rfl, trivial⟩⟩⟩) ht
set_option maxRecDepth 20000 in
theorem T_X0_layWalk_64 {Q : Option Value → ah_T → Prop} {h : ah_T} (hs : Sh h) (x1 : Int32) (x3 : Int32) (x4 : Int32) (ht : (((ah_i h 54 3) < x4 → Q none h) ∧ (¬ (ah_i h 54 3) < x4 → ((¬ x4 = x1 → (Mt mX6_around [.ref 29, .int x3] h (ab_qi fun v20 h18 => Sh h18 ∧ (vp_in x4 (ah_n h18 61)) ∧ Wp mX0_layWalk Q 0 0 104 [some (.ref 54), some (.int x1), none, none, some (.int x4), some (.int (v20 &&& (ah_i h18 61 (Int32.toNatClampNeg x4)))), some (.int 0)] [] h18))) ∧ (x4 = x1 → (vp_in x4 (ah_n h 61)) ∧ Wp mX0_layWalk Q 0 0 104 [some (.ref 54), some (.int x1), none, none, some (.int x4), some (.int (x3 &&& (ah_i h 61 (Int32.toNatClampNeg x4)))), some (.int 0)] [] h))))) : Wp mX0_layWalk Q 0 0 64 [some (.ref 54), some (.int x1), none, some (.int x3), some (.int x4), none, none] [] h := by
  refine ab_iload (i := 4) dX0_layWalk_64 rfl ?_
  refine ab_aload_n (i := 0) dX0_layWalk_66 rfl rfl ?_
  refine ab_getI f_X0_21 rfl (sh_k hs 54 0 (by decide) rfl) dX0_layWalk_67 ?_
  refine ab_icmp_gt (tgt := 147) dX0_layWalk_70 (by decide) (fun c16 => ?_) (fun c16 => ?_)
  · have ht := ht.1 c16
    exact ab_vret rfl dX0_layWalk_147 (Nat.le_of_ble_eq_true rfl) (Nat.le_of_ble_eq_true rfl) ht
  · have ht := ht.2 c16
    refine ab_iload (i := 4) dX0_layWalk_73 rfl ?_
    refine ab_iload_n (i := 1) dX0_layWalk_75 rfl rfl ?_
    refine ab_icmp_ne (tgt := 83) dX0_layWalk_76 (by decide) (fun c17 => ?_) (fun c17 => ?_)
    · have ht := ht.1 c17
      refine ab_aload_n (i := 0) dX0_layWalk_83 rfl rfl ?_
      refine ab_getR (b := 29) f_X0_45 rfl (sh_k hs 54 0 (by decide) rfl) (sh_r hs 68 rfl) dX0_layWalk_84 ?_
      refine ab_iload_n (i := 3) dX0_layWalk_87 rfl rfl ?_
      refine ab_callV (b := 29) (As := [.int x3]) ht (Y_X6_around) l_X0_138 in_X6_around se_X6_around (sh_k hs 29 6 (by decide) rfl) (by decide) rfl rfl ⟨(Nat.le_of_ble_eq_true rfl), (Nat.le_of_ble_eq_true rfl), (Nat.le_of_ble_eq_true rfl), (Nat.le_of_ble_eq_true rfl)⟩ dX0_layWalk_88 ?_
      rintro _ h18 ⟨v20, rfl, hs19, ht⟩
      refine ab_aload_n (i := 0) dX0_layWalk_91 rfl rfl ?_
      refine ab_getR (b := 61) f_X0_38 rfl (sh_k hs19 54 0 (by decide) rfl) (sh_r hs19 73 rfl) dX0_layWalk_92 ?_
      refine ab_iload (i := 4) dX0_layWalk_95 rfl ?_
      obtain ⟨hc21, ht⟩ := ht
      refine ab_iald (sh_k hs19 61 14 (by decide) rfl) hc21 dX0_layWalk_97 ?_
      refine ab_iand dX0_layWalk_98 ?_
      refine ab_istore (i := 5) (L' := [some (.ref 54), some (.int x1), none, some (.int x3), some (.int x4), some (.int (v20 &&& (ah_i h18 61 (Int32.toNatClampNeg x4)))), none]) dX0_layWalk_99 (by exact (Nat.le_of_ble_eq_true rfl)) rfl rfl ?_
      refine ab_iconst (v := 0) dX0_layWalk_101 (by decide) ?_
      refine ab_istore (i := 6) (L' := [some (.ref 54), some (.int x1), none, some (.int x3), some (.int x4), some (.int (v20 &&& (ah_i h18 61 (Int32.toNatClampNeg x4)))), some (.int 0)]) dX0_layWalk_102 (by exact (Nat.le_of_ble_eq_true rfl)) rfl rfl ?_
      exact Wp.fewer (L' := [some (.ref 54), some (.int x1), none, none, some (.int x4), some (.int (v20 &&& (ah_i h18 61 (Int32.toNatClampNeg x4)))), some (.int 0)]) (show ab_leL _ _ from ⟨rfl, ⟨rfl, ⟨rfl, ⟨rfl, ⟨rfl, trivial⟩⟩⟩⟩⟩) ht
    · have ht := ht.2 c17
      refine ab_iload_n (i := 3) dX0_layWalk_79 rfl rfl ?_
      refine ab_goto (tgt := 91) dX0_layWalk_80 (by decide) ?_
      refine ab_aload_n (i := 0) dX0_layWalk_91 rfl rfl ?_
      refine ab_getR (b := 61) f_X0_38 rfl (sh_k hs 54 0 (by decide) rfl) (sh_r hs 73 rfl) dX0_layWalk_92 ?_
      refine ab_iload (i := 4) dX0_layWalk_95 rfl ?_
      obtain ⟨hc22, ht⟩ := ht
      refine ab_iald (sh_k hs 61 14 (by decide) rfl) hc22 dX0_layWalk_97 ?_
      refine ab_iand dX0_layWalk_98 ?_
      refine ab_istore (i := 5) (L' := [some (.ref 54), some (.int x1), none, some (.int x3), some (.int x4), some (.int (x3 &&& (ah_i h 61 (Int32.toNatClampNeg x4)))), none]) dX0_layWalk_99 (by exact (Nat.le_of_ble_eq_true rfl)) rfl rfl ?_
      refine ab_iconst (v := 0) dX0_layWalk_101 (by decide) ?_
      refine ab_istore (i := 6) (L' := [some (.ref 54), some (.int x1), none, some (.int x3), some (.int x4), some (.int (x3 &&& (ah_i h 61 (Int32.toNatClampNeg x4)))), some (.int 0)]) dX0_layWalk_102 (by exact (Nat.le_of_ble_eq_true rfl)) rfl rfl ?_
      exact Wp.fewer (L' := [some (.ref 54), some (.int x1), none, none, some (.int x4), some (.int (x3 &&& (ah_i h 61 (Int32.toNatClampNeg x4)))), some (.int 0)]) (show ab_leL _ _ from ⟨rfl, ⟨rfl, ⟨rfl, ⟨rfl, ⟨rfl, trivial⟩⟩⟩⟩⟩) ht
set_option maxRecDepth 20000 in
theorem T_X0_layWalk_104 {Q : Option Value → ah_T → Prop} {h : ah_T} (hs : Sh h) (x1 : Int32) (x4 : Int32) (x5 : Int32) (x6 : Int32) (ht : ((11 ≤ x6 → (vp_in x4 (ah_n h 58)) ∧ (∀ h25, h25 = ah_si h 58 (Int32.toNatClampNeg x4) x6 → Wp mX0_layWalk Q 0 0 64 [some (.ref 54), some (.int x1), none, some (.int ((1 : Int32) <<< (x6 &&& 31))), some (.int (x4 + 1)), none, none] [] h25)) ∧ (¬ 11 ≤ x6 → ((¬ ((x5 >>> (x6 &&& 31)) &&& 1) = 0 → (vp_in x4 (ah_n h 58)) ∧ (∀ h30, h30 = ah_si h 58 (Int32.toNatClampNeg x4) x6 → Wp mX0_layWalk Q 0 0 64 [some (.ref 54), some (.int x1), none, some (.int ((1 : Int32) <<< (x6 &&& 31))), some (.int (x4 + 1)), none, none] [] h30)) ∧ (((x5 >>> (x6 &&& 31)) &&& 1) = 0 → Wp mX0_layWalk Q 0 0 104 [some (.ref 54), some (.int x1), none, none, some (.int x4), some (.int x5), some (.int (x6 + 1))] [] h))))) : Wp mX0_layWalk Q 0 0 104 [some (.ref 54), some (.int x1), none, none, some (.int x4), some (.int x5), some (.int x6)] [] h := by
  refine ab_iload (i := 6) dX0_layWalk_104 rfl ?_
  refine ab_bipush (v := 11) dX0_layWalk_106 (by decide) ?_
  refine ab_icmp_ge (tgt := 127) dX0_layWalk_108 (by decide) (fun c23 => ?_) (fun c23 => ?_)
  · have ht := ht.1 c23
    refine ab_iconst (v := 1) dX0_layWalk_127 (by decide) ?_
    refine ab_iload (i := 6) dX0_layWalk_128 rfl ?_
    refine ab_ishl dX0_layWalk_130 ?_
    refine ab_istore_n (i := 3) (L' := [some (.ref 54), some (.int x1), none, some (.int ((1 : Int32) <<< (x6 &&& 31))), some (.int x4), some (.int x5), some (.int x6)]) dX0_layWalk_131 rfl (by exact (Nat.le_of_ble_eq_true rfl)) rfl rfl ?_
    refine ab_aload_n (i := 0) dX0_layWalk_132 rfl rfl ?_
    refine ab_getR (b := 58) f_X0_25 rfl (sh_k hs 54 0 (by decide) rfl) (sh_r hs 66 rfl) dX0_layWalk_133 ?_
    refine ab_iload (i := 4) dX0_layWalk_136 rfl ?_
    refine ab_iload (i := 6) dX0_layWalk_138 rfl ?_
    obtain ⟨hc24, ht⟩ := ht
    refine ab_iast (sh_k hs 58 14 (by decide) rfl) hc24 dX0_layWalk_140 ?_
    refine Wp.nm fun h25 e26 => ?_
    have ht := ht h25 e26
    have hs27 : Sh h25 := by rw [e26]; exact sh_si hs
    refine ab_iinc (i := 4) (x := x4) (v := (x4 + 1)) (L' := [some (.ref 54), some (.int x1), none, some (.int ((1 : Int32) <<< (x6 &&& 31))), some (.int (x4 + 1)), some (.int x5), some (.int x6)]) dX0_layWalk_141 rfl rfl (by exact (Nat.le_of_ble_eq_true rfl)) rfl rfl ?_
    refine ab_goto (tgt := 64) dX0_layWalk_144 (by decide) ?_
    exact Wp.fewer (L' := [some (.ref 54), some (.int x1), none, some (.int ((1 : Int32) <<< (x6 &&& 31))), some (.int (x4 + 1)), none, none]) (show ab_leL _ _ from ⟨rfl, ⟨rfl, ⟨rfl, ⟨rfl, trivial⟩⟩⟩⟩) ht
  · have ht := ht.2 c23
    refine ab_iload (i := 5) dX0_layWalk_111 rfl ?_
    refine ab_iload (i := 6) dX0_layWalk_113 rfl ?_
    refine ab_ishr dX0_layWalk_115 ?_
    refine ab_iconst (v := 1) dX0_layWalk_116 (by decide) ?_
    refine ab_iand dX0_layWalk_117 ?_
    refine ab_if_ne (tgt := 127) dX0_layWalk_118 (by decide) (fun c28 => ?_) (fun c28 => ?_)
    · have ht := ht.1 c28
      refine ab_iconst (v := 1) dX0_layWalk_127 (by decide) ?_
      refine ab_iload (i := 6) dX0_layWalk_128 rfl ?_
      refine ab_ishl dX0_layWalk_130 ?_
      refine ab_istore_n (i := 3) (L' := [some (.ref 54), some (.int x1), none, some (.int ((1 : Int32) <<< (x6 &&& 31))), some (.int x4), some (.int x5), some (.int x6)]) dX0_layWalk_131 rfl (by exact (Nat.le_of_ble_eq_true rfl)) rfl rfl ?_
      refine ab_aload_n (i := 0) dX0_layWalk_132 rfl rfl ?_
      refine ab_getR (b := 58) f_X0_25 rfl (sh_k hs 54 0 (by decide) rfl) (sh_r hs 66 rfl) dX0_layWalk_133 ?_
      refine ab_iload (i := 4) dX0_layWalk_136 rfl ?_
      refine ab_iload (i := 6) dX0_layWalk_138 rfl ?_
      obtain ⟨hc29, ht⟩ := ht
      refine ab_iast (sh_k hs 58 14 (by decide) rfl) hc29 dX0_layWalk_140 ?_
      refine Wp.nm fun h30 e31 => ?_
      have ht := ht h30 e31
      have hs32 : Sh h30 := by rw [e31]; exact sh_si hs
      refine ab_iinc (i := 4) (x := x4) (v := (x4 + 1)) (L' := [some (.ref 54), some (.int x1), none, some (.int ((1 : Int32) <<< (x6 &&& 31))), some (.int (x4 + 1)), some (.int x5), some (.int x6)]) dX0_layWalk_141 rfl rfl (by exact (Nat.le_of_ble_eq_true rfl)) rfl rfl ?_
      refine ab_goto (tgt := 64) dX0_layWalk_144 (by decide) ?_
      exact Wp.fewer (L' := [some (.ref 54), some (.int x1), none, some (.int ((1 : Int32) <<< (x6 &&& 31))), some (.int (x4 + 1)), none, none]) (show ab_leL _ _ from ⟨rfl, ⟨rfl, ⟨rfl, ⟨rfl, trivial⟩⟩⟩⟩) ht
    · have ht := ht.2 c28
      refine ab_iinc (i := 6) (x := x6) (v := (x6 + 1)) (L' := [some (.ref 54), some (.int x1), none, none, some (.int x4), some (.int x5), some (.int (x6 + 1))]) dX0_layWalk_121 rfl rfl (by exact (Nat.le_of_ble_eq_true rfl)) rfl rfl ?_
      refine ab_goto (tgt := 104) dX0_layWalk_124 (by decide) ?_
      exact Wp.fewer (L' := [some (.ref 54), some (.int x1), none, none, some (.int x4), some (.int x5), some (.int (x6 + 1))]) (show ab_leL _ _ from ⟨rfl, ⟨rfl, ⟨rfl, ⟨rfl, ⟨rfl, trivial⟩⟩⟩⟩⟩) ht
set_option maxRecDepth 20000 in
theorem T_X0_layWalk {Q : Option Value → ah_T → Prop} {h : ah_T} (hs : Sh h) (x1 : Int32) (x2 : Int32) (ht : (vp_in (ah_i h 54 3) (ah_n h 61)) ∧ (∀ h2, h2 = ah_si h 61 (Int32.toNatClampNeg (ah_i h 54 3)) ((1 : Int32) <<< (x2 &&& 31)) → Wp mX0_layWalk Q 0 0 19 [some (.ref 54), some (.int x1), none, some (.int ((ah_i h2 54 3) - 1)), none, none, none] [] h2)) : Mt mX0_layWalk [.ref 54, .int x1, .int x2] h Q := by
  refine Mt.ofWp rfl (by exact (Nat.le_of_ble_eq_true rfl)) (Wp.fewer (L' := [some (.ref 54), some (.int x1), some (.int x2), none, none, none, none]) (show ab_leL _ _ from ⟨rfl, ⟨rfl, ⟨rfl, trivial⟩⟩⟩) ?_)
  refine ab_aload_n (i := 0) dX0_layWalk_0 rfl rfl ?_
  refine ab_getR (b := 61) f_X0_38 rfl (sh_k hs 54 0 (by decide) rfl) (sh_r hs 73 rfl) dX0_layWalk_1 ?_
  refine ab_aload_n (i := 0) dX0_layWalk_4 rfl rfl ?_
  refine ab_getI f_X0_21 rfl (sh_k hs 54 0 (by decide) rfl) dX0_layWalk_5 ?_
  refine ab_iconst (v := 1) dX0_layWalk_8 (by decide) ?_
  refine ab_iload_n (i := 2) dX0_layWalk_9 rfl rfl ?_
  refine ab_ishl dX0_layWalk_10 ?_
  obtain ⟨hc1, ht⟩ := ht
  refine ab_iast (sh_k hs 61 14 (by decide) rfl) hc1 dX0_layWalk_11 ?_
  refine Wp.nm fun h2 e3 => ?_
  have ht := ht h2 e3
  have hs4 : Sh h2 := by rw [e3]; exact sh_si hs
  refine ab_aload_n (i := 0) dX0_layWalk_12 rfl rfl ?_
  refine ab_getI f_X0_21 rfl (sh_k hs4 54 0 (by decide) rfl) dX0_layWalk_13 ?_
  refine ab_iconst (v := 1) dX0_layWalk_16 (by decide) ?_
  refine ab_isub dX0_layWalk_17 ?_
  refine ab_istore_n (i := 3) (L' := [some (.ref 54), some (.int x1), some (.int x2), some (.int ((ah_i h2 54 3) - 1)), none, none, none]) dX0_layWalk_18 rfl (by exact (Nat.le_of_ble_eq_true rfl)) rfl rfl ?_
  exact Wp.fewer (L' := [some (.ref 54), some (.int x1), none, some (.int ((ah_i h2 54 3) - 1)), none, none, none]) (show ab_leL _ _ from ⟨rfl, ⟨rfl, ⟨rfl, trivial⟩⟩⟩) ht
