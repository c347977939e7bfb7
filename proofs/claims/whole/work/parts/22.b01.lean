/-! ===== blocks of methods (printed by wip/whole/mkall.py) ===== -/
theorem dX1_forget_0 : decode cX1_forget 0 = .ok (.aload_n 0, 1) := by decide +kernel
theorem dX1_forget_1 : decode cX1_forget 1 = .ok (.iconst 0, 1) := by decide +kernel
theorem dX1_forget_2 : decode cX1_forget 2 = .ok (.putfield 37, 3) := by decide +kernel
theorem dX1_forget_5 : decode cX1_forget 5 = .ok (.aload_n 0, 1) := by decide +kernel
theorem dX1_forget_6 : decode cX1_forget 6 = .ok (.iconst 0, 1) := by decide +kernel
theorem dX1_forget_7 : decode cX1_forget 7 = .ok (.putfield 41, 3) := by decide +kernel
theorem dX1_forget_10 : decode cX1_forget 10 = .ok (.aload_n 0, 1) := by decide +kernel
theorem dX1_forget_11 : decode cX1_forget 11 = .ok (.iconst 0, 1) := by decide +kernel
theorem dX1_forget_12 : decode cX1_forget 12 = .ok (.putfield 44, 3) := by decide +kernel
theorem dX1_forget_15 : decode cX1_forget 15 = .ok (.aload_n 0, 1) := by decide +kernel
theorem dX1_forget_16 : decode cX1_forget 16 = .ok (.iconst 0, 1) := by decide +kernel
theorem dX1_forget_17 : decode cX1_forget 17 = .ok (.putfield 47, 3) := by decide +kernel
theorem dX1_forget_20 : decode cX1_forget 20 = .ok (.aload_n 0, 1) := by decide +kernel
theorem dX1_forget_21 : decode cX1_forget 21 = .ok (.getfield 50, 3) := by decide +kernel
theorem dX1_forget_24 : decode cX1_forget 24 = .ok (.iconst 0, 1) := by decide +kernel
theorem dX1_forget_25 : decode cX1_forget 25 = .ok (.iconst (-1), 1) := by decide +kernel
theorem dX1_forget_26 : decode cX1_forget 26 = .ok (.iastore, 1) := by decide +kernel
theorem dX1_forget_27 : decode cX1_forget 27 = .ok (.return_, 1) := by decide +kernel
set_option maxRecDepth 20000 in
theorem T_X1_forget {Q : Option Value → ah_T → Prop} {h : ah_T} (hs : Sh h)  (ht : (∀ h1, h1 = ah_si h 62 9 0 → (∀ h4, h4 = ah_si h1 62 10 0 → (∀ h7, h7 = ah_si h4 62 11 0 → (∀ h10, h10 = ah_si h7 62 12 0 → (∀ h13, h13 = ah_si h10 70 (Int32.toNatClampNeg 0) (-1) → Q none h13)))))) : Mt mX1_forget [.ref 62] h Q := by
  refine Mt.ofWp rfl (by exact (Nat.le_of_ble_eq_true rfl)) (Wp.fewer (L' := [some (.ref 62)]) (show ab_leL _ _ from ⟨rfl, trivial⟩) ?_)
  refine ab_aload_n (i := 0) dX1_forget_0 rfl rfl ?_
  refine ab_iconst (v := 0) dX1_forget_1 (by decide) ?_
  refine ab_putI f_X1_37 (Or.inl rfl) rfl (sh_k hs 62 1 (by decide) rfl) rfl rfl dX1_forget_2 ?_
  refine Wp.nm fun h1 e2 => ?_
  have ht := ht h1 e2
  have hs3 : Sh h1 := by rw [e2]; exact sh_si hs
  refine ab_aload_n (i := 0) dX1_forget_5 rfl rfl ?_
  refine ab_iconst (v := 0) dX1_forget_6 (by decide) ?_
  refine ab_putI f_X1_41 (Or.inl rfl) rfl (sh_k hs3 62 1 (by decide) rfl) rfl rfl dX1_forget_7 ?_
  refine Wp.nm fun h4 e5 => ?_
  have ht := ht h4 e5
  have hs6 : Sh h4 := by rw [e5]; exact sh_si hs3
  refine ab_aload_n (i := 0) dX1_forget_10 rfl rfl ?_
  refine ab_iconst (v := 0) dX1_forget_11 (by decide) ?_
  refine ab_putI f_X1_44 (Or.inl rfl) rfl (sh_k hs6 62 1 (by decide) rfl) rfl rfl dX1_forget_12 ?_
  refine Wp.nm fun h7 e8 => ?_
  have ht := ht h7 e8
  have hs9 : Sh h7 := by rw [e8]; exact sh_si hs6
  refine ab_aload_n (i := 0) dX1_forget_15 rfl rfl ?_
  refine ab_iconst (v := 0) dX1_forget_16 (by decide) ?_
  refine ab_putI f_X1_47 (Or.inl rfl) rfl (sh_k hs9 62 1 (by decide) rfl) rfl rfl dX1_forget_17 ?_
  refine Wp.nm fun h10 e11 => ?_
  have ht := ht h10 e11
  have hs12 : Sh h10 := by rw [e11]; exact sh_si hs9
  refine ab_aload_n (i := 0) dX1_forget_20 rfl rfl ?_
  refine ab_getR (b := 70) f_X1_50 rfl (sh_k hs12 62 1 (by decide) rfl) (sh_r hs12 82 rfl) dX1_forget_21 ?_
  refine ab_iconst (v := 0) dX1_forget_24 (by decide) ?_
  refine ab_iconst (v := (-1)) dX1_forget_25 (by decide) ?_
  refine ab_iast (sh_k hs12 70 14 (by decide) rfl) (sh_in hs12 70 4 (by decide) (by decide) rfl (by unfold vp_in; decide)) dX1_forget_26 ?_
  refine Wp.nm fun h13 e14 => ?_
  have ht := ht h13 e14
  have hs15 : Sh h13 := by rw [e14]; exact sh_si hs12
  exact ab_vret rfl dX1_forget_27 (Nat.le_of_ble_eq_true rfl) (Nat.le_of_ble_eq_true rfl) ht
theorem dX1_litWith_0 : decode cX1_litWith 0 = .ok (.aload_n 0, 1) := by decide +kernel
theorem dX1_litWith_1 : decode cX1_litWith 1 = .ok (.getfield 73, 3) := by decide +kernel
theorem dX1_litWith_4 : decode cX1_litWith 4 = .ok (.iload_n 1, 1) := by decide +kernel
theorem dX1_litWith_5 : decode cX1_litWith 5 = .ok (.aload_n 2, 1) := by decide +kernel
theorem dX1_litWith_6 : decode cX1_litWith 6 = .ok (.invokevirtual 77, 3) := by decide +kernel
theorem dX1_litWith_9 : decode cX1_litWith 9 = .ok (.aload_n 0, 1) := by decide +kernel
theorem dX1_litWith_10 : decode cX1_litWith 10 = .ok (.getfield 73, 3) := by decide +kernel
theorem dX1_litWith_13 : decode cX1_litWith 13 = .ok (.invokevirtual 83, 3) := by decide +kernel
theorem dX1_litWith_16 : decode cX1_litWith 16 = .ok (.aload_n 0, 1) := by decide +kernel
theorem dX1_litWith_17 : decode cX1_litWith 17 = .ok (.iconst 0, 1) := by decide +kernel
theorem dX1_litWith_18 : decode cX1_litWith 18 = .ok (.bipush 120, 2) := by decide +kernel
theorem dX1_litWith_20 : decode cX1_litWith 20 = .ok (.sipush 1201, 3) := by decide +kernel
theorem dX1_litWith_23 : decode cX1_litWith 23 = .ok (.invokevirtual 86, 3) := by decide +kernel
theorem dX1_litWith_26 : decode cX1_litWith 26 = .ok (.istore_n 3, 1) := by decide +kernel
theorem dX1_litWith_27 : decode cX1_litWith 27 = .ok (.aload_n 0, 1) := by decide +kernel
theorem dX1_litWith_28 : decode cX1_litWith 28 = .ok (.getfield 73, 3) := by decide +kernel
theorem dX1_litWith_31 : decode cX1_litWith 31 = .ok (.invokevirtual 90, 3) := by decide +kernel
theorem dX1_litWith_34 : decode cX1_litWith 34 = .ok (.iload_n 3, 1) := by decide +kernel
theorem dX1_litWith_35 : decode cX1_litWith 35 = .ok (.ireturn, 1) := by decide +kernel
set_option maxRecDepth 20000 in
theorem T_X1_litWith {Q : Option Value → ah_T → Prop} {h : ah_T} (hs : Sh h) (x1 : Int32) (a2 : Nat) (hk_a2 : ah_k h a2 = 14) (ht : (Mt mX3_carry [.ref 43, .int x1, .ref a2] h (ab_qv fun h1 => Sh h1 ∧ ah_k h1 a2 = 14 ∧ (Mt mX3_restart [.ref 43] h1 (ab_qv fun h5 => Sh h5 ∧ ah_k h5 a2 = 14 ∧ (Mt mX1_litFrom [.ref 62, .int 0, .int 120, .int 1201] h5 (ab_qi fun v11 h9 => Sh h9 ∧ ah_k h9 a2 = 14 ∧ (Mt mX3_dismiss [.ref 43] h9 (ab_qv fun h13 => Sh h13 ∧ ah_k h13 a2 = 14 ∧ Q (some (.int v11)) h13))))))))) : Mt mX1_litWith [.ref 62, .int x1, .ref a2] h Q := by
  refine Mt.ofWp rfl (by exact (Nat.le_of_ble_eq_true rfl)) (Wp.fewer (L' := [some (.ref 62), some (.int x1), some (.ref a2), none]) (show ab_leL _ _ from ⟨rfl, ⟨rfl, ⟨rfl, trivial⟩⟩⟩) ?_)
  refine ab_aload_n (i := 0) dX1_litWith_0 rfl rfl ?_
  refine ab_getR (b := 43) f_X1_73 rfl (sh_k hs 62 1 (by decide) rfl) (sh_r hs 81 rfl) dX1_litWith_1 ?_
  refine ab_iload_n (i := 1) dX1_litWith_4 rfl rfl ?_
  refine ab_aload_n (i := 2) dX1_litWith_5 rfl rfl ?_
  refine ab_callV (b := 43) (As := [.int x1, .ref a2]) ht (Y_X3_carry) l_X1_77 in_X3_carry se_X3_carry (sh_k hs 43 3 (by decide) rfl) (by decide) rfl rfl ⟨(Nat.le_of_ble_eq_true rfl), (Nat.le_of_ble_eq_true rfl), (Nat.le_of_ble_eq_true rfl), (Nat.le_of_ble_eq_true rfl)⟩ dX1_litWith_6 ?_
  rintro _ h1 ⟨rfl, hs2, hk4, ht⟩
  refine ab_aload_n (i := 0) dX1_litWith_9 rfl rfl ?_
  refine ab_getR (b := 43) f_X1_73 rfl (sh_k hs2 62 1 (by decide) rfl) (sh_r hs2 81 rfl) dX1_litWith_10 ?_
  refine ab_callV (b := 43) (As := []) ht (Y_X3_restart) l_X1_83 in_X3_restart se_X3_restart (sh_k hs2 43 3 (by decide) rfl) (by decide) rfl rfl ⟨(Nat.le_of_ble_eq_true rfl), (Nat.le_of_ble_eq_true rfl), (Nat.le_of_ble_eq_true rfl), (Nat.le_of_ble_eq_true rfl)⟩ dX1_litWith_13 ?_
  rintro _ h5 ⟨rfl, hs6, hk8, ht⟩
  refine ab_aload_n (i := 0) dX1_litWith_16 rfl rfl ?_
  refine ab_iconst (v := 0) dX1_litWith_17 (by decide) ?_
  refine ab_bipush (v := 120) dX1_litWith_18 (by decide) ?_
  refine ab_sipush (v := 1201) dX1_litWith_20 (by decide) ?_
  refine ab_callV (b := 62) (As := [.int 0, .int 120, .int 1201]) ht (Y_X1_litFrom) l_X1_86 in_X1_litFrom se_X1_litFrom (sh_k hs6 62 1 (by decide) rfl) (by decide) rfl rfl ⟨(Nat.le_of_ble_eq_true rfl), (Nat.le_of_ble_eq_true rfl), (Nat.le_of_ble_eq_true rfl), (Nat.le_of_ble_eq_true rfl)⟩ dX1_litWith_23 ?_
  rintro _ h9 ⟨v11, rfl, hs10, hk12, ht⟩
  refine ab_istore_n (i := 3) (L' := [some (.ref 62), some (.int x1), some (.ref a2), some (.int v11)]) dX1_litWith_26 rfl (by exact (Nat.le_of_ble_eq_true rfl)) rfl rfl ?_
  refine ab_aload_n (i := 0) dX1_litWith_27 rfl rfl ?_
  refine ab_getR (b := 43) f_X1_73 rfl (sh_k hs10 62 1 (by decide) rfl) (sh_r hs10 81 rfl) dX1_litWith_28 ?_
  refine ab_callV (b := 43) (As := []) ht (Y_X3_dismiss) l_X1_90 in_X3_dismiss se_X3_dismiss (sh_k hs10 43 3 (by decide) rfl) (by decide) rfl rfl ⟨(Nat.le_of_ble_eq_true rfl), (Nat.le_of_ble_eq_true rfl), (Nat.le_of_ble_eq_true rfl), (Nat.le_of_ble_eq_true rfl)⟩ dX1_litWith_31 ?_
  rintro _ h13 ⟨rfl, hs14, hk16, ht⟩
  refine ab_iload_n (i := 3) dX1_litWith_34 rfl rfl ?_
  exact ab_iret rfl dX1_litWith_35 (Nat.le_of_ble_eq_true rfl) (Nat.le_of_ble_eq_true rfl) ht
theorem dX1_litFrom_0 : decode cX1_litFrom 0 = .ok (.iconst 0, 1) := by decide +kernel
theorem dX1_litFrom_1 : decode cX1_litFrom 1 = .ok (.istore 4, 2) := by decide +kernel
theorem dX1_litFrom_3 : decode cX1_litFrom 3 = .ok (.iload_n 1, 1) := by decide +kernel
theorem dX1_litFrom_4 : decode cX1_litFrom 4 = .ok (.istore 5, 2) := by decide +kernel
theorem dX1_litFrom_6 : decode cX1_litFrom 6 = .ok (.iload 5, 2) := by decide +kernel
theorem dX1_litFrom_8 : decode cX1_litFrom 8 = .ok (.iload_n 2, 1) := by decide +kernel
theorem dX1_litFrom_9 : decode cX1_litFrom 9 = .ok (.if_icmp .ge 32, 3) := by decide +kernel
theorem dX1_litFrom_12 : decode cX1_litFrom 12 = .ok (.iload 4, 2) := by decide +kernel
theorem dX1_litFrom_14 : decode cX1_litFrom 14 = .ok (.iload_n 3, 1) := by decide +kernel
theorem dX1_litFrom_15 : decode cX1_litFrom 15 = .ok (.if_icmp .ge 26, 3) := by decide +kernel
theorem dX1_litFrom_18 : decode cX1_litFrom 18 = .ok (.iload 4, 2) := by decide +kernel
theorem dX1_litFrom_20 : decode cX1_litFrom 20 = .ok (.aload_n 0, 1) := by decide +kernel
theorem dX1_litFrom_21 : decode cX1_litFrom 21 = .ok (.getfield 73, 3) := by decide +kernel
theorem dX1_litFrom_24 : decode cX1_litFrom 24 = .ok (.iload 5, 2) := by decide +kernel
theorem dX1_litFrom_26 : decode cX1_litFrom 26 = .ok (.invokevirtual 93, 3) := by decide +kernel
theorem dX1_litFrom_29 : decode cX1_litFrom 29 = .ok (.invokestatic 97, 3) := by decide +kernel
theorem dX1_litFrom_32 : decode cX1_litFrom 32 = .ok (.iadd, 1) := by decide +kernel
theorem dX1_litFrom_33 : decode cX1_litFrom 33 = .ok (.istore 4, 2) := by decide +kernel
theorem dX1_litFrom_35 : decode cX1_litFrom 35 = .ok (.iinc 5 1, 3) := by decide +kernel
theorem dX1_litFrom_38 : decode cX1_litFrom 38 = .ok (.goto (-32), 3) := by decide +kernel
theorem dX1_litFrom_41 : decode cX1_litFrom 41 = .ok (.iload 4, 2) := by decide +kernel
theorem dX1_litFrom_43 : decode cX1_litFrom 43 = .ok (.ireturn, 1) := by decide +kernel
set_option maxRecDepth 20000 in
theorem T_X1_litFrom_6 {Q : Option Value → ah_T → Prop} {h : ah_T} (hs : Sh h) (x2 : Int32) (x3 : Int32) (x4 : Int32) (x5 : Int32) (ht : ((x2 ≤ x5 → Q (some (.int x4)) h) ∧ (¬ x2 ≤ x5 → ((x3 ≤ x4 → Q (some (.int x4)) h) ∧ (¬ x3 ≤ x4 → (Mt mX3_step [.ref 43, .int x5] h (ab_qi fun v5 h3 => Sh h3 ∧ Wp mX1_litFrom Q 0 0 6 [some (.ref 62), none, some (.int x2), some (.int x3), some (.int (x4 + (f_J6_bitCount_0f7a4 v5))), some (.int (x5 + 1))] [] h3))))))) : Wp mX1_litFrom Q 0 0 6 [some (.ref 62), none, some (.int x2), some (.int x3), some (.int x4), some (.int x5)] [] h := by
  refine ab_iload (i := 5) dX1_litFrom_6 rfl ?_
  refine ab_iload_n (i := 2) dX1_litFrom_8 rfl rfl ?_
  refine ab_icmp_ge (tgt := 41) dX1_litFrom_9 (by decide) (fun c1 => ?_) (fun c1 => ?_)
  · have ht := ht.1 c1
    refine ab_iload (i := 4) dX1_litFrom_41 rfl ?_
    exact ab_iret rfl dX1_litFrom_43 (Nat.le_of_ble_eq_true rfl) (Nat.le_of_ble_eq_true rfl) ht
  · have ht := ht.2 c1
    refine ab_iload (i := 4) dX1_litFrom_12 rfl ?_
    refine ab_iload_n (i := 3) dX1_litFrom_14 rfl rfl ?_
    refine ab_icmp_ge (tgt := 41) dX1_litFrom_15 (by decide) (fun c2 => ?_) (fun c2 => ?_)
    · have ht := ht.1 c2
      refine ab_iload (i := 4) dX1_litFrom_41 rfl ?_
      exact ab_iret rfl dX1_litFrom_43 (Nat.le_of_ble_eq_true rfl) (Nat.le_of_ble_eq_true rfl) ht
    · have ht := ht.2 c2
      refine ab_iload (i := 4) dX1_litFrom_18 rfl ?_
      refine ab_aload_n (i := 0) dX1_litFrom_20 rfl rfl ?_
      refine ab_getR (b := 43) f_X1_73 rfl (sh_k hs 62 1 (by decide) rfl) (sh_r hs 81 rfl) dX1_litFrom_21 ?_
      refine ab_iload (i := 5) dX1_litFrom_24 rfl ?_
      refine ab_callV (b := 43) (As := [.int x5]) ht (Y_X3_step) l_X1_93 in_X3_step se_X3_step (sh_k hs 43 3 (by decide) rfl) (by decide) rfl rfl ⟨(Nat.le_of_ble_eq_true rfl), (Nat.le_of_ble_eq_true rfl), (Nat.le_of_ble_eq_true rfl), (Nat.le_of_ble_eq_true rfl)⟩ dX1_litFrom_26 ?_
      rintro _ h3 ⟨v5, rfl, hs4, ht⟩
      refine ab_callS (Q' := fun r h' => r = some (.int (f_J6_bitCount_0f7a4 v5)) ∧ h3 = h') (As := [.int v5]) (c_J6_bitCount_0f7a4 hs4 v5 ⟨rfl, rfl⟩) (Y_J6_bitCount_0f7a4) l_X1_97 st_J6_bitCount_0f7a4 rfl ⟨(Nat.le_of_ble_eq_true rfl), (Nat.le_of_ble_eq_true rfl), (Nat.le_of_ble_eq_true rfl), (Nat.le_of_ble_eq_true rfl)⟩ dX1_litFrom_29 ?_
      rintro _ _ ⟨rfl, rfl⟩
      refine ab_iadd dX1_litFrom_32 ?_
      refine ab_istore (i := 4) (L' := [some (.ref 62), none, some (.int x2), some (.int x3), some (.int (x4 + (f_J6_bitCount_0f7a4 v5))), some (.int x5)]) dX1_litFrom_33 (by exact (Nat.le_of_ble_eq_true rfl)) rfl rfl ?_
      refine ab_iinc (i := 5) (x := x5) (v := (x5 + 1)) (L' := [some (.ref 62), none, some (.int x2), some (.int x3), some (.int (x4 + (f_J6_bitCount_0f7a4 v5))), some (.int (x5 + 1))]) dX1_litFrom_35 rfl rfl (by exact (Nat.le_of_ble_eq_true rfl)) rfl rfl ?_
      refine ab_goto (tgt := 6) dX1_litFrom_38 (by decide) ?_
      exact Wp.fewer (L' := [some (.ref 62), none, some (.int x2), some (.int x3), some (.int (x4 + (f_J6_bitCount_0f7a4 v5))), some (.int (x5 + 1))]) (show ab_leL _ _ from ⟨rfl, ⟨rfl, ⟨rfl, ⟨rfl, ⟨rfl, trivial⟩⟩⟩⟩⟩) ht
set_option maxRecDepth 20000 in
theorem T_X1_litFrom {Q : Option Value → ah_T → Prop} {h : ah_T} (hs : Sh h) (x1 : Int32) (x2 : Int32) (x3 : Int32) (ht : Wp mX1_litFrom Q 0 0 6 [some (.ref 62), none, some (.int x2), some (.int x3), some (.int 0), some (.int x1)] [] h) : Mt mX1_litFrom [.ref 62, .int x1, .int x2, .int x3] h Q := by
  refine Mt.ofWp rfl (by exact (Nat.le_of_ble_eq_true rfl)) (Wp.fewer (L' := [some (.ref 62), some (.int x1), some (.int x2), some (.int x3), none, none]) (show ab_leL _ _ from ⟨rfl, ⟨rfl, ⟨rfl, ⟨rfl, trivial⟩⟩⟩⟩) ?_)
  refine ab_iconst (v := 0) dX1_litFrom_0 (by decide) ?_
  refine ab_istore (i := 4) (L' := [some (.ref 62), some (.int x1), some (.int x2), some (.int x3), some (.int 0), none]) dX1_litFrom_1 (by exact (Nat.le_of_ble_eq_true rfl)) rfl rfl ?_
  refine ab_iload_n (i := 1) dX1_litFrom_3 rfl rfl ?_
  refine ab_istore (i := 5) (L' := [some (.ref 62), some (.int x1), some (.int x2), some (.int x3), some (.int 0), some (.int x1)]) dX1_litFrom_4 (by exact (Nat.le_of_ble_eq_true rfl)) rfl rfl ?_
  exact Wp.fewer (L' := [some (.ref 62), none, some (.int x2), some (.int x3), some (.int 0), some (.int x1)]) (show ab_leL _ _ from ⟨rfl, ⟨rfl, ⟨rfl, ⟨rfl, ⟨rfl, trivial⟩⟩⟩⟩⟩) ht
theorem dX1_findWorst_0 : decode cX1_findWorst 0 = .ok (.aload_n 0, 1) := by decide +kernel
theorem dX1_findWorst_1 : decode cX1_findWorst 1 = .ok (.getfield 50, 3) := by decide +kernel
theorem dX1_findWorst_4 : decode cX1_findWorst 4 = .ok (.iconst 0, 1) := by decide +kernel
theorem dX1_findWorst_5 : decode cX1_findWorst 5 = .ok (.iaload, 1) := by decide +kernel
theorem dX1_findWorst_6 : decode cX1_findWorst 6 = .ok (.iload_n 1, 1) := by decide +kernel
theorem dX1_findWorst_7 : decode cX1_findWorst 7 = .ok (.if_icmp .ne 35, 3) := by decide +kernel
theorem dX1_findWorst_10 : decode cX1_findWorst 10 = .ok (.aload_n 0, 1) := by decide +kernel
theorem dX1_findWorst_11 : decode cX1_findWorst 11 = .ok (.getfield 50, 3) := by decide +kernel
theorem dX1_findWorst_14 : decode cX1_findWorst 14 = .ok (.iconst 1, 1) := by decide +kernel
theorem dX1_findWorst_15 : decode cX1_findWorst 15 = .ok (.iaload, 1) := by decide +kernel
theorem dX1_findWorst_16 : decode cX1_findWorst 16 = .ok (.iload_n 2, 1) := by decide +kernel
theorem dX1_findWorst_17 : decode cX1_findWorst 17 = .ok (.if_icmp .ne 25, 3) := by decide +kernel
theorem dX1_findWorst_20 : decode cX1_findWorst 20 = .ok (.aload_n 0, 1) := by decide +kernel
theorem dX1_findWorst_21 : decode cX1_findWorst 21 = .ok (.getfield 50, 3) := by decide +kernel
theorem dX1_findWorst_24 : decode cX1_findWorst 24 = .ok (.iconst 2, 1) := by decide +kernel
theorem dX1_findWorst_25 : decode cX1_findWorst 25 = .ok (.iaload, 1) := by decide +kernel
theorem dX1_findWorst_26 : decode cX1_findWorst 26 = .ok (.iload_n 3, 1) := by decide +kernel
theorem dX1_findWorst_27 : decode cX1_findWorst 27 = .ok (.if_icmp .ne 15, 3) := by decide +kernel
theorem dX1_findWorst_30 : decode cX1_findWorst 30 = .ok (.aload_n 0, 1) := by decide +kernel
theorem dX1_findWorst_31 : decode cX1_findWorst 31 = .ok (.getfield 50, 3) := by decide +kernel
theorem dX1_findWorst_34 : decode cX1_findWorst 34 = .ok (.iconst 3, 1) := by decide +kernel
theorem dX1_findWorst_35 : decode cX1_findWorst 35 = .ok (.iaload, 1) := by decide +kernel
theorem dX1_findWorst_36 : decode cX1_findWorst 36 = .ok (.iload 4, 2) := by decide +kernel
theorem dX1_findWorst_38 : decode cX1_findWorst 38 = .ok (.if_icmp .ne 4, 3) := by decide +kernel
theorem dX1_findWorst_41 : decode cX1_findWorst 41 = .ok (.return_, 1) := by decide +kernel
theorem dX1_findWorst_42 : decode cX1_findWorst 42 = .ok (.aload_n 0, 1) := by decide +kernel
theorem dX1_findWorst_43 : decode cX1_findWorst 43 = .ok (.getfield 50, 3) := by decide +kernel
theorem dX1_findWorst_46 : decode cX1_findWorst 46 = .ok (.iconst 0, 1) := by decide +kernel
theorem dX1_findWorst_47 : decode cX1_findWorst 47 = .ok (.iload_n 1, 1) := by decide +kernel
theorem dX1_findWorst_48 : decode cX1_findWorst 48 = .ok (.iastore, 1) := by decide +kernel
theorem dX1_findWorst_49 : decode cX1_findWorst 49 = .ok (.aload_n 0, 1) := by decide +kernel
theorem dX1_findWorst_50 : decode cX1_findWorst 50 = .ok (.getfield 50, 3) := by decide +kernel
theorem dX1_findWorst_53 : decode cX1_findWorst 53 = .ok (.iconst 1, 1) := by decide +kernel
theorem dX1_findWorst_54 : decode cX1_findWorst 54 = .ok (.iload_n 2, 1) := by decide +kernel
theorem dX1_findWorst_55 : decode cX1_findWorst 55 = .ok (.iastore, 1) := by decide +kernel
theorem dX1_findWorst_56 : decode cX1_findWorst 56 = .ok (.aload_n 0, 1) := by decide +kernel
theorem dX1_findWorst_57 : decode cX1_findWorst 57 = .ok (.getfield 50, 3) := by decide +kernel
theorem dX1_findWorst_60 : decode cX1_findWorst 60 = .ok (.iconst 2, 1) := by decide +kernel
theorem dX1_findWorst_61 : decode cX1_findWorst 61 = .ok (.iload_n 3, 1) := by decide +kernel
theorem dX1_findWorst_62 : decode cX1_findWorst 62 = .ok (.iastore, 1) := by decide +kernel
theorem dX1_findWorst_63 : decode cX1_findWorst 63 = .ok (.aload_n 0, 1) := by decide +kernel
theorem dX1_findWorst_64 : decode cX1_findWorst 64 = .ok (.getfield 50, 3) := by decide +kernel
theorem dX1_findWorst_67 : decode cX1_findWorst 67 = .ok (.iconst 3, 1) := by decide +kernel
theorem dX1_findWorst_68 : decode cX1_findWorst 68 = .ok (.iload 4, 2) := by decide +kernel
theorem dX1_findWorst_70 : decode cX1_findWorst 70 = .ok (.iastore, 1) := by decide +kernel
theorem dX1_findWorst_71 : decode cX1_findWorst 71 = .ok (.aload_n 0, 1) := by decide +kernel
theorem dX1_findWorst_72 : decode cX1_findWorst 72 = .ok (.sipush 1201, 3) := by decide +kernel
theorem dX1_findWorst_75 : decode cX1_findWorst 75 = .ok (.putfield 30, 3) := by decide +kernel
theorem dX1_findWorst_78 : decode cX1_findWorst 78 = .ok (.aload_n 0, 1) := by decide +kernel
theorem dX1_findWorst_79 : decode cX1_findWorst 79 = .ok (.getfield 73, 3) := by decide +kernel
theorem dX1_findWorst_82 : decode cX1_findWorst 82 = .ok (.invokevirtual 83, 3) := by decide +kernel
theorem dX1_findWorst_85 : decode cX1_findWorst 85 = .ok (.aload_n 0, 1) := by decide +kernel
theorem dX1_findWorst_86 : decode cX1_findWorst 86 = .ok (.iconst 0, 1) := by decide +kernel
theorem dX1_findWorst_87 : decode cX1_findWorst 87 = .ok (.iload_n 2, 1) := by decide +kernel
theorem dX1_findWorst_88 : decode cX1_findWorst 88 = .ok (.sipush 1201, 3) := by decide +kernel
theorem dX1_findWorst_91 : decode cX1_findWorst 91 = .ok (.invokevirtual 86, 3) := by decide +kernel
theorem dX1_findWorst_94 : decode cX1_findWorst 94 = .ok (.istore 5, 2) := by decide +kernel
theorem dX1_findWorst_96 : decode cX1_findWorst 96 = .ok (.aload_n 0, 1) := by decide +kernel
theorem dX1_findWorst_97 : decode cX1_findWorst 97 = .ok (.getfield 73, 3) := by decide +kernel
theorem dX1_findWorst_100 : decode cX1_findWorst 100 = .ok (.invokevirtual 102, 3) := by decide +kernel
theorem dX1_findWorst_103 : decode cX1_findWorst 103 = .ok (.iload 4, 2) := by decide +kernel
theorem dX1_findWorst_105 : decode cX1_findWorst 105 = .ok (.ifCond .ne 7, 3) := by decide +kernel
theorem dX1_findWorst_108 : decode cX1_findWorst 108 = .ok (.iconst 1, 1) := by decide +kernel
theorem dX1_findWorst_109 : decode cX1_findWorst 109 = .ok (.goto 29, 3) := by decide +kernel
theorem dX1_findWorst_112 : decode cX1_findWorst 112 = .ok (.iload 4, 2) := by decide +kernel
theorem dX1_findWorst_114 : decode cX1_findWorst 114 = .ok (.iconst 1, 1) := by decide +kernel
theorem dX1_findWorst_115 : decode cX1_findWorst 115 = .ok (.if_icmp .ne 8, 3) := by decide +kernel
theorem dX1_findWorst_118 : decode cX1_findWorst 118 = .ok (.bipush 12, 2) := by decide +kernel
theorem dX1_findWorst_120 : decode cX1_findWorst 120 = .ok (.goto 18, 3) := by decide +kernel
theorem dX1_findWorst_123 : decode cX1_findWorst 123 = .ok (.iload 4, 2) := by decide +kernel
theorem dX1_findWorst_125 : decode cX1_findWorst 125 = .ok (.iconst 2, 1) := by decide +kernel
theorem dX1_findWorst_126 : decode cX1_findWorst 126 = .ok (.if_icmp .ne 9, 3) := by decide +kernel
theorem dX1_findWorst_129 : decode cX1_findWorst 129 = .ok (.sipush 144, 3) := by decide +kernel
theorem dX1_findWorst_132 : decode cX1_findWorst 132 = .ok (.goto 6, 3) := by decide +kernel
theorem dX1_findWorst_135 : decode cX1_findWorst 135 = .ok (.sipush 1728, 3) := by decide +kernel
theorem dX1_findWorst_138 : decode cX1_findWorst 138 = .ok (.istore 6, 2) := by decide +kernel
theorem dX1_findWorst_140 : decode cX1_findWorst 140 = .ok (.iconst 0, 1) := by decide +kernel
theorem dX1_findWorst_141 : decode cX1_findWorst 141 = .ok (.istore 7, 2) := by decide +kernel
theorem dX1_findWorst_143 : decode cX1_findWorst 143 = .ok (.iload 7, 2) := by decide +kernel
theorem dX1_findWorst_145 : decode cX1_findWorst 145 = .ok (.iload 6, 2) := by decide +kernel
theorem dX1_findWorst_147 : decode cX1_findWorst 147 = .ok (.if_icmp .ge 129, 3) := by decide +kernel
theorem dX1_findWorst_150 : decode cX1_findWorst 150 = .ok (.aload_n 0, 1) := by decide +kernel
theorem dX1_findWorst_151 : decode cX1_findWorst 151 = .ok (.iload 7, 2) := by decide +kernel
theorem dX1_findWorst_153 : decode cX1_findWorst 153 = .ok (.iload 6, 2) := by decide +kernel
theorem dX1_findWorst_155 : decode cX1_findWorst 155 = .ok (.iload_n 2, 1) := by decide +kernel
theorem dX1_findWorst_156 : decode cX1_findWorst 156 = .ok (.iload_n 3, 1) := by decide +kernel
theorem dX1_findWorst_157 : decode cX1_findWorst 157 = .ok (.invokevirtual 105, 3) := by decide +kernel
theorem dX1_findWorst_160 : decode cX1_findWorst 160 = .ok (.ifCond .ne 6, 3) := by decide +kernel
theorem dX1_findWorst_163 : decode cX1_findWorst 163 = .ok (.goto 107, 3) := by decide +kernel
theorem dX1_findWorst_166 : decode cX1_findWorst 166 = .ok (.aload_n 0, 1) := by decide +kernel
theorem dX1_findWorst_167 : decode cX1_findWorst 167 = .ok (.getfield 73, 3) := by decide +kernel
theorem dX1_findWorst_170 : decode cX1_findWorst 170 = .ok (.iload_n 1, 1) := by decide +kernel
theorem dX1_findWorst_171 : decode cX1_findWorst 171 = .ok (.aload_n 0, 1) := by decide +kernel
theorem dX1_findWorst_172 : decode cX1_findWorst 172 = .ok (.getfield 53, 3) := by decide +kernel
theorem dX1_findWorst_175 : decode cX1_findWorst 175 = .ok (.invokevirtual 77, 3) := by decide +kernel
theorem dX1_findWorst_178 : decode cX1_findWorst 178 = .ok (.aload_n 0, 1) := by decide +kernel
theorem dX1_findWorst_179 : decode cX1_findWorst 179 = .ok (.getfield 73, 3) := by decide +kernel
theorem dX1_findWorst_182 : decode cX1_findWorst 182 = .ok (.invokevirtual 109, 3) := by decide +kernel
theorem dX1_findWorst_185 : decode cX1_findWorst 185 = .ok (.iload 5, 2) := by decide +kernel
theorem dX1_findWorst_187 : decode cX1_findWorst 187 = .ok (.aload_n 0, 1) := by decide +kernel
theorem dX1_findWorst_188 : decode cX1_findWorst 188 = .ok (.iload_n 2, 1) := by decide +kernel
theorem dX1_findWorst_189 : decode cX1_findWorst 189 = .ok (.bipush 120, 2) := by decide +kernel
theorem dX1_findWorst_191 : decode cX1_findWorst 191 = .ok (.aload_n 0, 1) := by decide +kernel
theorem dX1_findWorst_192 : decode cX1_findWorst 192 = .ok (.getfield 30, 3) := by decide +kernel
theorem dX1_findWorst_195 : decode cX1_findWorst 195 = .ok (.iload 5, 2) := by decide +kernel
theorem dX1_findWorst_197 : decode cX1_findWorst 197 = .ok (.isub, 1) := by decide +kernel
theorem dX1_findWorst_198 : decode cX1_findWorst 198 = .ok (.invokevirtual 86, 3) := by decide +kernel
theorem dX1_findWorst_201 : decode cX1_findWorst 201 = .ok (.iadd, 1) := by decide +kernel
theorem dX1_findWorst_202 : decode cX1_findWorst 202 = .ok (.istore 8, 2) := by decide +kernel
theorem dX1_findWorst_204 : decode cX1_findWorst 204 = .ok (.iload 8, 2) := by decide +kernel
theorem dX1_findWorst_206 : decode cX1_findWorst 206 = .ok (.aload_n 0, 1) := by decide +kernel
theorem dX1_findWorst_207 : decode cX1_findWorst 207 = .ok (.getfield 30, 3) := by decide +kernel
theorem dX1_findWorst_210 : decode cX1_findWorst 210 = .ok (.if_icmp .ge 60, 3) := by decide +kernel
theorem dX1_findWorst_213 : decode cX1_findWorst 213 = .ok (.aload_n 0, 1) := by decide +kernel
theorem dX1_findWorst_214 : decode cX1_findWorst 214 = .ok (.iload 8, 2) := by decide +kernel
theorem dX1_findWorst_216 : decode cX1_findWorst 216 = .ok (.putfield 30, 3) := by decide +kernel
theorem dX1_findWorst_219 : decode cX1_findWorst 219 = .ok (.iload 6, 2) := by decide +kernel
theorem dX1_findWorst_221 : decode cX1_findWorst 221 = .ok (.istore 9, 2) := by decide +kernel
theorem dX1_findWorst_223 : decode cX1_findWorst 223 = .ok (.iconst 0, 1) := by decide +kernel
theorem dX1_findWorst_224 : decode cX1_findWorst 224 = .ok (.istore 10, 2) := by decide +kernel
theorem dX1_findWorst_226 : decode cX1_findWorst 226 = .ok (.iload 10, 2) := by decide +kernel
theorem dX1_findWorst_228 : decode cX1_findWorst 228 = .ok (.iload 4, 2) := by decide +kernel
theorem dX1_findWorst_230 : decode cX1_findWorst 230 = .ok (.if_icmp .ge 40, 3) := by decide +kernel
theorem dX1_findWorst_233 : decode cX1_findWorst 233 = .ok (.iload 9, 2) := by decide +kernel
theorem dX1_findWorst_235 : decode cX1_findWorst 235 = .ok (.bipush 12, 2) := by decide +kernel
theorem dX1_findWorst_237 : decode cX1_findWorst 237 = .ok (.idiv, 1) := by decide +kernel
theorem dX1_findWorst_238 : decode cX1_findWorst 238 = .ok (.istore 9, 2) := by decide +kernel
theorem dX1_findWorst_240 : decode cX1_findWorst 240 = .ok (.aload_n 0, 1) := by decide +kernel
theorem dX1_findWorst_241 : decode cX1_findWorst 241 = .ok (.getfield 34, 3) := by decide +kernel
theorem dX1_findWorst_244 : decode cX1_findWorst 244 = .ok (.iload 10, 2) := by decide +kernel
theorem dX1_findWorst_246 : decode cX1_findWorst 246 = .ok (.iload 9, 2) := by decide +kernel
theorem dX1_findWorst_248 : decode cX1_findWorst 248 = .ok (.ifCond .ne 7, 3) := by decide +kernel
theorem dX1_findWorst_251 : decode cX1_findWorst 251 = .ok (.iconst (-1), 1) := by decide +kernel
theorem dX1_findWorst_252 : decode cX1_findWorst 252 = .ok (.goto 11, 3) := by decide +kernel
theorem dX1_findWorst_255 : decode cX1_findWorst 255 = .ok (.iload 7, 2) := by decide +kernel
theorem dX1_findWorst_257 : decode cX1_findWorst 257 = .ok (.iload 9, 2) := by decide +kernel
theorem dX1_findWorst_259 : decode cX1_findWorst 259 = .ok (.idiv, 1) := by decide +kernel
theorem dX1_findWorst_260 : decode cX1_findWorst 260 = .ok (.bipush 12, 2) := by decide +kernel
theorem dX1_findWorst_262 : decode cX1_findWorst 262 = .ok (.irem, 1) := by decide +kernel
theorem dX1_findWorst_263 : decode cX1_findWorst 263 = .ok (.iastore, 1) := by decide +kernel
theorem dX1_findWorst_264 : decode cX1_findWorst 264 = .ok (.iinc 10 1, 3) := by decide +kernel
theorem dX1_findWorst_267 : decode cX1_findWorst 267 = .ok (.goto (-41), 3) := by decide +kernel
theorem dX1_findWorst_270 : decode cX1_findWorst 270 = .ok (.iinc 7 1, 3) := by decide +kernel
theorem dX1_findWorst_273 : decode cX1_findWorst 273 = .ok (.goto (-130), 3) := by decide +kernel
theorem dX1_findWorst_276 : decode cX1_findWorst 276 = .ok (.aload_n 0, 1) := by decide +kernel
theorem dX1_findWorst_277 : decode cX1_findWorst 277 = .ok (.getfield 73, 3) := by decide +kernel
theorem dX1_findWorst_280 : decode cX1_findWorst 280 = .ok (.invokevirtual 90, 3) := by decide +kernel
theorem dX1_findWorst_283 : decode cX1_findWorst 283 = .ok (.return_, 1) := by decide +kernel
set_option maxRecDepth 20000 in
theorem T_X1_findWorst_42 {Q : Option Value → ah_T → Prop} {h : ah_T} (hs : Sh h) (x1 : Int32) (x2 : Int32) (x3 : Int32) (x4 : Int32) (ht : (∀ h5, h5 = ah_si h 70 (Int32.toNatClampNeg 0) x1 → (∀ h8, h8 = ah_si h5 70 (Int32.toNatClampNeg 1) x2 → (∀ h11, h11 = ah_si h8 70 (Int32.toNatClampNeg 2) x3 → (∀ h14, h14 = ah_si h11 70 (Int32.toNatClampNeg 3) x4 → (∀ h17, h17 = ah_si h14 62 4 1201 → (Mt mX3_restart [.ref 43] h17 (ab_qv fun h20 => Sh h20 ∧ (Mt mX1_litFrom [.ref 62, .int 0, .int x2, .int 1201] h20 (ab_qi fun v25 h23 => Sh h23 ∧ (Mt mX3_keep [.ref 43] h23 (ab_qv fun h26 => Sh h26 ∧ ((¬ x4 = 0 → ((¬ x4 = 1 → ((¬ x4 = 2 → Wp mX1_findWorst Q 0 0 143 [some (.ref 62), some (.int x1), some (.int x2), some (.int x3), some (.int x4), some (.int v25), some (.int 1728), some (.int 0), none, none, none] [] h26) ∧ (x4 = 2 → Wp mX1_findWorst Q 0 0 143 [some (.ref 62), some (.int x1), some (.int x2), some (.int x3), some (.int x4), some (.int v25), some (.int 144), some (.int 0), none, none, none] [] h26))) ∧ (x4 = 1 → Wp mX1_findWorst Q 0 0 143 [some (.ref 62), some (.int x1), some (.int x2), some (.int x3), some (.int x4), some (.int v25), some (.int 12), some (.int 0), none, none, none] [] h26))) ∧ (x4 = 0 → Wp mX1_findWorst Q 0 0 143 [some (.ref 62), some (.int x1), some (.int x2), some (.int x3), some (.int x4), some (.int v25), some (.int 1), some (.int 0), none, none, none] [] h26)))))))))))))) : Wp mX1_findWorst Q 0 0 42 [some (.ref 62), some (.int x1), some (.int x2), some (.int x3), some (.int x4), none, none, none, none, none, none] [] h := by
  refine ab_aload_n (i := 0) dX1_findWorst_42 rfl rfl ?_
  refine ab_getR (b := 70) f_X1_50 rfl (sh_k hs 62 1 (by decide) rfl) (sh_r hs 82 rfl) dX1_findWorst_43 ?_
  refine ab_iconst (v := 0) dX1_findWorst_46 (by decide) ?_
  refine ab_iload_n (i := 1) dX1_findWorst_47 rfl rfl ?_
  refine ab_iast (sh_k hs 70 14 (by decide) rfl) (sh_in hs 70 4 (by decide) (by decide) rfl (by unfold vp_in; decide)) dX1_findWorst_48 ?_
  refine Wp.nm fun h5 e6 => ?_
  have ht := ht h5 e6
  have hs7 : Sh h5 := by rw [e6]; exact sh_si hs
  refine ab_aload_n (i := 0) dX1_findWorst_49 rfl rfl ?_
  refine ab_getR (b := 70) f_X1_50 rfl (sh_k hs7 62 1 (by decide) rfl) (sh_r hs7 82 rfl) dX1_findWorst_50 ?_
  refine ab_iconst (v := 1) dX1_findWorst_53 (by decide) ?_
  refine ab_iload_n (i := 2) dX1_findWorst_54 rfl rfl ?_
  refine ab_iast (sh_k hs7 70 14 (by decide) rfl) (sh_in hs7 70 4 (by decide) (by decide) rfl (by unfold vp_in; decide)) dX1_findWorst_55 ?_
  refine Wp.nm fun h8 e9 => ?_
  have ht := ht h8 e9
  have hs10 : Sh h8 := by rw [e9]; exact sh_si hs7
  refine ab_aload_n (i := 0) dX1_findWorst_56 rfl rfl ?_
  refine ab_getR (b := 70) f_X1_50 rfl (sh_k hs10 62 1 (by decide) rfl) (sh_r hs10 82 rfl) dX1_findWorst_57 ?_
  refine ab_iconst (v := 2) dX1_findWorst_60 (by decide) ?_
  refine ab_iload_n (i := 3) dX1_findWorst_61 rfl rfl ?_
  refine ab_iast (sh_k hs10 70 14 (by decide) rfl) (sh_in hs10 70 4 (by decide) (by decide) rfl (by unfold vp_in; decide)) dX1_findWorst_62 ?_
  refine Wp.nm fun h11 e12 => ?_
  have ht := ht h11 e12
  have hs13 : Sh h11 := by rw [e12]; exact sh_si hs10
  refine ab_aload_n (i := 0) dX1_findWorst_63 rfl rfl ?_
  refine ab_getR (b := 70) f_X1_50 rfl (sh_k hs13 62 1 (by decide) rfl) (sh_r hs13 82 rfl) dX1_findWorst_64 ?_
  refine ab_iconst (v := 3) dX1_findWorst_67 (by decide) ?_
  refine ab_iload (i := 4) dX1_findWorst_68 rfl ?_
  refine ab_iast (sh_k hs13 70 14 (by decide) rfl) (sh_in hs13 70 4 (by decide) (by decide) rfl (by unfold vp_in; decide)) dX1_findWorst_70 ?_
  refine Wp.nm fun h14 e15 => ?_
  have ht := ht h14 e15
  have hs16 : Sh h14 := by rw [e15]; exact sh_si hs13
  refine ab_aload_n (i := 0) dX1_findWorst_71 rfl rfl ?_
  refine ab_sipush (v := 1201) dX1_findWorst_72 (by decide) ?_
  refine ab_putI f_X1_30 (Or.inl rfl) rfl (sh_k hs16 62 1 (by decide) rfl) rfl rfl dX1_findWorst_75 ?_
  refine Wp.nm fun h17 e18 => ?_
  have ht := ht h17 e18
  have hs19 : Sh h17 := by rw [e18]; exact sh_si hs16
  refine ab_aload_n (i := 0) dX1_findWorst_78 rfl rfl ?_
  refine ab_getR (b := 43) f_X1_73 rfl (sh_k hs19 62 1 (by decide) rfl) (sh_r hs19 81 rfl) dX1_findWorst_79 ?_
  refine ab_callV (b := 43) (As := []) ht (Y_X3_restart) l_X1_83 in_X3_restart se_X3_restart (sh_k hs19 43 3 (by decide) rfl) (by decide) rfl rfl ⟨(Nat.le_of_ble_eq_true rfl), (Nat.le_of_ble_eq_true rfl), (Nat.le_of_ble_eq_true rfl), (Nat.le_of_ble_eq_true rfl)⟩ dX1_findWorst_82 ?_
  rintro _ h20 ⟨rfl, hs21, ht⟩
  refine ab_aload_n (i := 0) dX1_findWorst_85 rfl rfl ?_
  refine ab_iconst (v := 0) dX1_findWorst_86 (by decide) ?_
  refine ab_iload_n (i := 2) dX1_findWorst_87 rfl rfl ?_
  refine ab_sipush (v := 1201) dX1_findWorst_88 (by decide) ?_
  refine ab_callV (b := 62) (As := [.int 0, .int x2, .int 1201]) ht (Y_X1_litFrom) l_X1_86 in_X1_litFrom se_X1_litFrom (sh_k hs21 62 1 (by decide) rfl) (by decide) rfl rfl ⟨(Nat.le_of_ble_eq_true rfl), (Nat.le_of_ble_eq_true rfl), (Nat.le_of_ble_eq_true rfl), (Nat.le_of_ble_eq_true rfl)⟩ dX1_findWorst_91 ?_
  rintro _ h23 ⟨v25, rfl, hs24, ht⟩
  refine ab_istore (i := 5) (L' := [some (.ref 62), some (.int x1), some (.int x2), some (.int x3), some (.int x4), some (.int v25), none, none, none, none, none]) dX1_findWorst_94 (by exact (Nat.le_of_ble_eq_true rfl)) rfl rfl ?_
  refine ab_aload_n (i := 0) dX1_findWorst_96 rfl rfl ?_
  refine ab_getR (b := 43) f_X1_73 rfl (sh_k hs24 62 1 (by decide) rfl) (sh_r hs24 81 rfl) dX1_findWorst_97 ?_
  refine ab_callV (b := 43) (As := []) ht (Y_X3_keep) l_X1_102 in_X3_keep se_X3_keep (sh_k hs24 43 3 (by decide) rfl) (by decide) rfl rfl ⟨(Nat.le_of_ble_eq_true rfl), (Nat.le_of_ble_eq_true rfl), (Nat.le_of_ble_eq_true rfl), (Nat.le_of_ble_eq_true rfl)⟩ dX1_findWorst_100 ?_
  rintro _ h26 ⟨rfl, hs27, ht⟩
  refine ab_iload (i := 4) dX1_findWorst_103 rfl ?_
  refine ab_if_ne (tgt := 112) dX1_findWorst_105 (by decide) (fun c29 => ?_) (fun c29 => ?_)
  · have ht := ht.1 c29
    refine ab_iload (i := 4) dX1_findWorst_112 rfl ?_
    refine ab_iconst (v := 1) dX1_findWorst_114 (by decide) ?_
    refine ab_icmp_ne (tgt := 123) dX1_findWorst_115 (by decide) (fun c30 => ?_) (fun c30 => ?_)
    · have ht := ht.1 c30
      refine ab_iload (i := 4) dX1_findWorst_123 rfl ?_
      refine ab_iconst (v := 2) dX1_findWorst_125 (by decide) ?_
      refine ab_icmp_ne (tgt := 135) dX1_findWorst_126 (by decide) (fun c31 => ?_) (fun c31 => ?_)
      · have ht := ht.1 c31
        refine ab_sipush (v := 1728) dX1_findWorst_135 (by decide) ?_
        refine ab_istore (i := 6) (L' := [some (.ref 62), some (.int x1), some (.int x2), some (.int x3), some (.int x4), some (.int v25), some (.int 1728), none, none, none, none]) dX1_findWorst_138 (by exact (Nat.le_of_ble_eq_true rfl)) rfl rfl ?_
        refine ab_iconst (v := 0) dX1_findWorst_140 (by decide) ?_
        refine ab_istore (i := 7) (L' := [some (.ref 62), some (.int x1), some (.int x2), some (.int x3), some (.int x4), some (.int v25), some (.int 1728), some (.int 0), none, none, none]) dX1_findWorst_141 (by exact (Nat.le_of_ble_eq_true rfl)) rfl rfl ?_
        exact Wp.fewer (L' := [some (.ref 62), some (.int x1), some (.int x2), some (.int x3), some (.int x4), some (.int v25), some (.int 1728), some (.int 0), none, none, none]) (show ab_leL _ _ from ⟨rfl, ⟨rfl, ⟨rfl, ⟨rfl, ⟨rfl, ⟨rfl, ⟨rfl, ⟨rfl, trivial⟩⟩⟩⟩⟩⟩⟩⟩) ht
      · have ht := ht.2 c31
        refine ab_sipush (v := 144) dX1_findWorst_129 (by decide) ?_
        refine ab_goto (tgt := 138) dX1_findWorst_132 (by decide) ?_
        refine ab_istore (i := 6) (L' := [some (.ref 62), some (.int x1), some (.int x2), some (.int x3), some (.int x4), some (.int v25), some (.int 144), none, none, none, none]) dX1_findWorst_138 (by exact (Nat.le_of_ble_eq_true rfl)) rfl rfl ?_
        refine ab_iconst (v := 0) dX1_findWorst_140 (by decide) ?_
        refine ab_istore (i := 7) (L' := [some (.ref 62), some (.int x1), some (.int x2), some (.int x3), some (.int x4), some (.int v25), some (.int 144), some (.int 0), none, none, none]) dX1_findWorst_141 (by exact (Nat.le_of_ble_eq_true rfl)) rfl rfl ?_
        exact Wp.fewer (L' := [some (.ref 62), some (.int x1), some (.int x2), some (.int x3), some (.int x4), some (.int v25), some (.int 144), some (.int 0), none, none, none]) (show ab_leL _ _ from ⟨rfl, ⟨rfl, ⟨rfl, ⟨rfl, ⟨rfl, ⟨rfl, ⟨rfl, ⟨rfl, trivial⟩⟩⟩⟩⟩⟩⟩⟩) ht
    · have ht := ht.2 c30
      refine ab_bipush (v := 12) dX1_findWorst_118 (by decide) ?_
      refine ab_goto (tgt := 138) dX1_findWorst_120 (by decide) ?_
      refine ab_istore (i := 6) (L' := [some (.ref 62), some (.int x1), some (.int x2), some (.int x3), some (.int x4), some (.int v25), some (.int 12), none, none, none, none]) dX1_findWorst_138 (by exact (Nat.le_of_ble_eq_true rfl)) rfl rfl ?_
      refine ab_iconst (v := 0) dX1_findWorst_140 (by decide) ?_
      refine ab_istore (i := 7) (L' := [some (.ref 62), some (.int x1), some (.int x2), some (.int x3), some (.int x4), some (.int v25), some (.int 12), some (.int 0), none, none, none]) dX1_findWorst_141 (by exact (Nat.le_of_ble_eq_true rfl)) rfl rfl ?_
      exact Wp.fewer (L' := [some (.ref 62), some (.int x1), some (.int x2), some (.int x3), some (.int x4), some (.int v25), some (.int 12), some (.int 0), none, none, none]) (show ab_leL _ _ from ⟨rfl, ⟨rfl, ⟨rfl, ⟨rfl, ⟨rfl, ⟨rfl, ⟨rfl, ⟨rfl, trivial⟩⟩⟩⟩⟩⟩⟩⟩) ht
  · have ht := ht.2 c29
    refine ab_iconst (v := 1) dX1_findWorst_108 (by decide) ?_
    refine ab_goto (tgt := 138) dX1_findWorst_109 (by decide) ?_
    refine ab_istore (i := 6) (L' := [some (.ref 62), some (.int x1), some (.int x2), some (.int x3), some (.int x4), some (.int v25), some (.int 1), none, none, none, none]) dX1_findWorst_138 (by exact (Nat.le_of_ble_eq_true rfl)) rfl rfl ?_
    refine ab_iconst (v := 0) dX1_findWorst_140 (by decide) ?_
    refine ab_istore (i := 7) (L' := [some (.ref 62), some (.int x1), some (.int x2), some (.int x3), some (.int x4), some (.int v25), some (.int 1), some (.int 0), none, none, none]) dX1_findWorst_141 (by exact (Nat.le_of_ble_eq_true rfl)) rfl rfl ?_
    exact Wp.fewer (L' := [some (.ref 62), some (.int x1), some (.int x2), some (.int x3), some (.int x4), some (.int v25), some (.int 1), some (.int 0), none, none, none]) (show ab_leL _ _ from ⟨rfl, ⟨rfl, ⟨rfl, ⟨rfl, ⟨rfl, ⟨rfl, ⟨rfl, ⟨rfl, trivial⟩⟩⟩⟩⟩⟩⟩⟩) ht
set_option maxRecDepth 20000 in
theorem T_X1_findWorst_143 {Q : Option Value → ah_T → Prop} {h : ah_T} (hs : Sh h) (x1 : Int32) (x2 : Int32) (x3 : Int32) (x4 : Int32) (x5 : Int32) (x6 : Int32) (x7 : Int32) (ht : ((x6 ≤ x7 → (Mt mX3_dismiss [.ref 43] h (ab_qv fun h33 => Sh h33 ∧ Q none h33))) ∧ (¬ x6 ≤ x7 → (Mt mX1_layTrial [.ref 62, .int x7, .int x6, .int x2, .int x3] h (ab_qi fun v38 h36 => Sh h36 ∧ ((¬ v38 = 0 → (Mt mX3_carry [.ref 43, .int x1, .ref 71] h36 (ab_qv fun h40 => Sh h40 ∧ (Mt mX3_recall [.ref 43] h40 (ab_qv fun h43 => Sh h43 ∧ (Mt mX1_litFrom [.ref 62, .int x2, .int 120, .int ((ah_i h43 62 4) - x5)] h43 (ab_qi fun v48 h46 => Sh h46 ∧ (((ah_i h46 62 4) ≤ (x5 + v48) → Wp mX1_findWorst Q 0 0 270 [some (.ref 62), some (.int x1), some (.int x2), some (.int x3), some (.int x4), some (.int x5), some (.int x6), some (.int x7), none, none, none] [] h46) ∧ (¬ (ah_i h46 62 4) ≤ (x5 + v48) → (∀ h50, h50 = ah_si h46 62 4 (x5 + v48) → Wp mX1_findWorst Q 0 0 226 [some (.ref 62), some (.int x1), some (.int x2), some (.int x3), some (.int x4), some (.int x5), some (.int x6), some (.int x7), none, some (.int x6), some (.int 0)] [] h50)))))))))) ∧ (v38 = 0 → Wp mX1_findWorst Q 0 0 270 [some (.ref 62), some (.int x1), some (.int x2), some (.int x3), some (.int x4), some (.int x5), some (.int x6), some (.int x7), none, none, none] [] h36))))))) : Wp mX1_findWorst Q 0 0 143 [some (.ref 62), some (.int x1), some (.int x2), some (.int x3), some (.int x4), some (.int x5), some (.int x6), some (.int x7), none, none, none] [] h := by
  refine ab_iload (i := 7) dX1_findWorst_143 rfl ?_
  refine ab_iload (i := 6) dX1_findWorst_145 rfl ?_
  refine ab_icmp_ge (tgt := 276) dX1_findWorst_147 (by decide) (fun c32 => ?_) (fun c32 => ?_)
  · have ht := ht.1 c32
    refine ab_aload_n (i := 0) dX1_findWorst_276 rfl rfl ?_
    refine ab_getR (b := 43) f_X1_73 rfl (sh_k hs 62 1 (by decide) rfl) (sh_r hs 81 rfl) dX1_findWorst_277 ?_
    refine ab_callV (b := 43) (As := []) ht (Y_X3_dismiss) l_X1_90 in_X3_dismiss se_X3_dismiss (sh_k hs 43 3 (by decide) rfl) (by decide) rfl rfl ⟨(Nat.le_of_ble_eq_true rfl), (Nat.le_of_ble_eq_true rfl), (Nat.le_of_ble_eq_true rfl), (Nat.le_of_ble_eq_true rfl)⟩ dX1_findWorst_280 ?_
    rintro _ h33 ⟨rfl, hs34, ht⟩
    exact ab_vret rfl dX1_findWorst_283 (Nat.le_of_ble_eq_true rfl) (Nat.le_of_ble_eq_true rfl) ht
  · have ht := ht.2 c32
    refine ab_aload_n (i := 0) dX1_findWorst_150 rfl rfl ?_
    refine ab_iload (i := 7) dX1_findWorst_151 rfl ?_
    refine ab_iload (i := 6) dX1_findWorst_153 rfl ?_
    refine ab_iload_n (i := 2) dX1_findWorst_155 rfl rfl ?_
    refine ab_iload_n (i := 3) dX1_findWorst_156 rfl rfl ?_
    refine ab_callV (b := 62) (As := [.int x7, .int x6, .int x2, .int x3]) ht (Y_X1_layTrial) l_X1_105 in_X1_layTrial se_X1_layTrial (sh_k hs 62 1 (by decide) rfl) (by decide) rfl rfl ⟨(Nat.le_of_ble_eq_true rfl), (Nat.le_of_ble_eq_true rfl), (Nat.le_of_ble_eq_true rfl), (Nat.le_of_ble_eq_true rfl)⟩ dX1_findWorst_157 ?_
    rintro _ h36 ⟨v38, rfl, hs37, ht⟩
    refine ab_if_ne (tgt := 166) dX1_findWorst_160 (by decide) (fun c39 => ?_) (fun c39 => ?_)
    · have ht := ht.1 c39
      refine ab_aload_n (i := 0) dX1_findWorst_166 rfl rfl ?_
      refine ab_getR (b := 43) f_X1_73 rfl (sh_k hs37 62 1 (by decide) rfl) (sh_r hs37 81 rfl) dX1_findWorst_167 ?_
      refine ab_iload_n (i := 1) dX1_findWorst_170 rfl rfl ?_
      refine ab_aload_n (i := 0) dX1_findWorst_171 rfl rfl ?_
      refine ab_getR (b := 71) f_X1_53 rfl (sh_k hs37 62 1 (by decide) rfl) (sh_r hs37 83 rfl) dX1_findWorst_172 ?_
      refine ab_callV (b := 43) (As := [.int x1, .ref 71]) ht (Y_X3_carry) l_X1_77 in_X3_carry se_X3_carry (sh_k hs37 43 3 (by decide) rfl) (by decide) rfl rfl ⟨(Nat.le_of_ble_eq_true rfl), (Nat.le_of_ble_eq_true rfl), (Nat.le_of_ble_eq_true rfl), (Nat.le_of_ble_eq_true rfl)⟩ dX1_findWorst_175 ?_
      rintro _ h40 ⟨rfl, hs41, ht⟩
      refine ab_aload_n (i := 0) dX1_findWorst_178 rfl rfl ?_
      refine ab_getR (b := 43) f_X1_73 rfl (sh_k hs41 62 1 (by decide) rfl) (sh_r hs41 81 rfl) dX1_findWorst_179 ?_
      refine ab_callV (b := 43) (As := []) ht (Y_X3_recall) l_X1_109 in_X3_recall se_X3_recall (sh_k hs41 43 3 (by decide) rfl) (by decide) rfl rfl ⟨(Nat.le_of_ble_eq_true rfl), (Nat.le_of_ble_eq_true rfl), (Nat.le_of_ble_eq_true rfl), (Nat.le_of_ble_eq_true rfl)⟩ dX1_findWorst_182 ?_
      rintro _ h43 ⟨rfl, hs44, ht⟩
      refine ab_iload (i := 5) dX1_findWorst_185 rfl ?_
      refine ab_aload_n (i := 0) dX1_findWorst_187 rfl rfl ?_
      refine ab_iload_n (i := 2) dX1_findWorst_188 rfl rfl ?_
      refine ab_bipush (v := 120) dX1_findWorst_189 (by decide) ?_
      refine ab_aload_n (i := 0) dX1_findWorst_191 rfl rfl ?_
      refine ab_getI f_X1_30 rfl (sh_k hs44 62 1 (by decide) rfl) dX1_findWorst_192 ?_
      refine ab_iload (i := 5) dX1_findWorst_195 rfl ?_
      refine ab_isub dX1_findWorst_197 ?_
      refine ab_callV (b := 62) (As := [.int x2, .int 120, .int ((ah_i h43 62 4) - x5)]) ht (Y_X1_litFrom) l_X1_86 in_X1_litFrom se_X1_litFrom (sh_k hs44 62 1 (by decide) rfl) (by decide) rfl rfl ⟨(Nat.le_of_ble_eq_true rfl), (Nat.le_of_ble_eq_true rfl), (Nat.le_of_ble_eq_true rfl), (Nat.le_of_ble_eq_true rfl)⟩ dX1_findWorst_198 ?_
      rintro _ h46 ⟨v48, rfl, hs47, ht⟩
      refine ab_iadd dX1_findWorst_201 ?_
      refine ab_istore (i := 8) (L' := [some (.ref 62), some (.int x1), some (.int x2), some (.int x3), some (.int x4), some (.int x5), some (.int x6), some (.int x7), some (.int (x5 + v48)), none, none]) dX1_findWorst_202 (by exact (Nat.le_of_ble_eq_true rfl)) rfl rfl ?_
      refine ab_iload (i := 8) dX1_findWorst_204 rfl ?_
      refine ab_aload_n (i := 0) dX1_findWorst_206 rfl rfl ?_
      refine ab_getI f_X1_30 rfl (sh_k hs47 62 1 (by decide) rfl) dX1_findWorst_207 ?_
      refine ab_icmp_ge (tgt := 270) dX1_findWorst_210 (by decide) (fun c49 => ?_) (fun c49 => ?_)
      · have ht := ht.1 c49
        exact Wp.fewer (L' := [some (.ref 62), some (.int x1), some (.int x2), some (.int x3), some (.int x4), some (.int x5), some (.int x6), some (.int x7), none, none, none]) (show ab_leL _ _ from ⟨rfl, ⟨rfl, ⟨rfl, ⟨rfl, ⟨rfl, ⟨rfl, ⟨rfl, ⟨rfl, trivial⟩⟩⟩⟩⟩⟩⟩⟩) ht
      · have ht := ht.2 c49
        refine ab_aload_n (i := 0) dX1_findWorst_213 rfl rfl ?_
        refine ab_iload (i := 8) dX1_findWorst_214 rfl ?_
        refine ab_putI f_X1_30 (Or.inl rfl) rfl (sh_k hs47 62 1 (by decide) rfl) rfl rfl dX1_findWorst_216 ?_
        refine Wp.nm fun h50 e51 => ?_
        have ht := ht h50 e51
        have hs52 : Sh h50 := by rw [e51]; exact sh_si hs47
        refine ab_iload (i := 6) dX1_findWorst_219 rfl ?_
        refine ab_istore (i := 9) (L' := [some (.ref 62), some (.int x1), some (.int x2), some (.int x3), some (.int x4), some (.int x5), some (.int x6), some (.int x7), some (.int (x5 + v48)), some (.int x6), none]) dX1_findWorst_221 (by exact (Nat.le_of_ble_eq_true rfl)) rfl rfl ?_
        refine ab_iconst (v := 0) dX1_findWorst_223 (by decide) ?_
        refine ab_istore (i := 10) (L' := [some (.ref 62), some (.int x1), some (.int x2), some (.int x3), some (.int x4), some (.int x5), some (.int x6), some (.int x7), some (.int (x5 + v48)), some (.int x6), some (.int 0)]) dX1_findWorst_224 (by exact (Nat.le_of_ble_eq_true rfl)) rfl rfl ?_
        exact Wp.fewer (L' := [some (.ref 62), some (.int x1), some (.int x2), some (.int x3), some (.int x4), some (.int x5), some (.int x6), some (.int x7), none, some (.int x6), some (.int 0)]) (show ab_leL _ _ from ⟨rfl, ⟨rfl, ⟨rfl, ⟨rfl, ⟨rfl, ⟨rfl, ⟨rfl, ⟨rfl, ⟨rfl, ⟨rfl, trivial⟩⟩⟩⟩⟩⟩⟩⟩⟩⟩) ht
    · have ht := ht.2 c39
      refine ab_goto (tgt := 270) dX1_findWorst_163 (by decide) ?_
      exact Wp.fewer (L' := [some (.ref 62), some (.int x1), some (.int x2), some (.int x3), some (.int x4), some (.int x5), some (.int x6), some (.int x7), none, none, none]) (show ab_leL _ _ from ⟨rfl, ⟨rfl, ⟨rfl, ⟨rfl, ⟨rfl, ⟨rfl, ⟨rfl, ⟨rfl, trivial⟩⟩⟩⟩⟩⟩⟩⟩) ht
set_option maxRecDepth 20000 in
theorem T_X1_findWorst_270 {Q : Option Value → ah_T → Prop} {h : ah_T} (hs : Sh h) (x1 : Int32) (x2 : Int32) (x3 : Int32) (x4 : Int32) (x5 : Int32) (x6 : Int32) (x7 : Int32) (ht : Wp mX1_findWorst Q 0 0 143 [some (.ref 62), some (.int x1), some (.int x2), some (.int x3), some (.int x4), some (.int x5), some (.int x6), some (.int (x7 + 1)), none, none, none] [] h) : Wp mX1_findWorst Q 0 0 270 [some (.ref 62), some (.int x1), some (.int x2), some (.int x3), some (.int x4), some (.int x5), some (.int x6), some (.int x7), none, none, none] [] h := by
  refine ab_iinc (i := 7) (x := x7) (v := (x7 + 1)) (L' := [some (.ref 62), some (.int x1), some (.int x2), some (.int x3), some (.int x4), some (.int x5), some (.int x6), some (.int (x7 + 1)), none, none, none]) dX1_findWorst_270 rfl rfl (by exact (Nat.le_of_ble_eq_true rfl)) rfl rfl ?_
  refine ab_goto (tgt := 143) dX1_findWorst_273 (by decide) ?_
  exact Wp.fewer (L' := [some (.ref 62), some (.int x1), some (.int x2), some (.int x3), some (.int x4), some (.int x5), some (.int x6), some (.int (x7 + 1)), none, none, none]) (show ab_leL _ _ from ⟨rfl, ⟨rfl, ⟨rfl, ⟨rfl, ⟨rfl, ⟨rfl, ⟨rfl, ⟨rfl, trivial⟩⟩⟩⟩⟩⟩⟩⟩) ht
set_option maxRecDepth 20000 in
theorem T_X1_findWorst_226 {Q : Option Value → ah_T → Prop} {h : ah_T} (hs : Sh h) (x1 : Int32) (x2 : Int32) (x3 : Int32) (x4 : Int32) (x5 : Int32) (x6 : Int32) (x7 : Int32) (x9 : Int32) (x10 : Int32) (ht : ((x4 ≤ x10 → Wp mX1_findWorst Q 0 0 270 [some (.ref 62), some (.int x1), some (.int x2), some (.int x3), some (.int x4), some (.int x5), some (.int x6), some (.int x7), none, none, none] [] h) ∧ (¬ x4 ≤ x10 → ((¬ (x9 / 12) = 0 → (¬ (x9 / 12) = 0) ∧ (vp_in x10 (ah_n h 69)) ∧ (∀ h57, h57 = ah_si h 69 (Int32.toNatClampNeg x10) ((x7 / (x9 / 12)) - (x7 / (x9 / 12)) / 12 * 12) → Wp mX1_findWorst Q 0 0 226 [some (.ref 62), some (.int x1), some (.int x2), some (.int x3), some (.int x4), some (.int x5), some (.int x6), some (.int x7), none, some (.int (x9 / 12)), some (.int (x10 + 1))] [] h57)) ∧ ((x9 / 12) = 0 → (vp_in x10 (ah_n h 69)) ∧ (∀ h61, h61 = ah_si h 69 (Int32.toNatClampNeg x10) (-1) → Wp mX1_findWorst Q 0 0 226 [some (.ref 62), some (.int x1), some (.int x2), some (.int x3), some (.int x4), some (.int x5), some (.int x6), some (.int x7), none, some (.int (x9 / 12)), some (.int (x10 + 1))] [] h61)))))) : Wp mX1_findWorst Q 0 0 226 [some (.ref 62), some (.int x1), some (.int x2), some (.int x3), some (.int x4), some (.int x5), some (.int x6), some (.int x7), none, some (.int x9), some (.int x10)] [] h := by
  refine ab_iload (i := 10) dX1_findWorst_226 rfl ?_
  refine ab_iload (i := 4) dX1_findWorst_228 rfl ?_
  refine ab_icmp_ge (tgt := 270) dX1_findWorst_230 (by decide) (fun c53 => ?_) (fun c53 => ?_)
  · have ht := ht.1 c53
    exact Wp.fewer (L' := [some (.ref 62), some (.int x1), some (.int x2), some (.int x3), some (.int x4), some (.int x5), some (.int x6), some (.int x7), none, none, none]) (show ab_leL _ _ from ⟨rfl, ⟨rfl, ⟨rfl, ⟨rfl, ⟨rfl, ⟨rfl, ⟨rfl, ⟨rfl, trivial⟩⟩⟩⟩⟩⟩⟩⟩) ht
  · have ht := ht.2 c53
    refine ab_iload (i := 9) dX1_findWorst_233 rfl ?_
    refine ab_bipush (v := 12) dX1_findWorst_235 (by decide) ?_
    refine ab_idiv dX1_findWorst_237 (by decide) ?_
    refine ab_istore (i := 9) (L' := [some (.ref 62), some (.int x1), some (.int x2), some (.int x3), some (.int x4), some (.int x5), some (.int x6), some (.int x7), none, some (.int (x9 / 12)), some (.int x10)]) dX1_findWorst_238 (by exact (Nat.le_of_ble_eq_true rfl)) rfl rfl ?_
    refine ab_aload_n (i := 0) dX1_findWorst_240 rfl rfl ?_
    refine ab_getR (b := 69) f_X1_34 rfl (sh_k hs 62 1 (by decide) rfl) (sh_r hs 78 rfl) dX1_findWorst_241 ?_
    refine ab_iload (i := 10) dX1_findWorst_244 rfl ?_
    refine ab_iload (i := 9) dX1_findWorst_246 rfl ?_
    refine ab_if_ne (tgt := 255) dX1_findWorst_248 (by decide) (fun c54 => ?_) (fun c54 => ?_)
    · have ht := ht.1 c54
      refine ab_iload (i := 7) dX1_findWorst_255 rfl ?_
      refine ab_iload (i := 9) dX1_findWorst_257 rfl ?_
      obtain ⟨hc55, ht⟩ := ht
      refine ab_idiv dX1_findWorst_259 hc55 ?_
      refine ab_bipush (v := 12) dX1_findWorst_260 (by decide) ?_
      refine ab_irem dX1_findWorst_262 (by decide) ?_
      obtain ⟨hc56, ht⟩ := ht
      refine ab_iast (sh_k hs 69 14 (by decide) rfl) hc56 dX1_findWorst_263 ?_
      refine Wp.nm fun h57 e58 => ?_
      have ht := ht h57 e58
      have hs59 : Sh h57 := by rw [e58]; exact sh_si hs
      refine ab_iinc (i := 10) (x := x10) (v := (x10 + 1)) (L' := [some (.ref 62), some (.int x1), some (.int x2), some (.int x3), some (.int x4), some (.int x5), some (.int x6), some (.int x7), none, some (.int (x9 / 12)), some (.int (x10 + 1))]) dX1_findWorst_264 rfl rfl (by exact (Nat.le_of_ble_eq_true rfl)) rfl rfl ?_
      refine ab_goto (tgt := 226) dX1_findWorst_267 (by decide) ?_
      exact Wp.fewer (L' := [some (.ref 62), some (.int x1), some (.int x2), some (.int x3), some (.int x4), some (.int x5), some (.int x6), some (.int x7), none, some (.int (x9 / 12)), some (.int (x10 + 1))]) (show ab_leL _ _ from ⟨rfl, ⟨rfl, ⟨rfl, ⟨rfl, ⟨rfl, ⟨rfl, ⟨rfl, ⟨rfl, ⟨rfl, ⟨rfl, trivial⟩⟩⟩⟩⟩⟩⟩⟩⟩⟩) ht
    · have ht := ht.2 c54
      refine ab_iconst (v := (-1)) dX1_findWorst_251 (by decide) ?_
      refine ab_goto (tgt := 263) dX1_findWorst_252 (by decide) ?_
      obtain ⟨hc60, ht⟩ := ht
      refine ab_iast (sh_k hs 69 14 (by decide) rfl) hc60 dX1_findWorst_263 ?_
      refine Wp.nm fun h61 e62 => ?_
      have ht := ht h61 e62
      have hs63 : Sh h61 := by rw [e62]; exact sh_si hs
      refine ab_iinc (i := 10) (x := x10) (v := (x10 + 1)) (L' := [some (.ref 62), some (.int x1), some (.int x2), some (.int x3), some (.int x4), some (.int x5), some (.int x6), some (.int x7), none, some (.int (x9 / 12)), some (.int (x10 + 1))]) dX1_findWorst_264 rfl rfl (by exact (Nat.le_of_ble_eq_true rfl)) rfl rfl ?_
      refine ab_goto (tgt := 226) dX1_findWorst_267 (by decide) ?_
      exact Wp.fewer (L' := [some (.ref 62), some (.int x1), some (.int x2), some (.int x3), some (.int x4), some (.int x5), some (.int x6), some (.int x7), none, some (.int (x9 / 12)), some (.int (x10 + 1))]) (show ab_leL _ _ from ⟨rfl, ⟨rfl, ⟨rfl, ⟨rfl, ⟨rfl, ⟨rfl, ⟨rfl, ⟨rfl, ⟨rfl, ⟨rfl, trivial⟩⟩⟩⟩⟩⟩⟩⟩⟩⟩) ht
set_option maxRecDepth 20000 in
theorem T_X1_findWorst {Q : Option Value → ah_T → Prop} {h : ah_T} (hs : Sh h) (x1 : Int32) (x2 : Int32) (x3 : Int32) (x4 : Int32) (ht : ((¬ (ah_i h 70 (Int32.toNatClampNeg 0)) = x1 → Wp mX1_findWorst Q 0 0 42 [some (.ref 62), some (.int x1), some (.int x2), some (.int x3), some (.int x4), none, none, none, none, none, none] [] h) ∧ ((ah_i h 70 (Int32.toNatClampNeg 0)) = x1 → ((¬ (ah_i h 70 (Int32.toNatClampNeg 1)) = x2 → Wp mX1_findWorst Q 0 0 42 [some (.ref 62), some (.int x1), some (.int x2), some (.int x3), some (.int x4), none, none, none, none, none, none] [] h) ∧ ((ah_i h 70 (Int32.toNatClampNeg 1)) = x2 → ((¬ (ah_i h 70 (Int32.toNatClampNeg 2)) = x3 → Wp mX1_findWorst Q 0 0 42 [some (.ref 62), some (.int x1), some (.int x2), some (.int x3), some (.int x4), none, none, none, none, none, none] [] h) ∧ ((ah_i h 70 (Int32.toNatClampNeg 2)) = x3 → ((¬ (ah_i h 70 (Int32.toNatClampNeg 3)) = x4 → Wp mX1_findWorst Q 0 0 42 [some (.ref 62), some (.int x1), some (.int x2), some (.int x3), some (.int x4), none, none, none, none, none, none] [] h) ∧ ((ah_i h 70 (Int32.toNatClampNeg 3)) = x4 → Q none h))))))))) : Mt mX1_findWorst [.ref 62, .int x1, .int x2, .int x3, .int x4] h Q := by
  refine Mt.ofWp rfl (by exact (Nat.le_of_ble_eq_true rfl)) (Wp.fewer (L' := [some (.ref 62), some (.int x1), some (.int x2), some (.int x3), some (.int x4), none, none, none, none, none, none]) (show ab_leL _ _ from ⟨rfl, ⟨rfl, ⟨rfl, ⟨rfl, ⟨rfl, trivial⟩⟩⟩⟩⟩) ?_)
  refine ab_aload_n (i := 0) dX1_findWorst_0 rfl rfl ?_
  refine ab_getR (b := 70) f_X1_50 rfl (sh_k hs 62 1 (by decide) rfl) (sh_r hs 82 rfl) dX1_findWorst_1 ?_
  refine ab_iconst (v := 0) dX1_findWorst_4 (by decide) ?_
  refine ab_iald (sh_k hs 70 14 (by decide) rfl) (sh_in hs 70 4 (by decide) (by decide) rfl (by unfold vp_in; decide)) dX1_findWorst_5 ?_
  refine ab_iload_n (i := 1) dX1_findWorst_6 rfl rfl ?_
  refine ab_icmp_ne (tgt := 42) dX1_findWorst_7 (by decide) (fun c1 => ?_) (fun c1 => ?_)
  · have ht := ht.1 c1
    exact Wp.fewer (L' := [some (.ref 62), some (.int x1), some (.int x2), some (.int x3), some (.int x4), none, none, none, none, none, none]) (show ab_leL _ _ from ⟨rfl, ⟨rfl, ⟨rfl, ⟨rfl, ⟨rfl, trivial⟩⟩⟩⟩⟩) ht
  · have ht := ht.2 c1
    refine ab_aload_n (i := 0) dX1_findWorst_10 rfl rfl ?_
    refine ab_getR (b := 70) f_X1_50 rfl (sh_k hs 62 1 (by decide) rfl) (sh_r hs 82 rfl) dX1_findWorst_11 ?_
    refine ab_iconst (v := 1) dX1_findWorst_14 (by decide) ?_
    refine ab_iald (sh_k hs 70 14 (by decide) rfl) (sh_in hs 70 4 (by decide) (by decide) rfl (by unfold vp_in; decide)) dX1_findWorst_15 ?_
    refine ab_iload_n (i := 2) dX1_findWorst_16 rfl rfl ?_
    refine ab_icmp_ne (tgt := 42) dX1_findWorst_17 (by decide) (fun c2 => ?_) (fun c2 => ?_)
    · have ht := ht.1 c2
      exact Wp.fewer (L' := [some (.ref 62), some (.int x1), some (.int x2), some (.int x3), some (.int x4), none, none, none, none, none, none]) (show ab_leL _ _ from ⟨rfl, ⟨rfl, ⟨rfl, ⟨rfl, ⟨rfl, trivial⟩⟩⟩⟩⟩) ht
    · have ht := ht.2 c2
      refine ab_aload_n (i := 0) dX1_findWorst_20 rfl rfl ?_
      refine ab_getR (b := 70) f_X1_50 rfl (sh_k hs 62 1 (by decide) rfl) (sh_r hs 82 rfl) dX1_findWorst_21 ?_
      refine ab_iconst (v := 2) dX1_findWorst_24 (by decide) ?_
      refine ab_iald (sh_k hs 70 14 (by decide) rfl) (sh_in hs 70 4 (by decide) (by decide) rfl (by unfold vp_in; decide)) dX1_findWorst_25 ?_
      refine ab_iload_n (i := 3) dX1_findWorst_26 rfl rfl ?_
      refine ab_icmp_ne (tgt := 42) dX1_findWorst_27 (by decide) (fun c3 => ?_) (fun c3 => ?_)
      · have ht := ht.1 c3
        exact Wp.fewer (L' := [some (.ref 62), some (.int x1), some (.int x2), some (.int x3), some (.int x4), none, none, none, none, none, none]) (show ab_leL _ _ from ⟨rfl, ⟨rfl, ⟨rfl, ⟨rfl, ⟨rfl, trivial⟩⟩⟩⟩⟩) ht
      · have ht := ht.2 c3
        refine ab_aload_n (i := 0) dX1_findWorst_30 rfl rfl ?_
        refine ab_getR (b := 70) f_X1_50 rfl (sh_k hs 62 1 (by decide) rfl) (sh_r hs 82 rfl) dX1_findWorst_31 ?_
        refine ab_iconst (v := 3) dX1_findWorst_34 (by decide) ?_
        refine ab_iald (sh_k hs 70 14 (by decide) rfl) (sh_in hs 70 4 (by decide) (by decide) rfl (by unfold vp_in; decide)) dX1_findWorst_35 ?_
        refine ab_iload (i := 4) dX1_findWorst_36 rfl ?_
        refine ab_icmp_ne (tgt := 42) dX1_findWorst_38 (by decide) (fun c4 => ?_) (fun c4 => ?_)
        · have ht := ht.1 c4
          exact Wp.fewer (L' := [some (.ref 62), some (.int x1), some (.int x2), some (.int x3), some (.int x4), none, none, none, none, none, none]) (show ab_leL _ _ from ⟨rfl, ⟨rfl, ⟨rfl, ⟨rfl, ⟨rfl, trivial⟩⟩⟩⟩⟩) ht
        · have ht := ht.2 c4
          exact ab_vret rfl dX1_findWorst_41 (Nat.le_of_ble_eq_true rfl) (Nat.le_of_ble_eq_true rfl) ht
theorem dX1_layTrial_0 : decode cX1_layTrial 0 = .ok (.iload 4, 2) := by decide +kernel
theorem dX1_layTrial_2 : decode cX1_layTrial 2 = .ok (.istore 5, 2) := by decide +kernel
theorem dX1_layTrial_4 : decode cX1_layTrial 4 = .ok (.iload_n 2, 1) := by decide +kernel
theorem dX1_layTrial_5 : decode cX1_layTrial 5 = .ok (.istore 6, 2) := by decide +kernel
theorem dX1_layTrial_7 : decode cX1_layTrial 7 = .ok (.aload_n 0, 1) := by decide +kernel
theorem dX1_layTrial_8 : decode cX1_layTrial 8 = .ok (.getfield 53, 3) := by decide +kernel
theorem dX1_layTrial_11 : decode cX1_layTrial 11 = .ok (.iconst 0, 1) := by decide +kernel
theorem dX1_layTrial_12 : decode cX1_layTrial 12 = .ok (.iload_n 3, 1) := by decide +kernel
theorem dX1_layTrial_13 : decode cX1_layTrial 13 = .ok (.iconst (-1), 1) := by decide +kernel
theorem dX1_layTrial_14 : decode cX1_layTrial 14 = .ok (.invokestatic 112, 3) := by decide +kernel
theorem dX1_layTrial_17 : decode cX1_layTrial 17 = .ok (.iload_n 3, 1) := by decide +kernel
theorem dX1_layTrial_18 : decode cX1_layTrial 18 = .ok (.istore 7, 2) := by decide +kernel
theorem dX1_layTrial_20 : decode cX1_layTrial 20 = .ok (.iload 7, 2) := by decide +kernel
theorem dX1_layTrial_22 : decode cX1_layTrial 22 = .ok (.iload_n 3, 1) := by decide +kernel
theorem dX1_layTrial_23 : decode cX1_layTrial 23 = .ok (.bipush 12, 2) := by decide +kernel
theorem dX1_layTrial_25 : decode cX1_layTrial 25 = .ok (.iadd, 1) := by decide +kernel
theorem dX1_layTrial_26 : decode cX1_layTrial 26 = .ok (.if_icmp .ge 87, 3) := by decide +kernel
theorem dX1_layTrial_29 : decode cX1_layTrial 29 = .ok (.iload 6, 2) := by decide +kernel
theorem dX1_layTrial_31 : decode cX1_layTrial 31 = .ok (.ifCond .le 82, 3) := by decide +kernel
theorem dX1_layTrial_34 : decode cX1_layTrial 34 = .ok (.iload 7, 2) := by decide +kernel
theorem dX1_layTrial_36 : decode cX1_layTrial 36 = .ok (.iload_n 3, 1) := by decide +kernel
theorem dX1_layTrial_37 : decode cX1_layTrial 37 = .ok (.if_icmp .le 43, 3) := by decide +kernel
theorem dX1_layTrial_40 : decode cX1_layTrial 40 = .ok (.iload_n 1, 1) := by decide +kernel
theorem dX1_layTrial_41 : decode cX1_layTrial 41 = .ok (.iload 6, 2) := by decide +kernel
theorem dX1_layTrial_43 : decode cX1_layTrial 43 = .ok (.idiv, 1) := by decide +kernel
theorem dX1_layTrial_44 : decode cX1_layTrial 44 = .ok (.bipush 12, 2) := by decide +kernel
theorem dX1_layTrial_46 : decode cX1_layTrial 46 = .ok (.irem, 1) := by decide +kernel
theorem dX1_layTrial_47 : decode cX1_layTrial 47 = .ok (.istore 8, 2) := by decide +kernel
theorem dX1_layTrial_49 : decode cX1_layTrial 49 = .ok (.iload 8, 2) := by decide +kernel
theorem dX1_layTrial_51 : decode cX1_layTrial 51 = .ok (.iload 5, 2) := by decide +kernel
theorem dX1_layTrial_53 : decode cX1_layTrial 53 = .ok (.if_icmp .eq 23, 3) := by decide +kernel
theorem dX1_layTrial_56 : decode cX1_layTrial 56 = .ok (.aload_n 0, 1) := by decide +kernel
theorem dX1_layTrial_57 : decode cX1_layTrial 57 = .ok (.getfield 69, 3) := by decide +kernel
theorem dX1_layTrial_60 : decode cX1_layTrial 60 = .ok (.getfield 118, 3) := by decide +kernel
theorem dX1_layTrial_63 : decode cX1_layTrial 63 = .ok (.iload 5, 2) := by decide +kernel
theorem dX1_layTrial_65 : decode cX1_layTrial 65 = .ok (.iaload, 1) := by decide +kernel
theorem dX1_layTrial_66 : decode cX1_layTrial 66 = .ok (.iload 8, 2) := by decide +kernel
theorem dX1_layTrial_68 : decode cX1_layTrial 68 = .ok (.ishr, 1) := by decide +kernel
theorem dX1_layTrial_69 : decode cX1_layTrial 69 = .ok (.iconst 1, 1) := by decide +kernel
theorem dX1_layTrial_70 : decode cX1_layTrial 70 = .ok (.iand, 1) := by decide +kernel
theorem dX1_layTrial_71 : decode cX1_layTrial 71 = .ok (.ifCond .ne 5, 3) := by decide +kernel
theorem dX1_layTrial_74 : decode cX1_layTrial 74 = .ok (.iconst 0, 1) := by decide +kernel
theorem dX1_layTrial_75 : decode cX1_layTrial 75 = .ok (.ireturn, 1) := by decide +kernel
theorem dX1_layTrial_76 : decode cX1_layTrial 76 = .ok (.iload 8, 2) := by decide +kernel
theorem dX1_layTrial_78 : decode cX1_layTrial 78 = .ok (.istore 5, 2) := by decide +kernel
theorem dX1_layTrial_80 : decode cX1_layTrial 80 = .ok (.iload 7, 2) := by decide +kernel
theorem dX1_layTrial_82 : decode cX1_layTrial 82 = .ok (.bipush 120, 2) := by decide +kernel
theorem dX1_layTrial_84 : decode cX1_layTrial 84 = .ok (.if_icmp .ge 16, 3) := by decide +kernel
theorem dX1_layTrial_87 : decode cX1_layTrial 87 = .ok (.aload_n 0, 1) := by decide +kernel
theorem dX1_layTrial_88 : decode cX1_layTrial 88 = .ok (.getfield 53, 3) := by decide +kernel
theorem dX1_layTrial_91 : decode cX1_layTrial 91 = .ok (.iload 7, 2) := by decide +kernel
theorem dX1_layTrial_93 : decode cX1_layTrial 93 = .ok (.bipush 120, 2) := by decide +kernel
theorem dX1_layTrial_95 : decode cX1_layTrial 95 = .ok (.iload 5, 2) := by decide +kernel
theorem dX1_layTrial_97 : decode cX1_layTrial 97 = .ok (.invokestatic 112, 3) := by decide +kernel
theorem dX1_layTrial_100 : decode cX1_layTrial 100 = .ok (.iload 6, 2) := by decide +kernel
theorem dX1_layTrial_102 : decode cX1_layTrial 102 = .ok (.bipush 12, 2) := by decide +kernel
theorem dX1_layTrial_104 : decode cX1_layTrial 104 = .ok (.idiv, 1) := by decide +kernel
theorem dX1_layTrial_105 : decode cX1_layTrial 105 = .ok (.istore 6, 2) := by decide +kernel
theorem dX1_layTrial_107 : decode cX1_layTrial 107 = .ok (.iinc 7 1, 3) := by decide +kernel
theorem dX1_layTrial_110 : decode cX1_layTrial 110 = .ok (.goto (-90), 3) := by decide +kernel
theorem dX1_layTrial_113 : decode cX1_layTrial 113 = .ok (.iconst 1, 1) := by decide +kernel
theorem dX1_layTrial_114 : decode cX1_layTrial 114 = .ok (.ireturn, 1) := by decide +kernel
set_option maxRecDepth 20000 in
theorem T_X1_layTrial_20 {Q : Option Value → ah_T → Prop} {h : ah_T} (hs : Sh h) (x1 : Int32) (x3 : Int32) (x5 : Int32) (x6 : Int32) (x7 : Int32) (ht : (((x3 + 12) ≤ x7 → Q (some (.int 1)) h) ∧ (¬ (x3 + 12) ≤ x7 → ((x6 ≤ 0 → Q (some (.int 1)) h) ∧ (¬ x6 ≤ 0 → ((x7 ≤ x3 → ((120 ≤ x7 → Wp mX1_layTrial Q 0 0 20 [some (.ref 62), some (.int x1), none, some (.int x3), none, some (.int x5), some (.int (x6 / 12)), some (.int (x7 + 1)), none] [] h) ∧ (¬ 120 ≤ x7 → (Mt mJ7_fill_fda19 [.ref 71, .int x7, .int 120, .int x5] h (ab_qv fun h8 => Sh h8 ∧ Wp mX1_layTrial Q 0 0 20 [some (.ref 62), some (.int x1), none, some (.int x3), none, some (.int x5), some (.int (x6 / 12)), some (.int (x7 + 1)), none] [] h8))))) ∧ (¬ x7 ≤ x3 → (¬ x6 = 0) ∧ ((((x1 / x6) - (x1 / x6) / 12 * 12) = x5 → ((120 ≤ x7 → Wp mX1_layTrial Q 0 0 20 [some (.ref 62), some (.int x1), none, some (.int x3), none, some (.int ((x1 / x6) - (x1 / x6) / 12 * 12)), some (.int (x6 / 12)), some (.int (x7 + 1)), none] [] h) ∧ (¬ 120 ≤ x7 → (Mt mJ7_fill_fda19 [.ref 71, .int x7, .int 120, .int ((x1 / x6) - (x1 / x6) / 12 * 12)] h (ab_qv fun h14 => Sh h14 ∧ Wp mX1_layTrial Q 0 0 20 [some (.ref 62), some (.int x1), none, some (.int x3), none, some (.int ((x1 / x6) - (x1 / x6) / 12 * 12)), some (.int (x6 / 12)), some (.int (x7 + 1)), none] [] h14))))) ∧ (¬ ((x1 / x6) - (x1 / x6) / 12 * 12) = x5 → (vp_in x5 (ah_n h 30)) ∧ ((¬ (((ah_i h 30 (Int32.toNatClampNeg x5)) >>> (((x1 / x6) - (x1 / x6) / 12 * 12) &&& 31)) &&& 1) = 0 → ((120 ≤ x7 → Wp mX1_layTrial Q 0 0 20 [some (.ref 62), some (.int x1), none, some (.int x3), none, some (.int ((x1 / x6) - (x1 / x6) / 12 * 12)), some (.int (x6 / 12)), some (.int (x7 + 1)), none] [] h) ∧ (¬ 120 ≤ x7 → (Mt mJ7_fill_fda19 [.ref 71, .int x7, .int 120, .int ((x1 / x6) - (x1 / x6) / 12 * 12)] h (ab_qv fun h20 => Sh h20 ∧ Wp mX1_layTrial Q 0 0 20 [some (.ref 62), some (.int x1), none, some (.int x3), none, some (.int ((x1 / x6) - (x1 / x6) / 12 * 12)), some (.int (x6 / 12)), some (.int (x7 + 1)), none] [] h20))))) ∧ ((((ah_i h 30 (Int32.toNatClampNeg x5)) >>> (((x1 / x6) - (x1 / x6) / 12 * 12) &&& 31)) &&& 1) = 0 → Q (some (.int 0)) h))))))))))) : Wp mX1_layTrial Q 0 0 20 [some (.ref 62), some (.int x1), none, some (.int x3), none, some (.int x5), some (.int x6), some (.int x7), none] [] h := by
  refine ab_iload (i := 7) dX1_layTrial_20 rfl ?_
  refine ab_iload_n (i := 3) dX1_layTrial_22 rfl rfl ?_
  refine ab_bipush (v := 12) dX1_layTrial_23 (by decide) ?_
  refine ab_iadd dX1_layTrial_25 ?_
  refine ab_icmp_ge (tgt := 113) dX1_layTrial_26 (by decide) (fun c4 => ?_) (fun c4 => ?_)
  · have ht := ht.1 c4
    refine ab_iconst (v := 1) dX1_layTrial_113 (by decide) ?_
    exact ab_zret rfl rfl dX1_layTrial_114 (Nat.le_of_ble_eq_true rfl) (Nat.le_of_ble_eq_true rfl) ht
  · have ht := ht.2 c4
    refine ab_iload (i := 6) dX1_layTrial_29 rfl ?_
    refine ab_if_le (tgt := 113) dX1_layTrial_31 (by decide) (fun c5 => ?_) (fun c5 => ?_)
    · have ht := ht.1 c5
      refine ab_iconst (v := 1) dX1_layTrial_113 (by decide) ?_
      exact ab_zret rfl rfl dX1_layTrial_114 (Nat.le_of_ble_eq_true rfl) (Nat.le_of_ble_eq_true rfl) ht
    · have ht := ht.2 c5
      refine ab_iload (i := 7) dX1_layTrial_34 rfl ?_
      refine ab_iload_n (i := 3) dX1_layTrial_36 rfl rfl ?_
      refine ab_icmp_le (tgt := 80) dX1_layTrial_37 (by decide) (fun c6 => ?_) (fun c6 => ?_)
      · have ht := ht.1 c6
        refine ab_iload (i := 7) dX1_layTrial_80 rfl ?_
        refine ab_bipush (v := 120) dX1_layTrial_82 (by decide) ?_
        refine ab_icmp_ge (tgt := 100) dX1_layTrial_84 (by decide) (fun c7 => ?_) (fun c7 => ?_)
        · have ht := ht.1 c7
          refine ab_iload (i := 6) dX1_layTrial_100 rfl ?_
          refine ab_bipush (v := 12) dX1_layTrial_102 (by decide) ?_
          refine ab_idiv dX1_layTrial_104 (by decide) ?_
          refine ab_istore (i := 6) (L' := [some (.ref 62), some (.int x1), none, some (.int x3), none, some (.int x5), some (.int (x6 / 12)), some (.int x7), none]) dX1_layTrial_105 (by exact (Nat.le_of_ble_eq_true rfl)) rfl rfl ?_
          refine ab_iinc (i := 7) (x := x7) (v := (x7 + 1)) (L' := [some (.ref 62), some (.int x1), none, some (.int x3), none, some (.int x5), some (.int (x6 / 12)), some (.int (x7 + 1)), none]) dX1_layTrial_107 rfl rfl (by exact (Nat.le_of_ble_eq_true rfl)) rfl rfl ?_
          refine ab_goto (tgt := 20) dX1_layTrial_110 (by decide) ?_
          exact Wp.fewer (L' := [some (.ref 62), some (.int x1), none, some (.int x3), none, some (.int x5), some (.int (x6 / 12)), some (.int (x7 + 1)), none]) (show ab_leL _ _ from ⟨rfl, ⟨rfl, ⟨rfl, ⟨rfl, ⟨rfl, ⟨rfl, trivial⟩⟩⟩⟩⟩⟩) ht
        · have ht := ht.2 c7
          refine ab_aload_n (i := 0) dX1_layTrial_87 rfl rfl ?_
          refine ab_getR (b := 71) f_X1_53 rfl (sh_k hs 62 1 (by decide) rfl) (sh_r hs 83 rfl) dX1_layTrial_88 ?_
          refine ab_iload (i := 7) dX1_layTrial_91 rfl ?_
          refine ab_bipush (v := 120) dX1_layTrial_93 (by decide) ?_
          refine ab_iload (i := 5) dX1_layTrial_95 rfl ?_
          refine ab_callS (As := [.ref 71, .int x7, .int 120, .int x5]) ht (Y_J7_fill_fda19) l_X1_112 st_J7_fill_fda19 rfl ⟨(Nat.le_of_ble_eq_true rfl), (Nat.le_of_ble_eq_true rfl), (Nat.le_of_ble_eq_true rfl), (Nat.le_of_ble_eq_true rfl)⟩ dX1_layTrial_97 ?_
          rintro _ h8 ⟨rfl, hs9, ht⟩
          refine ab_iload (i := 6) dX1_layTrial_100 rfl ?_
          refine ab_bipush (v := 12) dX1_layTrial_102 (by decide) ?_
          refine ab_idiv dX1_layTrial_104 (by decide) ?_
          refine ab_istore (i := 6) (L' := [some (.ref 62), some (.int x1), none, some (.int x3), none, some (.int x5), some (.int (x6 / 12)), some (.int x7), none]) dX1_layTrial_105 (by exact (Nat.le_of_ble_eq_true rfl)) rfl rfl ?_
          refine ab_iinc (i := 7) (x := x7) (v := (x7 + 1)) (L' := [some (.ref 62), some (.int x1), none, some (.int x3), none, some (.int x5), some (.int (x6 / 12)), some (.int (x7 + 1)), none]) dX1_layTrial_107 rfl rfl (by exact (Nat.le_of_ble_eq_true rfl)) rfl rfl ?_
          refine ab_goto (tgt := 20) dX1_layTrial_110 (by decide) ?_
          exact Wp.fewer (L' := [some (.ref 62), some (.int x1), none, some (.int x3), none, some (.int x5), some (.int (x6 / 12)), some (.int (x7 + 1)), none]) (show ab_leL _ _ from ⟨rfl, ⟨rfl, ⟨rfl, ⟨rfl, ⟨rfl, ⟨rfl, trivial⟩⟩⟩⟩⟩⟩) ht
      · have ht := ht.2 c6
        refine ab_iload_n (i := 1) dX1_layTrial_40 rfl rfl ?_
        refine ab_iload (i := 6) dX1_layTrial_41 rfl ?_
        obtain ⟨hc11, ht⟩ := ht
        refine ab_idiv dX1_layTrial_43 hc11 ?_
        refine ab_bipush (v := 12) dX1_layTrial_44 (by decide) ?_
        refine ab_irem dX1_layTrial_46 (by decide) ?_
        refine ab_istore (i := 8) (L' := [some (.ref 62), some (.int x1), none, some (.int x3), none, some (.int x5), some (.int x6), some (.int x7), some (.int ((x1 / x6) - (x1 / x6) / 12 * 12))]) dX1_layTrial_47 (by exact (Nat.le_of_ble_eq_true rfl)) rfl rfl ?_
        refine ab_iload (i := 8) dX1_layTrial_49 rfl ?_
        refine ab_iload (i := 5) dX1_layTrial_51 rfl ?_
        refine ab_icmp_eq (tgt := 76) dX1_layTrial_53 (by decide) (fun c12 => ?_) (fun c12 => ?_)
        · have ht := ht.1 c12
          refine ab_iload (i := 8) dX1_layTrial_76 rfl ?_
          refine ab_istore (i := 5) (L' := [some (.ref 62), some (.int x1), none, some (.int x3), none, some (.int ((x1 / x6) - (x1 / x6) / 12 * 12)), some (.int x6), some (.int x7), some (.int ((x1 / x6) - (x1 / x6) / 12 * 12))]) dX1_layTrial_78 (by exact (Nat.le_of_ble_eq_true rfl)) rfl rfl ?_
          refine ab_iload (i := 7) dX1_layTrial_80 rfl ?_
          refine ab_bipush (v := 120) dX1_layTrial_82 (by decide) ?_
          refine ab_icmp_ge (tgt := 100) dX1_layTrial_84 (by decide) (fun c13 => ?_) (fun c13 => ?_)
          · have ht := ht.1 c13
            refine ab_iload (i := 6) dX1_layTrial_100 rfl ?_
            refine ab_bipush (v := 12) dX1_layTrial_102 (by decide) ?_
            refine ab_idiv dX1_layTrial_104 (by decide) ?_
            refine ab_istore (i := 6) (L' := [some (.ref 62), some (.int x1), none, some (.int x3), none, some (.int ((x1 / x6) - (x1 / x6) / 12 * 12)), some (.int (x6 / 12)), some (.int x7), some (.int ((x1 / x6) - (x1 / x6) / 12 * 12))]) dX1_layTrial_105 (by exact (Nat.le_of_ble_eq_true rfl)) rfl rfl ?_
            refine ab_iinc (i := 7) (x := x7) (v := (x7 + 1)) (L' := [some (.ref 62), some (.int x1), none, some (.int x3), none, some (.int ((x1 / x6) - (x1 / x6) / 12 * 12)), some (.int (x6 / 12)), some (.int (x7 + 1)), some (.int ((x1 / x6) - (x1 / x6) / 12 * 12))]) dX1_layTrial_107 rfl rfl (by exact (Nat.le_of_ble_eq_true rfl)) rfl rfl ?_
            refine ab_goto (tgt := 20) dX1_layTrial_110 (by decide) ?_
            exact Wp.fewer (L' := [some (.ref 62), some (.int x1), none, some (.int x3), none, some (.int ((x1 / x6) - (x1 / x6) / 12 * 12)), some (.int (x6 / 12)), some (.int (x7 + 1)), none]) (show ab_leL _ _ from ⟨rfl, ⟨rfl, ⟨rfl, ⟨rfl, ⟨rfl, ⟨rfl, trivial⟩⟩⟩⟩⟩⟩) ht
          · have ht := ht.2 c13
            refine ab_aload_n (i := 0) dX1_layTrial_87 rfl rfl ?_
            refine ab_getR (b := 71) f_X1_53 rfl (sh_k hs 62 1 (by decide) rfl) (sh_r hs 83 rfl) dX1_layTrial_88 ?_
            refine ab_iload (i := 7) dX1_layTrial_91 rfl ?_
            refine ab_bipush (v := 120) dX1_layTrial_93 (by decide) ?_
            refine ab_iload (i := 5) dX1_layTrial_95 rfl ?_
            refine ab_callS (As := [.ref 71, .int x7, .int 120, .int ((x1 / x6) - (x1 / x6) / 12 * 12)]) ht (Y_J7_fill_fda19) l_X1_112 st_J7_fill_fda19 rfl ⟨(Nat.le_of_ble_eq_true rfl), (Nat.le_of_ble_eq_true rfl), (Nat.le_of_ble_eq_true rfl), (Nat.le_of_ble_eq_true rfl)⟩ dX1_layTrial_97 ?_
            rintro _ h14 ⟨rfl, hs15, ht⟩
            refine ab_iload (i := 6) dX1_layTrial_100 rfl ?_
            refine ab_bipush (v := 12) dX1_layTrial_102 (by decide) ?_
            refine ab_idiv dX1_layTrial_104 (by decide) ?_
            refine ab_istore (i := 6) (L' := [some (.ref 62), some (.int x1), none, some (.int x3), none, some (.int ((x1 / x6) - (x1 / x6) / 12 * 12)), some (.int (x6 / 12)), some (.int x7), some (.int ((x1 / x6) - (x1 / x6) / 12 * 12))]) dX1_layTrial_105 (by exact (Nat.le_of_ble_eq_true rfl)) rfl rfl ?_
            refine ab_iinc (i := 7) (x := x7) (v := (x7 + 1)) (L' := [some (.ref 62), some (.int x1), none, some (.int x3), none, some (.int ((x1 / x6) - (x1 / x6) / 12 * 12)), some (.int (x6 / 12)), some (.int (x7 + 1)), some (.int ((x1 / x6) - (x1 / x6) / 12 * 12))]) dX1_layTrial_107 rfl rfl (by exact (Nat.le_of_ble_eq_true rfl)) rfl rfl ?_
            refine ab_goto (tgt := 20) dX1_layTrial_110 (by decide) ?_
            exact Wp.fewer (L' := [some (.ref 62), some (.int x1), none, some (.int x3), none, some (.int ((x1 / x6) - (x1 / x6) / 12 * 12)), some (.int (x6 / 12)), some (.int (x7 + 1)), none]) (show ab_leL _ _ from ⟨rfl, ⟨rfl, ⟨rfl, ⟨rfl, ⟨rfl, ⟨rfl, trivial⟩⟩⟩⟩⟩⟩) ht
        · have ht := ht.2 c12
          refine ab_aload_n (i := 0) dX1_layTrial_56 rfl rfl ?_
          refine ab_getR (b := 29) f_X1_69 rfl (sh_k hs 62 1 (by decide) rfl) (sh_r hs 80 rfl) dX1_layTrial_57 ?_
          refine ab_getR (b := 30) f_X1_118 rfl (sh_k hs 29 6 (by decide) rfl) (sh_r hs 34 rfl) dX1_layTrial_60 ?_
          refine ab_iload (i := 5) dX1_layTrial_63 rfl ?_
          obtain ⟨hc17, ht⟩ := ht
          refine ab_iald (sh_k hs 30 14 (by decide) rfl) hc17 dX1_layTrial_65 ?_
          refine ab_iload (i := 8) dX1_layTrial_66 rfl ?_
          refine ab_ishr dX1_layTrial_68 ?_
          refine ab_iconst (v := 1) dX1_layTrial_69 (by decide) ?_
          refine ab_iand dX1_layTrial_70 ?_
          refine ab_if_ne (tgt := 76) dX1_layTrial_71 (by decide) (fun c18 => ?_) (fun c18 => ?_)
          · have ht := ht.1 c18
            refine ab_iload (i := 8) dX1_layTrial_76 rfl ?_
            refine ab_istore (i := 5) (L' := [some (.ref 62), some (.int x1), none, some (.int x3), none, some (.int ((x1 / x6) - (x1 / x6) / 12 * 12)), some (.int x6), some (.int x7), some (.int ((x1 / x6) - (x1 / x6) / 12 * 12))]) dX1_layTrial_78 (by exact (Nat.le_of_ble_eq_true rfl)) rfl rfl ?_
            refine ab_iload (i := 7) dX1_layTrial_80 rfl ?_
            refine ab_bipush (v := 120) dX1_layTrial_82 (by decide) ?_
            refine ab_icmp_ge (tgt := 100) dX1_layTrial_84 (by decide) (fun c19 => ?_) (fun c19 => ?_)
            · have ht := ht.1 c19
              refine ab_iload (i := 6) dX1_layTrial_100 rfl ?_
              refine ab_bipush (v := 12) dX1_layTrial_102 (by decide) ?_
              refine ab_idiv dX1_layTrial_104 (by decide) ?_
              refine ab_istore (i := 6) (L' := [some (.ref 62), some (.int x1), none, some (.int x3), none, some (.int ((x1 / x6) - (x1 / x6) / 12 * 12)), some (.int (x6 / 12)), some (.int x7), some (.int ((x1 / x6) - (x1 / x6) / 12 * 12))]) dX1_layTrial_105 (by exact (Nat.le_of_ble_eq_true rfl)) rfl rfl ?_
              refine ab_iinc (i := 7) (x := x7) (v := (x7 + 1)) (L' := [some (.ref 62), some (.int x1), none, some (.int x3), none, some (.int ((x1 / x6) - (x1 / x6) / 12 * 12)), some (.int (x6 / 12)), some (.int (x7 + 1)), some (.int ((x1 / x6) - (x1 / x6) / 12 * 12))]) dX1_layTrial_107 rfl rfl (by exact (Nat.le_of_ble_eq_true rfl)) rfl rfl ?_
              refine ab_goto (tgt := 20) dX1_layTrial_110 (by decide) ?_
              exact Wp.fewer (L' := [some (.ref 62), some (.int x1), none, some (.int x3), none, some (.int ((x1 / x6) - (x1 / x6) / 12 * 12)), some (.int (x6 / 12)), some (.int (x7 + 1)), none]) (show ab_leL _ _ from ⟨rfl, ⟨rfl, ⟨rfl, ⟨rfl, ⟨rfl, ⟨rfl, trivial⟩⟩⟩⟩⟩⟩) ht
            · have ht := ht.2 c19
              refine ab_aload_n (i := 0) dX1_layTrial_87 rfl rfl ?_
              refine ab_getR (b := 71) f_X1_53 rfl (sh_k hs 62 1 (by decide) rfl) (sh_r hs 83 rfl) dX1_layTrial_88 ?_
              refine ab_iload (i := 7) dX1_layTrial_91 rfl ?_
              refine ab_bipush (v := 120) dX1_layTrial_93 (by decide) ?_
              refine ab_iload (i := 5) dX1_layTrial_95 rfl ?_
              refine ab_callS (As := [.ref 71, .int x7, .int 120, .int ((x1 / x6) - (x1 / x6) / 12 * 12)]) ht (Y_J7_fill_fda19) l_X1_112 st_J7_fill_fda19 rfl ⟨(Nat.le_of_ble_eq_true rfl), (Nat.le_of_ble_eq_true rfl), (Nat.le_of_ble_eq_true rfl), (Nat.le_of_ble_eq_true rfl)⟩ dX1_layTrial_97 ?_
              rintro _ h20 ⟨rfl, hs21, ht⟩
              refine ab_iload (i := 6) dX1_layTrial_100 rfl ?_
              refine ab_bipush (v := 12) dX1_layTrial_102 (by decide) ?_
              refine ab_idiv dX1_layTrial_104 (by decide) ?_
              refine ab_istore (i := 6) (L' := [some (.ref 62), some (.int x1), none, some (.int x3), none, some (.int ((x1 / x6) - (x1 / x6) / 12 * 12)), some (.int (x6 / 12)), some (.int x7), some (.int ((x1 / x6) - (x1 / x6) / 12 * 12))]) dX1_layTrial_105 (by exact (Nat.le_of_ble_eq_true rfl)) rfl rfl ?_
              refine ab_iinc (i := 7) (x := x7) (v := (x7 + 1)) (L' := [some (.ref 62), some (.int x1), none, some (.int x3), none, some (.int ((x1 / x6) - (x1 / x6) / 12 * 12)), some (.int (x6 / 12)), some (.int (x7 + 1)), some (.int ((x1 / x6) - (x1 / x6) / 12 * 12))]) dX1_layTrial_107 rfl rfl (by exact (Nat.le_of_ble_eq_true rfl)) rfl rfl ?_
              refine ab_goto (tgt := 20) dX1_layTrial_110 (by decide) ?_
              exact Wp.fewer (L' := [some (.ref 62), some (.int x1), none, some (.int x3), none, some (.int ((x1 / x6) - (x1 / x6) / 12 * 12)), some (.int (x6 / 12)), some (.int (x7 + 1)), none]) (show ab_leL _ _ from ⟨rfl, ⟨rfl, ⟨rfl, ⟨rfl, ⟨rfl, ⟨rfl, trivial⟩⟩⟩⟩⟩⟩) ht
          · have ht := ht.2 c18
            refine ab_iconst (v := 0) dX1_layTrial_74 (by decide) ?_
            exact ab_zret rfl rfl dX1_layTrial_75 (Nat.le_of_ble_eq_true rfl) (Nat.le_of_ble_eq_true rfl) ht
set_option maxRecDepth 20000 in
theorem T_X1_layTrial {Q : Option Value → ah_T → Prop} {h : ah_T} (hs : Sh h) (x1 : Int32) (x2 : Int32) (x3 : Int32) (x4 : Int32) (ht : (Mt mJ7_fill_fda19 [.ref 71, .int 0, .int x3, .int (-1)] h (ab_qv fun h1 => Sh h1 ∧ Wp mX1_layTrial Q 0 0 20 [some (.ref 62), some (.int x1), none, some (.int x3), none, some (.int x4), some (.int x2), some (.int x3), none] [] h1))) : Mt mX1_layTrial [.ref 62, .int x1, .int x2, .int x3, .int x4] h Q := by
  refine Mt.ofWp rfl (by exact (Nat.le_of_ble_eq_true rfl)) (Wp.fewer (L' := [some (.ref 62), some (.int x1), some (.int x2), some (.int x3), some (.int x4), none, none, none, none]) (show ab_leL _ _ from ⟨rfl, ⟨rfl, ⟨rfl, ⟨rfl, ⟨rfl, trivial⟩⟩⟩⟩⟩) ?_)
  refine ab_iload (i := 4) dX1_layTrial_0 rfl ?_
  refine ab_istore (i := 5) (L' := [some (.ref 62), some (.int x1), some (.int x2), some (.int x3), some (.int x4), some (.int x4), none, none, none]) dX1_layTrial_2 (by exact (Nat.le_of_ble_eq_true rfl)) rfl rfl ?_
  refine ab_iload_n (i := 2) dX1_layTrial_4 rfl rfl ?_
  refine ab_istore (i := 6) (L' := [some (.ref 62), some (.int x1), some (.int x2), some (.int x3), some (.int x4), some (.int x4), some (.int x2), none, none]) dX1_layTrial_5 (by exact (Nat.le_of_ble_eq_true rfl)) rfl rfl ?_
  refine ab_aload_n (i := 0) dX1_layTrial_7 rfl rfl ?_
  refine ab_getR (b := 71) f_X1_53 rfl (sh_k hs 62 1 (by decide) rfl) (sh_r hs 83 rfl) dX1_layTrial_8 ?_
  refine ab_iconst (v := 0) dX1_layTrial_11 (by decide) ?_
  refine ab_iload_n (i := 3) dX1_layTrial_12 rfl rfl ?_
  refine ab_iconst (v := (-1)) dX1_layTrial_13 (by decide) ?_
  refine ab_callS (As := [.ref 71, .int 0, .int x3, .int (-1)]) ht (Y_J7_fill_fda19) l_X1_112 st_J7_fill_fda19 rfl ⟨(Nat.le_of_ble_eq_true rfl), (Nat.le_of_ble_eq_true rfl), (Nat.le_of_ble_eq_true rfl), (Nat.le_of_ble_eq_true rfl)⟩ dX1_layTrial_14 ?_
  rintro _ h1 ⟨rfl, hs2, ht⟩
  refine ab_iload_n (i := 3) dX1_layTrial_17 rfl rfl ?_
  refine ab_istore (i := 7) (L' := [some (.ref 62), some (.int x1), some (.int x2), some (.int x3), some (.int x4), some (.int x4), some (.int x2), some (.int x3), none]) dX1_layTrial_18 (by exact (Nat.le_of_ble_eq_true rfl)) rfl rfl ?_
  exact Wp.fewer (L' := [some (.ref 62), some (.int x1), none, some (.int x3), none, some (.int x4), some (.int x2), some (.int x3), none]) (show ab_leL _ _ from ⟨rfl, ⟨rfl, ⟨rfl, ⟨rfl, ⟨rfl, ⟨rfl, trivial⟩⟩⟩⟩⟩⟩) ht
theorem dX1_findLiking_0 : decode cX1_findLiking 0 = .ok (.aload_n 0, 1) := by decide +kernel
theorem dX1_findLiking_1 : decode cX1_findLiking 1 = .ok (.getfield 44, 3) := by decide +kernel
theorem dX1_findLiking_4 : decode cX1_findLiking 4 = .ok (.iload_n 1, 1) := by decide +kernel
theorem dX1_findLiking_5 : decode cX1_findLiking 5 = .ok (.ishr, 1) := by decide +kernel
theorem dX1_findLiking_6 : decode cX1_findLiking 6 = .ok (.iconst 1, 1) := by decide +kernel
theorem dX1_findLiking_7 : decode cX1_findLiking 7 = .ok (.iand, 1) := by decide +kernel
theorem dX1_findLiking_8 : decode cX1_findLiking 8 = .ok (.ifCond .eq 4, 3) := by decide +kernel
theorem dX1_findLiking_11 : decode cX1_findLiking 11 = .ok (.return_, 1) := by decide +kernel
theorem dX1_findLiking_12 : decode cX1_findLiking 12 = .ok (.aload_n 0, 1) := by decide +kernel
theorem dX1_findLiking_13 : decode cX1_findLiking 13 = .ok (.dup, 1) := by decide +kernel
theorem dX1_findLiking_14 : decode cX1_findLiking 14 = .ok (.getfield 44, 3) := by decide +kernel
theorem dX1_findLiking_17 : decode cX1_findLiking 17 = .ok (.iconst 1, 1) := by decide +kernel
theorem dX1_findLiking_18 : decode cX1_findLiking 18 = .ok (.iload_n 1, 1) := by decide +kernel
theorem dX1_findLiking_19 : decode cX1_findLiking 19 = .ok (.ishl, 1) := by decide +kernel
theorem dX1_findLiking_20 : decode cX1_findLiking 20 = .ok (.ior, 1) := by decide +kernel
theorem dX1_findLiking_21 : decode cX1_findLiking 21 = .ok (.putfield 44, 3) := by decide +kernel
theorem dX1_findLiking_24 : decode cX1_findLiking 24 = .ok (.iconst (-1), 1) := by decide +kernel
theorem dX1_findLiking_25 : decode cX1_findLiking 25 = .ok (.istore_n 2, 1) := by decide +kernel
theorem dX1_findLiking_26 : decode cX1_findLiking 26 = .ok (.iconst 0, 1) := by decide +kernel
theorem dX1_findLiking_27 : decode cX1_findLiking 27 = .ok (.istore_n 3, 1) := by decide +kernel
theorem dX1_findLiking_28 : decode cX1_findLiking 28 = .ok (.iconst 0, 1) := by decide +kernel
theorem dX1_findLiking_29 : decode cX1_findLiking 29 = .ok (.istore 4, 2) := by decide +kernel
theorem dX1_findLiking_31 : decode cX1_findLiking 31 = .ok (.iload 4, 2) := by decide +kernel
theorem dX1_findLiking_33 : decode cX1_findLiking 33 = .ok (.bipush 6, 2) := by decide +kernel
theorem dX1_findLiking_35 : decode cX1_findLiking 35 = .ok (.if_icmp .ge 100, 3) := by decide +kernel
theorem dX1_findLiking_38 : decode cX1_findLiking 38 = .ok (.iconst 0, 1) := by decide +kernel
theorem dX1_findLiking_39 : decode cX1_findLiking 39 = .ok (.istore 5, 2) := by decide +kernel
theorem dX1_findLiking_41 : decode cX1_findLiking 41 = .ok (.aload_n 0, 1) := by decide +kernel
theorem dX1_findLiking_42 : decode cX1_findLiking 42 = .ok (.getfield 73, 3) := by decide +kernel
theorem dX1_findLiking_45 : decode cX1_findLiking 45 = .ok (.iload_n 1, 1) := by decide +kernel
theorem dX1_findLiking_46 : decode cX1_findLiking 46 = .ok (.iload 4, 2) := by decide +kernel
theorem dX1_findLiking_48 : decode cX1_findLiking 48 = .ok (.invokevirtual 123, 3) := by decide +kernel
theorem dX1_findLiking_51 : decode cX1_findLiking 51 = .ok (.aload_n 0, 1) := by decide +kernel
theorem dX1_findLiking_52 : decode cX1_findLiking 52 = .ok (.getfield 73, 3) := by decide +kernel
theorem dX1_findLiking_55 : decode cX1_findLiking 55 = .ok (.invokevirtual 83, 3) := by decide +kernel
theorem dX1_findLiking_58 : decode cX1_findLiking 58 = .ok (.iconst 0, 1) := by decide +kernel
theorem dX1_findLiking_59 : decode cX1_findLiking 59 = .ok (.istore 6, 2) := by decide +kernel
theorem dX1_findLiking_61 : decode cX1_findLiking 61 = .ok (.iload 6, 2) := by decide +kernel
theorem dX1_findLiking_63 : decode cX1_findLiking 63 = .ok (.bipush 120, 2) := by decide +kernel
theorem dX1_findLiking_65 : decode cX1_findLiking 65 = .ok (.if_icmp .ge 27, 3) := by decide +kernel
theorem dX1_findLiking_68 : decode cX1_findLiking 68 = .ok (.iload 5, 2) := by decide +kernel
theorem dX1_findLiking_70 : decode cX1_findLiking 70 = .ok (.aload_n 0, 1) := by decide +kernel
theorem dX1_findLiking_71 : decode cX1_findLiking 71 = .ok (.getfield 73, 3) := by decide +kernel
theorem dX1_findLiking_74 : decode cX1_findLiking 74 = .ok (.iload 6, 2) := by decide +kernel
theorem dX1_findLiking_76 : decode cX1_findLiking 76 = .ok (.invokevirtual 93, 3) := by decide +kernel
theorem dX1_findLiking_79 : decode cX1_findLiking 79 = .ok (.iload_n 1, 1) := by decide +kernel
theorem dX1_findLiking_80 : decode cX1_findLiking 80 = .ok (.ishr, 1) := by decide +kernel
theorem dX1_findLiking_81 : decode cX1_findLiking 81 = .ok (.iconst 1, 1) := by decide +kernel
theorem dX1_findLiking_82 : decode cX1_findLiking 82 = .ok (.iand, 1) := by decide +kernel
theorem dX1_findLiking_83 : decode cX1_findLiking 83 = .ok (.iadd, 1) := by decide +kernel
theorem dX1_findLiking_84 : decode cX1_findLiking 84 = .ok (.istore 5, 2) := by decide +kernel
theorem dX1_findLiking_86 : decode cX1_findLiking 86 = .ok (.iinc 6 1, 3) := by decide +kernel
theorem dX1_findLiking_89 : decode cX1_findLiking 89 = .ok (.goto (-28), 3) := by decide +kernel
theorem dX1_findLiking_92 : decode cX1_findLiking 92 = .ok (.iload 5, 2) := by decide +kernel
theorem dX1_findLiking_94 : decode cX1_findLiking 94 = .ok (.iload_n 2, 1) := by decide +kernel
theorem dX1_findLiking_95 : decode cX1_findLiking 95 = .ok (.if_icmp .le 14, 3) := by decide +kernel
theorem dX1_findLiking_98 : decode cX1_findLiking 98 = .ok (.iload 5, 2) := by decide +kernel
theorem dX1_findLiking_100 : decode cX1_findLiking 100 = .ok (.istore_n 2, 1) := by decide +kernel
theorem dX1_findLiking_101 : decode cX1_findLiking 101 = .ok (.aload_n 0, 1) := by decide +kernel
theorem dX1_findLiking_102 : decode cX1_findLiking 102 = .ok (.getfield 23, 3) := by decide +kernel
theorem dX1_findLiking_105 : decode cX1_findLiking 105 = .ok (.iload_n 1, 1) := by decide +kernel
theorem dX1_findLiking_106 : decode cX1_findLiking 106 = .ok (.iload 4, 2) := by decide +kernel
theorem dX1_findLiking_108 : decode cX1_findLiking 108 = .ok (.iastore, 1) := by decide +kernel
theorem dX1_findLiking_109 : decode cX1_findLiking 109 = .ok (.iload 4, 2) := by decide +kernel
theorem dX1_findLiking_111 : decode cX1_findLiking 111 = .ok (.aload_n 0, 1) := by decide +kernel
theorem dX1_findLiking_112 : decode cX1_findLiking 112 = .ok (.getfield 65, 3) := by decide +kernel
theorem dX1_findLiking_115 : decode cX1_findLiking 115 = .ok (.getfield 126, 3) := by decide +kernel
theorem dX1_findLiking_118 : decode cX1_findLiking 118 = .ok (.iload_n 1, 1) := by decide +kernel
theorem dX1_findLiking_119 : decode cX1_findLiking 119 = .ok (.iconst 1, 1) := by decide +kernel
theorem dX1_findLiking_120 : decode cX1_findLiking 120 = .ok (.invokevirtual 131, 3) := by decide +kernel
theorem dX1_findLiking_123 : decode cX1_findLiking 123 = .ok (.if_icmp .ne 6, 3) := by decide +kernel
theorem dX1_findLiking_126 : decode cX1_findLiking 126 = .ok (.iload 5, 2) := by decide +kernel
theorem dX1_findLiking_128 : decode cX1_findLiking 128 = .ok (.istore_n 3, 1) := by decide +kernel
theorem dX1_findLiking_129 : decode cX1_findLiking 129 = .ok (.iinc 4 1, 3) := by decide +kernel
theorem dX1_findLiking_132 : decode cX1_findLiking 132 = .ok (.goto (-101), 3) := by decide +kernel
theorem dX1_findLiking_135 : decode cX1_findLiking 135 = .ok (.aload_n 0, 1) := by decide +kernel
theorem dX1_findLiking_136 : decode cX1_findLiking 136 = .ok (.getfield 73, 3) := by decide +kernel
theorem dX1_findLiking_139 : decode cX1_findLiking 139 = .ok (.invokevirtual 90, 3) := by decide +kernel
theorem dX1_findLiking_142 : decode cX1_findLiking 142 = .ok (.aload_n 0, 1) := by decide +kernel
theorem dX1_findLiking_143 : decode cX1_findLiking 143 = .ok (.getfield 27, 3) := by decide +kernel
theorem dX1_findLiking_146 : decode cX1_findLiking 146 = .ok (.iload_n 1, 1) := by decide +kernel
theorem dX1_findLiking_147 : decode cX1_findLiking 147 = .ok (.iload_n 2, 1) := by decide +kernel
theorem dX1_findLiking_148 : decode cX1_findLiking 148 = .ok (.iastore, 1) := by decide +kernel
theorem dX1_findLiking_149 : decode cX1_findLiking 149 = .ok (.iload_n 2, 1) := by decide +kernel
theorem dX1_findLiking_150 : decode cX1_findLiking 150 = .ok (.iload_n 3, 1) := by decide +kernel
theorem dX1_findLiking_151 : decode cX1_findLiking 151 = .ok (.if_icmp .le 15, 3) := by decide +kernel
theorem dX1_findLiking_154 : decode cX1_findLiking 154 = .ok (.aload_n 0, 1) := by decide +kernel
theorem dX1_findLiking_155 : decode cX1_findLiking 155 = .ok (.dup, 1) := by decide +kernel
theorem dX1_findLiking_156 : decode cX1_findLiking 156 = .ok (.getfield 47, 3) := by decide +kernel
theorem dX1_findLiking_159 : decode cX1_findLiking 159 = .ok (.iconst 1, 1) := by decide +kernel
theorem dX1_findLiking_160 : decode cX1_findLiking 160 = .ok (.iload_n 1, 1) := by decide +kernel
theorem dX1_findLiking_161 : decode cX1_findLiking 161 = .ok (.ishl, 1) := by decide +kernel
theorem dX1_findLiking_162 : decode cX1_findLiking 162 = .ok (.ior, 1) := by decide +kernel
theorem dX1_findLiking_163 : decode cX1_findLiking 163 = .ok (.putfield 47, 3) := by decide +kernel
theorem dX1_findLiking_166 : decode cX1_findLiking 166 = .ok (.return_, 1) := by decide +kernel
set_option maxRecDepth 20000 in
theorem T_X1_findLiking_31 {Q : Option Value → ah_T → Prop} {h : ah_T} (hs : Sh h) (x1 : Int32) (x2 : Int32) (x3 : Int32) (x4 : Int32) (ht : ((6 ≤ x4 → (Mt mX3_dismiss [.ref 43] h (ab_qv fun h6 => Sh h6 ∧ (vp_in x1 (ah_n h6 68)) ∧ (∀ h10, h10 = ah_si h6 68 (Int32.toNatClampNeg x1) x2 → ((x2 ≤ x3 → Q none h10) ∧ (¬ x2 ≤ x3 → (∀ h14, h14 = ah_si h10 62 12 ((ah_i h10 62 12) ||| ((1 : Int32) <<< (x1 &&& 31))) → Q none h14))))))) ∧ (¬ 6 ≤ x4 → (Mt mX3_disguise [.ref 43, .int x1, .int x4] h (ab_qv fun h17 => Sh h17 ∧ (Mt mX3_restart [.ref 43] h17 (ab_qv fun h20 => Sh h20 ∧ Wp mX1_findLiking Q 0 0 61 [some (.ref 62), some (.int x1), some (.int x2), some (.int x3), some (.int x4), some (.int 0), some (.int 0)] [] h20))))))) : Wp mX1_findLiking Q 0 0 31 [some (.ref 62), some (.int x1), some (.int x2), some (.int x3), some (.int x4), none, none] [] h := by
  refine ab_iload (i := 4) dX1_findLiking_31 rfl ?_
  refine ab_bipush (v := 6) dX1_findLiking_33 (by decide) ?_
  refine ab_icmp_ge (tgt := 135) dX1_findLiking_35 (by decide) (fun c5 => ?_) (fun c5 => ?_)
  · have ht := ht.1 c5
    refine ab_aload_n (i := 0) dX1_findLiking_135 rfl rfl ?_
    refine ab_getR (b := 43) f_X1_73 rfl (sh_k hs 62 1 (by decide) rfl) (sh_r hs 81 rfl) dX1_findLiking_136 ?_
    refine ab_callV (b := 43) (As := []) ht (Y_X3_dismiss) l_X1_90 in_X3_dismiss se_X3_dismiss (sh_k hs 43 3 (by decide) rfl) (by decide) rfl rfl ⟨(Nat.le_of_ble_eq_true rfl), (Nat.le_of_ble_eq_true rfl), (Nat.le_of_ble_eq_true rfl), (Nat.le_of_ble_eq_true rfl)⟩ dX1_findLiking_139 ?_
    rintro _ h6 ⟨rfl, hs7, ht⟩
    refine ab_aload_n (i := 0) dX1_findLiking_142 rfl rfl ?_
    refine ab_getR (b := 68) f_X1_27 rfl (sh_k hs7 62 1 (by decide) rfl) (sh_r hs7 77 rfl) dX1_findLiking_143 ?_
    refine ab_iload_n (i := 1) dX1_findLiking_146 rfl rfl ?_
    refine ab_iload_n (i := 2) dX1_findLiking_147 rfl rfl ?_
    obtain ⟨hc9, ht⟩ := ht
    refine ab_iast (sh_k hs7 68 14 (by decide) rfl) hc9 dX1_findLiking_148 ?_
    refine Wp.nm fun h10 e11 => ?_
    have ht := ht h10 e11
    have hs12 : Sh h10 := by rw [e11]; exact sh_si hs7
    refine ab_iload_n (i := 2) dX1_findLiking_149 rfl rfl ?_
    refine ab_iload_n (i := 3) dX1_findLiking_150 rfl rfl ?_
    refine ab_icmp_le (tgt := 166) dX1_findLiking_151 (by decide) (fun c13 => ?_) (fun c13 => ?_)
    · have ht := ht.1 c13
      exact ab_vret rfl dX1_findLiking_166 (Nat.le_of_ble_eq_true rfl) (Nat.le_of_ble_eq_true rfl) ht
    · have ht := ht.2 c13
      refine ab_aload_n (i := 0) dX1_findLiking_154 rfl rfl ?_
      refine ab_dup dX1_findLiking_155 rfl ?_
      refine ab_getI f_X1_47 rfl (sh_k hs12 62 1 (by decide) rfl) dX1_findLiking_156 ?_
      refine ab_iconst (v := 1) dX1_findLiking_159 (by decide) ?_
      refine ab_iload_n (i := 1) dX1_findLiking_160 rfl rfl ?_
      refine ab_ishl dX1_findLiking_161 ?_
      refine ab_ior dX1_findLiking_162 ?_
      refine ab_putI f_X1_47 (Or.inl rfl) rfl (sh_k hs12 62 1 (by decide) rfl) rfl rfl dX1_findLiking_163 ?_
      refine Wp.nm fun h14 e15 => ?_
      have ht := ht h14 e15
      have hs16 : Sh h14 := by rw [e15]; exact sh_si hs12
      exact ab_vret rfl dX1_findLiking_166 (Nat.le_of_ble_eq_true rfl) (Nat.le_of_ble_eq_true rfl) ht
  · have ht := ht.2 c5
    refine ab_iconst (v := 0) dX1_findLiking_38 (by decide) ?_
    refine ab_istore (i := 5) (L' := [some (.ref 62), some (.int x1), some (.int x2), some (.int x3), some (.int x4), some (.int 0), none]) dX1_findLiking_39 (by exact (Nat.le_of_ble_eq_true rfl)) rfl rfl ?_
    refine ab_aload_n (i := 0) dX1_findLiking_41 rfl rfl ?_
    refine ab_getR (b := 43) f_X1_73 rfl (sh_k hs 62 1 (by decide) rfl) (sh_r hs 81 rfl) dX1_findLiking_42 ?_
    refine ab_iload_n (i := 1) dX1_findLiking_45 rfl rfl ?_
    refine ab_iload (i := 4) dX1_findLiking_46 rfl ?_
    refine ab_callV (b := 43) (As := [.int x1, .int x4]) ht (Y_X3_disguise) l_X1_123 in_X3_disguise se_X3_disguise (sh_k hs 43 3 (by decide) rfl) (by decide) rfl rfl ⟨(Nat.le_of_ble_eq_true rfl), (Nat.le_of_ble_eq_true rfl), (Nat.le_of_ble_eq_true rfl), (Nat.le_of_ble_eq_true rfl)⟩ dX1_findLiking_48 ?_
    rintro _ h17 ⟨rfl, hs18, ht⟩
    refine ab_aload_n (i := 0) dX1_findLiking_51 rfl rfl ?_
    refine ab_getR (b := 43) f_X1_73 rfl (sh_k hs18 62 1 (by decide) rfl) (sh_r hs18 81 rfl) dX1_findLiking_52 ?_
    refine ab_callV (b := 43) (As := []) ht (Y_X3_restart) l_X1_83 in_X3_restart se_X3_restart (sh_k hs18 43 3 (by decide) rfl) (by decide) rfl rfl ⟨(Nat.le_of_ble_eq_true rfl), (Nat.le_of_ble_eq_true rfl), (Nat.le_of_ble_eq_true rfl), (Nat.le_of_ble_eq_true rfl)⟩ dX1_findLiking_55 ?_
    rintro _ h20 ⟨rfl, hs21, ht⟩
    refine ab_iconst (v := 0) dX1_findLiking_58 (by decide) ?_
    refine ab_istore (i := 6) (L' := [some (.ref 62), some (.int x1), some (.int x2), some (.int x3), some (.int x4), some (.int 0), some (.int 0)]) dX1_findLiking_59 (by exact (Nat.le_of_ble_eq_true rfl)) rfl rfl ?_
    exact Wp.fewer (L' := [some (.ref 62), some (.int x1), some (.int x2), some (.int x3), some (.int x4), some (.int 0), some (.int 0)]) (show ab_leL _ _ from ⟨rfl, ⟨rfl, ⟨rfl, ⟨rfl, ⟨rfl, ⟨rfl, ⟨rfl, trivial⟩⟩⟩⟩⟩⟩⟩) ht
set_option maxRecDepth 20000 in
theorem T_X1_findLiking_61 {Q : Option Value → ah_T → Prop} {h : ah_T} (hs : Sh h) (x1 : Int32) (x2 : Int32) (x3 : Int32) (x4 : Int32) (x5 : Int32) (x6 : Int32) (ht : ((120 ≤ x6 → ((x5 ≤ x2 → (Mt mX7_get [.ref 4, .int x1, .int 1] h (ab_qi fun v27 h25 => Sh h25 ∧ ((¬ x4 = v27 → Wp mX1_findLiking Q 0 0 31 [some (.ref 62), some (.int x1), some (.int x2), some (.int x3), some (.int (x4 + 1)), none, none] [] h25) ∧ (x4 = v27 → Wp mX1_findLiking Q 0 0 31 [some (.ref 62), some (.int x1), some (.int x2), some (.int x5), some (.int (x4 + 1)), none, none] [] h25))))) ∧ (¬ x5 ≤ x2 → (vp_in x1 (ah_n h 67)) ∧ (∀ h30, h30 = ah_si h 67 (Int32.toNatClampNeg x1) x4 → (Mt mX7_get [.ref 4, .int x1, .int 1] h30 (ab_qi fun v35 h33 => Sh h33 ∧ ((¬ x4 = v35 → Wp mX1_findLiking Q 0 0 31 [some (.ref 62), some (.int x1), some (.int x5), some (.int x3), some (.int (x4 + 1)), none, none] [] h33) ∧ (x4 = v35 → Wp mX1_findLiking Q 0 0 31 [some (.ref 62), some (.int x1), some (.int x5), some (.int x5), some (.int (x4 + 1)), none, none] [] h33)))))))) ∧ (¬ 120 ≤ x6 → (Mt mX3_step [.ref 43, .int x6] h (ab_qi fun v39 h37 => Sh h37 ∧ Wp mX1_findLiking Q 0 0 61 [some (.ref 62), some (.int x1), some (.int x2), some (.int x3), some (.int x4), some (.int (x5 + ((v39 >>> (x1 &&& 31)) &&& 1))), some (.int (x6 + 1))] [] h37))))) : Wp mX1_findLiking Q 0 0 61 [some (.ref 62), some (.int x1), some (.int x2), some (.int x3), some (.int x4), some (.int x5), some (.int x6)] [] h := by
  refine ab_iload (i := 6) dX1_findLiking_61 rfl ?_
  refine ab_bipush (v := 120) dX1_findLiking_63 (by decide) ?_
  refine ab_icmp_ge (tgt := 92) dX1_findLiking_65 (by decide) (fun c23 => ?_) (fun c23 => ?_)
  · have ht := ht.1 c23
    refine ab_iload (i := 5) dX1_findLiking_92 rfl ?_
    refine ab_iload_n (i := 2) dX1_findLiking_94 rfl rfl ?_
    refine ab_icmp_le (tgt := 109) dX1_findLiking_95 (by decide) (fun c24 => ?_) (fun c24 => ?_)
    · have ht := ht.1 c24
      refine ab_iload (i := 4) dX1_findLiking_109 rfl ?_
      refine ab_aload_n (i := 0) dX1_findLiking_111 rfl rfl ?_
      refine ab_getR (b := 1) f_X1_65 rfl (sh_k hs 62 1 (by decide) rfl) (sh_r hs 79 rfl) dX1_findLiking_112 ?_
      refine ab_getR (b := 4) f_X1_126 rfl (sh_k hs 1 10 (by decide) rfl) (sh_r hs 14 rfl) dX1_findLiking_115 ?_
      refine ab_iload_n (i := 1) dX1_findLiking_118 rfl rfl ?_
      refine ab_iconst (v := 1) dX1_findLiking_119 (by decide) ?_
      refine ab_callV (b := 4) (As := [.int x1, .int 1]) ht (Y_X7_get) l_X1_131 in_X7_get se_X7_get (sh_k hs 4 7 (by decide) rfl) (by decide) rfl rfl ⟨(Nat.le_of_ble_eq_true rfl), (Nat.le_of_ble_eq_true rfl), (Nat.le_of_ble_eq_true rfl), (Nat.le_of_ble_eq_true rfl)⟩ dX1_findLiking_120 ?_
      rintro _ h25 ⟨v27, rfl, hs26, ht⟩
      refine ab_icmp_ne (tgt := 129) dX1_findLiking_123 (by decide) (fun c28 => ?_) (fun c28 => ?_)
      · have ht := ht.1 c28
        refine ab_iinc (i := 4) (x := x4) (v := (x4 + 1)) (L' := [some (.ref 62), some (.int x1), some (.int x2), some (.int x3), some (.int (x4 + 1)), some (.int x5), some (.int x6)]) dX1_findLiking_129 rfl rfl (by exact (Nat.le_of_ble_eq_true rfl)) rfl rfl ?_
        refine ab_goto (tgt := 31) dX1_findLiking_132 (by decide) ?_
        exact Wp.fewer (L' := [some (.ref 62), some (.int x1), some (.int x2), some (.int x3), some (.int (x4 + 1)), none, none]) (show ab_leL _ _ from ⟨rfl, ⟨rfl, ⟨rfl, ⟨rfl, ⟨rfl, trivial⟩⟩⟩⟩⟩) ht
      · have ht := ht.2 c28
        refine ab_iload (i := 5) dX1_findLiking_126 rfl ?_
        refine ab_istore_n (i := 3) (L' := [some (.ref 62), some (.int x1), some (.int x2), some (.int x5), some (.int x4), some (.int x5), some (.int x6)]) dX1_findLiking_128 rfl (by exact (Nat.le_of_ble_eq_true rfl)) rfl rfl ?_
        refine ab_iinc (i := 4) (x := x4) (v := (x4 + 1)) (L' := [some (.ref 62), some (.int x1), some (.int x2), some (.int x5), some (.int (x4 + 1)), some (.int x5), some (.int x6)]) dX1_findLiking_129 rfl rfl (by exact (Nat.le_of_ble_eq_true rfl)) rfl rfl ?_
        refine ab_goto (tgt := 31) dX1_findLiking_132 (by decide) ?_
        exact Wp.fewer (L' := [some (.ref 62), some (.int x1), some (.int x2), some (.int x5), some (.int (x4 + 1)), none, none]) (show ab_leL _ _ from ⟨rfl, ⟨rfl, ⟨rfl, ⟨rfl, ⟨rfl, trivial⟩⟩⟩⟩⟩) ht
    · have ht := ht.2 c24
      refine ab_iload (i := 5) dX1_findLiking_98 rfl ?_
      refine ab_istore_n (i := 2) (L' := [some (.ref 62), some (.int x1), some (.int x5), some (.int x3), some (.int x4), some (.int x5), some (.int x6)]) dX1_findLiking_100 rfl (by exact (Nat.le_of_ble_eq_true rfl)) rfl rfl ?_
      refine ab_aload_n (i := 0) dX1_findLiking_101 rfl rfl ?_
      refine ab_getR (b := 67) f_X1_23 rfl (sh_k hs 62 1 (by decide) rfl) (sh_r hs 76 rfl) dX1_findLiking_102 ?_
      refine ab_iload_n (i := 1) dX1_findLiking_105 rfl rfl ?_
      refine ab_iload (i := 4) dX1_findLiking_106 rfl ?_
      obtain ⟨hc29, ht⟩ := ht
      refine ab_iast (sh_k hs 67 14 (by decide) rfl) hc29 dX1_findLiking_108 ?_
      refine Wp.nm fun h30 e31 => ?_
      have ht := ht h30 e31
      have hs32 : Sh h30 := by rw [e31]; exact sh_si hs
      refine ab_iload (i := 4) dX1_findLiking_109 rfl ?_
      refine ab_aload_n (i := 0) dX1_findLiking_111 rfl rfl ?_
      refine ab_getR (b := 1) f_X1_65 rfl (sh_k hs32 62 1 (by decide) rfl) (sh_r hs32 79 rfl) dX1_findLiking_112 ?_
      refine ab_getR (b := 4) f_X1_126 rfl (sh_k hs32 1 10 (by decide) rfl) (sh_r hs32 14 rfl) dX1_findLiking_115 ?_
      refine ab_iload_n (i := 1) dX1_findLiking_118 rfl rfl ?_
      refine ab_iconst (v := 1) dX1_findLiking_119 (by decide) ?_
      refine ab_callV (b := 4) (As := [.int x1, .int 1]) ht (Y_X7_get) l_X1_131 in_X7_get se_X7_get (sh_k hs32 4 7 (by decide) rfl) (by decide) rfl rfl ⟨(Nat.le_of_ble_eq_true rfl), (Nat.le_of_ble_eq_true rfl), (Nat.le_of_ble_eq_true rfl), (Nat.le_of_ble_eq_true rfl)⟩ dX1_findLiking_120 ?_
      rintro _ h33 ⟨v35, rfl, hs34, ht⟩
      refine ab_icmp_ne (tgt := 129) dX1_findLiking_123 (by decide) (fun c36 => ?_) (fun c36 => ?_)
      · have ht := ht.1 c36
        refine ab_iinc (i := 4) (x := x4) (v := (x4 + 1)) (L' := [some (.ref 62), some (.int x1), some (.int x5), some (.int x3), some (.int (x4 + 1)), some (.int x5), some (.int x6)]) dX1_findLiking_129 rfl rfl (by exact (Nat.le_of_ble_eq_true rfl)) rfl rfl ?_
        refine ab_goto (tgt := 31) dX1_findLiking_132 (by decide) ?_
        exact Wp.fewer (L' := [some (.ref 62), some (.int x1), some (.int x5), some (.int x3), some (.int (x4 + 1)), none, none]) (show ab_leL _ _ from ⟨rfl, ⟨rfl, ⟨rfl, ⟨rfl, ⟨rfl, trivial⟩⟩⟩⟩⟩) ht
      · have ht := ht.2 c36
        refine ab_iload (i := 5) dX1_findLiking_126 rfl ?_
        refine ab_istore_n (i := 3) (L' := [some (.ref 62), some (.int x1), some (.int x5), some (.int x5), some (.int x4), some (.int x5), some (.int x6)]) dX1_findLiking_128 rfl (by exact (Nat.le_of_ble_eq_true rfl)) rfl rfl ?_
        refine ab_iinc (i := 4) (x := x4) (v := (x4 + 1)) (L' := [some (.ref 62), some (.int x1), some (.int x5), some (.int x5), some (.int (x4 + 1)), some (.int x5), some (.int x6)]) dX1_findLiking_129 rfl rfl (by exact (Nat.le_of_ble_eq_true rfl)) rfl rfl ?_
        refine ab_goto (tgt := 31) dX1_findLiking_132 (by decide) ?_
        exact Wp.fewer (L' := [some (.ref 62), some (.int x1), some (.int x5), some (.int x5), some (.int (x4 + 1)), none, none]) (show ab_leL _ _ from ⟨rfl, ⟨rfl, ⟨rfl, ⟨rfl, ⟨rfl, trivial⟩⟩⟩⟩⟩) ht
  · have ht := ht.2 c23
    refine ab_iload (i := 5) dX1_findLiking_68 rfl ?_
    refine ab_aload_n (i := 0) dX1_findLiking_70 rfl rfl ?_
    refine ab_getR (b := 43) f_X1_73 rfl (sh_k hs 62 1 (by decide) rfl) (sh_r hs 81 rfl) dX1_findLiking_71 ?_
    refine ab_iload (i := 6) dX1_findLiking_74 rfl ?_
    refine ab_callV (b := 43) (As := [.int x6]) ht (Y_X3_step) l_X1_93 in_X3_step se_X3_step (sh_k hs 43 3 (by decide) rfl) (by decide) rfl rfl ⟨(Nat.le_of_ble_eq_true rfl), (Nat.le_of_ble_eq_true rfl), (Nat.le_of_ble_eq_true rfl), (Nat.le_of_ble_eq_true rfl)⟩ dX1_findLiking_76 ?_
    rintro _ h37 ⟨v39, rfl, hs38, ht⟩
    refine ab_iload_n (i := 1) dX1_findLiking_79 rfl rfl ?_
    refine ab_ishr dX1_findLiking_80 ?_
    refine ab_iconst (v := 1) dX1_findLiking_81 (by decide) ?_
    refine ab_iand dX1_findLiking_82 ?_
    refine ab_iadd dX1_findLiking_83 ?_
    refine ab_istore (i := 5) (L' := [some (.ref 62), some (.int x1), some (.int x2), some (.int x3), some (.int x4), some (.int (x5 + ((v39 >>> (x1 &&& 31)) &&& 1))), some (.int x6)]) dX1_findLiking_84 (by exact (Nat.le_of_ble_eq_true rfl)) rfl rfl ?_
    refine ab_iinc (i := 6) (x := x6) (v := (x6 + 1)) (L' := [some (.ref 62), some (.int x1), some (.int x2), some (.int x3), some (.int x4), some (.int (x5 + ((v39 >>> (x1 &&& 31)) &&& 1))), some (.int (x6 + 1))]) dX1_findLiking_86 rfl rfl (by exact (Nat.le_of_ble_eq_true rfl)) rfl rfl ?_
    refine ab_goto (tgt := 61) dX1_findLiking_89 (by decide) ?_
    exact Wp.fewer (L' := [some (.ref 62), some (.int x1), some (.int x2), some (.int x3), some (.int x4), some (.int (x5 + ((v39 >>> (x1 &&& 31)) &&& 1))), some (.int (x6 + 1))]) (show ab_leL _ _ from ⟨rfl, ⟨rfl, ⟨rfl, ⟨rfl, ⟨rfl, ⟨rfl, ⟨rfl, trivial⟩⟩⟩⟩⟩⟩⟩) ht
set_option maxRecDepth 20000 in
theorem T_X1_findLiking {Q : Option Value → ah_T → Prop} {h : ah_T} (hs : Sh h) (x1 : Int32) (ht : (((((ah_i h 62 11) >>> (x1 &&& 31)) &&& 1) = 0 → (∀ h2, h2 = ah_si h 62 11 ((ah_i h 62 11) ||| ((1 : Int32) <<< (x1 &&& 31))) → Wp mX1_findLiking Q 0 0 31 [some (.ref 62), some (.int x1), some (.int (-1)), some (.int 0), some (.int 0), none, none] [] h2)) ∧ (¬ (((ah_i h 62 11) >>> (x1 &&& 31)) &&& 1) = 0 → Q none h))) : Mt mX1_findLiking [.ref 62, .int x1] h Q := by
  refine Mt.ofWp rfl (by exact (Nat.le_of_ble_eq_true rfl)) (Wp.fewer (L' := [some (.ref 62), some (.int x1), none, none, none, none, none]) (show ab_leL _ _ from ⟨rfl, ⟨rfl, trivial⟩⟩) ?_)
  refine ab_aload_n (i := 0) dX1_findLiking_0 rfl rfl ?_
  refine ab_getI f_X1_44 rfl (sh_k hs 62 1 (by decide) rfl) dX1_findLiking_1 ?_
  refine ab_iload_n (i := 1) dX1_findLiking_4 rfl rfl ?_
  refine ab_ishr dX1_findLiking_5 ?_
  refine ab_iconst (v := 1) dX1_findLiking_6 (by decide) ?_
  refine ab_iand dX1_findLiking_7 ?_
  refine ab_if_eq (tgt := 12) dX1_findLiking_8 (by decide) (fun c1 => ?_) (fun c1 => ?_)
  · have ht := ht.1 c1
    refine ab_aload_n (i := 0) dX1_findLiking_12 rfl rfl ?_
    refine ab_dup dX1_findLiking_13 rfl ?_
    refine ab_getI f_X1_44 rfl (sh_k hs 62 1 (by decide) rfl) dX1_findLiking_14 ?_
    refine ab_iconst (v := 1) dX1_findLiking_17 (by decide) ?_
    refine ab_iload_n (i := 1) dX1_findLiking_18 rfl rfl ?_
    refine ab_ishl dX1_findLiking_19 ?_
    refine ab_ior dX1_findLiking_20 ?_
    refine ab_putI f_X1_44 (Or.inl rfl) rfl (sh_k hs 62 1 (by decide) rfl) rfl rfl dX1_findLiking_21 ?_
    refine Wp.nm fun h2 e3 => ?_
    have ht := ht h2 e3
    have hs4 : Sh h2 := by rw [e3]; exact sh_si hs
    refine ab_iconst (v := (-1)) dX1_findLiking_24 (by decide) ?_
    refine ab_istore_n (i := 2) (L' := [some (.ref 62), some (.int x1), some (.int (-1)), none, none, none, none]) dX1_findLiking_25 rfl (by exact (Nat.le_of_ble_eq_true rfl)) rfl rfl ?_
    refine ab_iconst (v := 0) dX1_findLiking_26 (by decide) ?_
    refine ab_istore_n (i := 3) (L' := [some (.ref 62), some (.int x1), some (.int (-1)), some (.int 0), none, none, none]) dX1_findLiking_27 rfl (by exact (Nat.le_of_ble_eq_true rfl)) rfl rfl ?_
    refine ab_iconst (v := 0) dX1_findLiking_28 (by decide) ?_
    refine ab_istore (i := 4) (L' := [some (.ref 62), some (.int x1), some (.int (-1)), some (.int 0), some (.int 0), none, none]) dX1_findLiking_29 (by exact (Nat.le_of_ble_eq_true rfl)) rfl rfl ?_
    exact Wp.fewer (L' := [some (.ref 62), some (.int x1), some (.int (-1)), some (.int 0), some (.int 0), none, none]) (show ab_leL _ _ from ⟨rfl, ⟨rfl, ⟨rfl, ⟨rfl, ⟨rfl, trivial⟩⟩⟩⟩⟩) ht
  · have ht := ht.2 c1
    exact ab_vret rfl dX1_findLiking_11 (Nat.le_of_ble_eq_true rfl) (Nat.le_of_ble_eq_true rfl) ht
theorem dX1_unrest_0 : decode cX1_unrest 0 = .ok (.iconst 0, 1) := by decide +kernel
theorem dX1_unrest_1 : decode cX1_unrest 1 = .ok (.istore_n 1, 1) := by decide +kernel
theorem dX1_unrest_2 : decode cX1_unrest 2 = .ok (.iload_n 1, 1) := by decide +kernel
theorem dX1_unrest_3 : decode cX1_unrest 3 = .ok (.aload_n 0, 1) := by decide +kernel
theorem dX1_unrest_4 : decode cX1_unrest 4 = .ok (.getfield 65, 3) := by decide +kernel
theorem dX1_unrest_7 : decode cX1_unrest 7 = .ok (.getfield 126, 3) := by decide +kernel
theorem dX1_unrest_10 : decode cX1_unrest 10 = .ok (.getfield 135, 3) := by decide +kernel
theorem dX1_unrest_13 : decode cX1_unrest 13 = .ok (.if_icmp .ge 14, 3) := by decide +kernel
theorem dX1_unrest_16 : decode cX1_unrest 16 = .ok (.aload_n 0, 1) := by decide +kernel
theorem dX1_unrest_17 : decode cX1_unrest 17 = .ok (.iload_n 1, 1) := by decide +kernel
theorem dX1_unrest_18 : decode cX1_unrest 18 = .ok (.invokevirtual 138, 3) := by decide +kernel
theorem dX1_unrest_21 : decode cX1_unrest 21 = .ok (.iinc 1 1, 3) := by decide +kernel
theorem dX1_unrest_24 : decode cX1_unrest 24 = .ok (.goto (-22), 3) := by decide +kernel
theorem dX1_unrest_27 : decode cX1_unrest 27 = .ok (.aload_n 0, 1) := by decide +kernel
theorem dX1_unrest_28 : decode cX1_unrest 28 = .ok (.getfield 47, 3) := by decide +kernel
theorem dX1_unrest_31 : decode cX1_unrest 31 = .ok (.ireturn, 1) := by decide +kernel
set_option maxRecDepth 20000 in
theorem T_X1_unrest_2 {Q : Option Value → ah_T → Prop} {h : ah_T} (hs : Sh h) (x1 : Int32) (ht : (((ah_i h 4 3) ≤ x1 → Q (some (.int (ah_i h 62 12))) h) ∧ (¬ (ah_i h 4 3) ≤ x1 → (Mt mX1_findLiking [.ref 62, .int x1] h (ab_qv fun h2 => Sh h2 ∧ Wp mX1_unrest Q 0 0 2 [some (.ref 62), some (.int (x1 + 1))] [] h2))))) : Wp mX1_unrest Q 0 0 2 [some (.ref 62), some (.int x1)] [] h := by
  refine ab_iload_n (i := 1) dX1_unrest_2 rfl rfl ?_
  refine ab_aload_n (i := 0) dX1_unrest_3 rfl rfl ?_
  refine ab_getR (b := 1) f_X1_65 rfl (sh_k hs 62 1 (by decide) rfl) (sh_r hs 79 rfl) dX1_unrest_4 ?_
  refine ab_getR (b := 4) f_X1_126 rfl (sh_k hs 1 10 (by decide) rfl) (sh_r hs 14 rfl) dX1_unrest_7 ?_
  refine ab_getI f_X1_135 rfl (sh_k hs 4 7 (by decide) rfl) dX1_unrest_10 ?_
  refine ab_icmp_ge (tgt := 27) dX1_unrest_13 (by decide) (fun c1 => ?_) (fun c1 => ?_)
  · have ht := ht.1 c1
    refine ab_aload_n (i := 0) dX1_unrest_27 rfl rfl ?_
    refine ab_getI f_X1_47 rfl (sh_k hs 62 1 (by decide) rfl) dX1_unrest_28 ?_
    exact ab_iret rfl dX1_unrest_31 (Nat.le_of_ble_eq_true rfl) (Nat.le_of_ble_eq_true rfl) ht
  · have ht := ht.2 c1
    refine ab_aload_n (i := 0) dX1_unrest_16 rfl rfl ?_
    refine ab_iload_n (i := 1) dX1_unrest_17 rfl rfl ?_
    refine ab_callV (b := 62) (As := [.int x1]) ht (Y_X1_findLiking) l_X1_138 in_X1_findLiking se_X1_findLiking (sh_k hs 62 1 (by decide) rfl) (by decide) rfl rfl ⟨(Nat.le_of_ble_eq_true rfl), (Nat.le_of_ble_eq_true rfl), (Nat.le_of_ble_eq_true rfl), (Nat.le_of_ble_eq_true rfl)⟩ dX1_unrest_18 ?_
    rintro _ h2 ⟨rfl, hs3, ht⟩
    refine ab_iinc (i := 1) (x := x1) (v := (x1 + 1)) (L' := [some (.ref 62), some (.int (x1 + 1))]) dX1_unrest_21 rfl rfl (by exact (Nat.le_of_ble_eq_true rfl)) rfl rfl ?_
    refine ab_goto (tgt := 2) dX1_unrest_24 (by decide) ?_
    exact Wp.fewer (L' := [some (.ref 62), some (.int (x1 + 1))]) (show ab_leL _ _ from ⟨rfl, ⟨rfl, trivial⟩⟩) ht
set_option maxRecDepth 20000 in
theorem T_X1_unrest {Q : Option Value → ah_T → Prop} {h : ah_T} (hs : Sh h)  (ht : Wp mX1_unrest Q 0 0 2 [some (.ref 62), some (.int 0)] [] h) : Mt mX1_unrest [.ref 62] h Q := by
  refine Mt.ofWp rfl (by exact (Nat.le_of_ble_eq_true rfl)) (Wp.fewer (L' := [some (.ref 62), none]) (show ab_leL _ _ from ⟨rfl, trivial⟩) ?_)
  refine ab_iconst (v := 0) dX1_unrest_0 (by decide) ?_
  refine ab_istore_n (i := 1) (L' := [some (.ref 62), some (.int 0)]) dX1_unrest_1 rfl (by exact (Nat.le_of_ble_eq_true rfl)) rfl rfl ?_
  exact Wp.fewer (L' := [some (.ref 62), some (.int 0)]) (show ab_leL _ _ from ⟨rfl, ⟨rfl, trivial⟩⟩) ht
theorem dX1_findStrangers_0 : decode cX1_findStrangers 0 = .ok (.aload_n 0, 1) := by decide +kernel
theorem dX1_findStrangers_1 : decode cX1_findStrangers 1 = .ok (.getfield 37, 3) := by decide +kernel
theorem dX1_findStrangers_4 : decode cX1_findStrangers 4 = .ok (.ifCond .eq 4, 3) := by decide +kernel
theorem dX1_findStrangers_7 : decode cX1_findStrangers 7 = .ok (.return_, 1) := by decide +kernel
theorem dX1_findStrangers_8 : decode cX1_findStrangers 8 = .ok (.aload_n 0, 1) := by decide +kernel
theorem dX1_findStrangers_9 : decode cX1_findStrangers 9 = .ok (.iconst 1, 1) := by decide +kernel
theorem dX1_findStrangers_10 : decode cX1_findStrangers 10 = .ok (.putfield 37, 3) := by decide +kernel
theorem dX1_findStrangers_13 : decode cX1_findStrangers 13 = .ok (.aload_n 0, 1) := by decide +kernel
theorem dX1_findStrangers_14 : decode cX1_findStrangers 14 = .ok (.getfield 14, 3) := by decide +kernel
theorem dX1_findStrangers_17 : decode cX1_findStrangers 17 = .ok (.iconst 0, 1) := by decide +kernel
theorem dX1_findStrangers_18 : decode cX1_findStrangers 18 = .ok (.putfield 135, 3) := by decide +kernel
theorem dX1_findStrangers_21 : decode cX1_findStrangers 21 = .ok (.aload_n 0, 1) := by decide +kernel
theorem dX1_findStrangers_22 : decode cX1_findStrangers 22 = .ok (.invokevirtual 142, 3) := by decide +kernel
theorem dX1_findStrangers_25 : decode cX1_findStrangers 25 = .ok (.iconst 0, 1) := by decide +kernel
theorem dX1_findStrangers_26 : decode cX1_findStrangers 26 = .ok (.istore_n 1, 1) := by decide +kernel
theorem dX1_findStrangers_27 : decode cX1_findStrangers 27 = .ok (.iload_n 1, 1) := by decide +kernel
theorem dX1_findStrangers_28 : decode cX1_findStrangers 28 = .ok (.bipush 72, 2) := by decide +kernel
theorem dX1_findStrangers_30 : decode cX1_findStrangers 30 = .ok (.if_icmp .ge 39, 3) := by decide +kernel
theorem dX1_findStrangers_33 : decode cX1_findStrangers 33 = .ok (.aload_n 0, 1) := by decide +kernel
theorem dX1_findStrangers_34 : decode cX1_findStrangers 34 = .ok (.getfield 73, 3) := by decide +kernel
theorem dX1_findStrangers_37 : decode cX1_findStrangers 37 = .ok (.iload_n 1, 1) := by decide +kernel
theorem dX1_findStrangers_38 : decode cX1_findStrangers 38 = .ok (.bipush 6, 2) := by decide +kernel
theorem dX1_findStrangers_40 : decode cX1_findStrangers 40 = .ok (.idiv, 1) := by decide +kernel
theorem dX1_findStrangers_41 : decode cX1_findStrangers 41 = .ok (.iload_n 1, 1) := by decide +kernel
theorem dX1_findStrangers_42 : decode cX1_findStrangers 42 = .ok (.bipush 6, 2) := by decide +kernel
theorem dX1_findStrangers_44 : decode cX1_findStrangers 44 = .ok (.irem, 1) := by decide +kernel
theorem dX1_findStrangers_45 : decode cX1_findStrangers 45 = .ok (.invokevirtual 145, 3) := by decide +kernel
theorem dX1_findStrangers_48 : decode cX1_findStrangers 48 = .ok (.aload_n 0, 1) := by decide +kernel
theorem dX1_findStrangers_49 : decode cX1_findStrangers 49 = .ok (.invokevirtual 148, 3) := by decide +kernel
theorem dX1_findStrangers_52 : decode cX1_findStrangers 52 = .ok (.ifCond .eq 11, 3) := by decide +kernel
theorem dX1_findStrangers_55 : decode cX1_findStrangers 55 = .ok (.aload_n 0, 1) := by decide +kernel
theorem dX1_findStrangers_56 : decode cX1_findStrangers 56 = .ok (.getfield 14, 3) := by decide +kernel
theorem dX1_findStrangers_59 : decode cX1_findStrangers 59 = .ok (.iload_n 1, 1) := by decide +kernel
theorem dX1_findStrangers_60 : decode cX1_findStrangers 60 = .ok (.invokevirtual 152, 3) := by decide +kernel
theorem dX1_findStrangers_63 : decode cX1_findStrangers 63 = .ok (.iinc 1 1, 3) := by decide +kernel
theorem dX1_findStrangers_66 : decode cX1_findStrangers 66 = .ok (.goto (-39), 3) := by decide +kernel
theorem dX1_findStrangers_69 : decode cX1_findStrangers 69 = .ok (.aload_n 0, 1) := by decide +kernel
theorem dX1_findStrangers_70 : decode cX1_findStrangers 70 = .ok (.getfield 73, 3) := by decide +kernel
theorem dX1_findStrangers_73 : decode cX1_findStrangers 73 = .ok (.invokevirtual 90, 3) := by decide +kernel
theorem dX1_findStrangers_76 : decode cX1_findStrangers 76 = .ok (.return_, 1) := by decide +kernel
set_option maxRecDepth 20000 in
theorem T_X1_findStrangers_27 {Q : Option Value → ah_T → Prop} {h : ah_T} (hs : Sh h) (x1 : Int32) (ht : ((72 ≤ x1 → (Mt mX3_dismiss [.ref 43] h (ab_qv fun h12 => Sh h12 ∧ Q none h12))) ∧ (¬ 72 ≤ x1 → (Mt mX3_invite [.ref 43, .int (x1 / 6), .int (x1 - x1 / 6 * 6)] h (ab_qv fun h15 => Sh h15 ∧ (Mt mX1_isSootExplained [.ref 62] h15 (ab_qi fun v20 h18 => Sh h18 ∧ ((v20 = 0 → Wp mX1_findStrangers Q 0 0 27 [some (.ref 62), some (.int (x1 + 1))] [] h18) ∧ (¬ v20 = 0 → (Mt mX7_list [.ref 63, .int x1] h18 (ab_qv fun h22 => Sh h22 ∧ Wp mX1_findStrangers Q 0 0 27 [some (.ref 62), some (.int (x1 + 1))] [] h22))))))))))) : Wp mX1_findStrangers Q 0 0 27 [some (.ref 62), some (.int x1)] [] h := by
  refine ab_iload_n (i := 1) dX1_findStrangers_27 rfl rfl ?_
  refine ab_bipush (v := 72) dX1_findStrangers_28 (by decide) ?_
  refine ab_icmp_ge (tgt := 69) dX1_findStrangers_30 (by decide) (fun c11 => ?_) (fun c11 => ?_)
  · have ht := ht.1 c11
    refine ab_aload_n (i := 0) dX1_findStrangers_69 rfl rfl ?_
    refine ab_getR (b := 43) f_X1_73 rfl (sh_k hs 62 1 (by decide) rfl) (sh_r hs 81 rfl) dX1_findStrangers_70 ?_
    refine ab_callV (b := 43) (As := []) ht (Y_X3_dismiss) l_X1_90 in_X3_dismiss se_X3_dismiss (sh_k hs 43 3 (by decide) rfl) (by decide) rfl rfl ⟨(Nat.le_of_ble_eq_true rfl), (Nat.le_of_ble_eq_true rfl), (Nat.le_of_ble_eq_true rfl), (Nat.le_of_ble_eq_true rfl)⟩ dX1_findStrangers_73 ?_
    rintro _ h12 ⟨rfl, hs13, ht⟩
    exact ab_vret rfl dX1_findStrangers_76 (Nat.le_of_ble_eq_true rfl) (Nat.le_of_ble_eq_true rfl) ht
  · have ht := ht.2 c11
    refine ab_aload_n (i := 0) dX1_findStrangers_33 rfl rfl ?_
    refine ab_getR (b := 43) f_X1_73 rfl (sh_k hs 62 1 (by decide) rfl) (sh_r hs 81 rfl) dX1_findStrangers_34 ?_
    refine ab_iload_n (i := 1) dX1_findStrangers_37 rfl rfl ?_
    refine ab_bipush (v := 6) dX1_findStrangers_38 (by decide) ?_
    refine ab_idiv dX1_findStrangers_40 (by decide) ?_
    refine ab_iload_n (i := 1) dX1_findStrangers_41 rfl rfl ?_
    refine ab_bipush (v := 6) dX1_findStrangers_42 (by decide) ?_
    refine ab_irem dX1_findStrangers_44 (by decide) ?_
    refine ab_callV (b := 43) (As := [.int (x1 / 6), .int (x1 - x1 / 6 * 6)]) ht (Y_X3_invite) l_X1_145 in_X3_invite se_X3_invite (sh_k hs 43 3 (by decide) rfl) (by decide) rfl rfl ⟨(Nat.le_of_ble_eq_true rfl), (Nat.le_of_ble_eq_true rfl), (Nat.le_of_ble_eq_true rfl), (Nat.le_of_ble_eq_true rfl)⟩ dX1_findStrangers_45 ?_
    rintro _ h15 ⟨rfl, hs16, ht⟩
    refine ab_aload_n (i := 0) dX1_findStrangers_48 rfl rfl ?_
    refine ab_callV (b := 62) (As := []) ht (Y_X1_isSootExplained) l_X1_148 in_X1_isSootExplained se_X1_isSootExplained (sh_k hs16 62 1 (by decide) rfl) (by decide) rfl rfl ⟨(Nat.le_of_ble_eq_true rfl), (Nat.le_of_ble_eq_true rfl), (Nat.le_of_ble_eq_true rfl), (Nat.le_of_ble_eq_true rfl)⟩ dX1_findStrangers_49 ?_
    rintro _ h18 ⟨v20, rfl, hs19, ht⟩
    refine ab_if_eq (tgt := 63) dX1_findStrangers_52 (by decide) (fun c21 => ?_) (fun c21 => ?_)
    · have ht := ht.1 c21
      refine ab_iinc (i := 1) (x := x1) (v := (x1 + 1)) (L' := [some (.ref 62), some (.int (x1 + 1))]) dX1_findStrangers_63 rfl rfl (by exact (Nat.le_of_ble_eq_true rfl)) rfl rfl ?_
      refine ab_goto (tgt := 27) dX1_findStrangers_66 (by decide) ?_
      exact Wp.fewer (L' := [some (.ref 62), some (.int (x1 + 1))]) (show ab_leL _ _ from ⟨rfl, ⟨rfl, trivial⟩⟩) ht
    · have ht := ht.2 c21
      refine ab_aload_n (i := 0) dX1_findStrangers_55 rfl rfl ?_
      refine ab_getR (b := 63) f_X1_14 rfl (sh_k hs19 62 1 (by decide) rfl) (sh_r hs19 74 rfl) dX1_findStrangers_56 ?_
      refine ab_iload_n (i := 1) dX1_findStrangers_59 rfl rfl ?_
      refine ab_callV (b := 63) (As := [.int x1]) ht (Y_X7_list) l_X1_152 in_X7_list se_X7_list (sh_k hs19 63 7 (by decide) rfl) (by decide) rfl rfl ⟨(Nat.le_of_ble_eq_true rfl), (Nat.le_of_ble_eq_true rfl), (Nat.le_of_ble_eq_true rfl), (Nat.le_of_ble_eq_true rfl)⟩ dX1_findStrangers_60 ?_
      rintro _ h22 ⟨rfl, hs23, ht⟩
      refine ab_iinc (i := 1) (x := x1) (v := (x1 + 1)) (L' := [some (.ref 62), some (.int (x1 + 1))]) dX1_findStrangers_63 rfl rfl (by exact (Nat.le_of_ble_eq_true rfl)) rfl rfl ?_
      refine ab_goto (tgt := 27) dX1_findStrangers_66 (by decide) ?_
      exact Wp.fewer (L' := [some (.ref 62), some (.int (x1 + 1))]) (show ab_leL _ _ from ⟨rfl, ⟨rfl, trivial⟩⟩) ht
set_option maxRecDepth 20000 in
theorem T_X1_findStrangers {Q : Option Value → ah_T → Prop} {h : ah_T} (hs : Sh h)  (ht : (((ah_i h 62 9) = 0 → (∀ h2, h2 = ah_si h 62 9 1 → (∀ h5, h5 = ah_si h2 63 3 0 → (Mt mX1_gatherSoot [.ref 62] h5 (ab_qv fun h8 => Sh h8 ∧ Wp mX1_findStrangers Q 0 0 27 [some (.ref 62), some (.int 0)] [] h8))))) ∧ (¬ (ah_i h 62 9) = 0 → Q none h))) : Mt mX1_findStrangers [.ref 62] h Q := by
  refine Mt.ofWp rfl (by exact (Nat.le_of_ble_eq_true rfl)) (Wp.fewer (L' := [some (.ref 62), none]) (show ab_leL _ _ from ⟨rfl, trivial⟩) ?_)
  refine ab_aload_n (i := 0) dX1_findStrangers_0 rfl rfl ?_
  refine ab_getI f_X1_37 rfl (sh_k hs 62 1 (by decide) rfl) dX1_findStrangers_1 ?_
  refine ab_if_eq (tgt := 8) dX1_findStrangers_4 (by decide) (fun c1 => ?_) (fun c1 => ?_)
  · have ht := ht.1 c1
    refine ab_aload_n (i := 0) dX1_findStrangers_8 rfl rfl ?_
    refine ab_iconst (v := 1) dX1_findStrangers_9 (by decide) ?_
    refine ab_putI f_X1_37 (Or.inl rfl) rfl (sh_k hs 62 1 (by decide) rfl) rfl rfl dX1_findStrangers_10 ?_
    refine Wp.nm fun h2 e3 => ?_
    have ht := ht h2 e3
    have hs4 : Sh h2 := by rw [e3]; exact sh_si hs
    refine ab_aload_n (i := 0) dX1_findStrangers_13 rfl rfl ?_
    refine ab_getR (b := 63) f_X1_14 rfl (sh_k hs4 62 1 (by decide) rfl) (sh_r hs4 74 rfl) dX1_findStrangers_14 ?_
    refine ab_iconst (v := 0) dX1_findStrangers_17 (by decide) ?_
    refine ab_putI f_X1_135 (Or.inl rfl) rfl (sh_k hs4 63 7 (by decide) rfl) rfl rfl dX1_findStrangers_18 ?_
    refine Wp.nm fun h5 e6 => ?_
    have ht := ht h5 e6
    have hs7 : Sh h5 := by rw [e6]; exact sh_si hs4
    refine ab_aload_n (i := 0) dX1_findStrangers_21 rfl rfl ?_
    refine ab_callV (b := 62) (As := []) ht (Y_X1_gatherSoot) l_X1_142 in_X1_gatherSoot se_X1_gatherSoot (sh_k hs7 62 1 (by decide) rfl) (by decide) rfl rfl ⟨(Nat.le_of_ble_eq_true rfl), (Nat.le_of_ble_eq_true rfl), (Nat.le_of_ble_eq_true rfl), (Nat.le_of_ble_eq_true rfl)⟩ dX1_findStrangers_22 ?_
    rintro _ h8 ⟨rfl, hs9, ht⟩
    refine ab_iconst (v := 0) dX1_findStrangers_25 (by decide) ?_
    refine ab_istore_n (i := 1) (L' := [some (.ref 62), some (.int 0)]) dX1_findStrangers_26 rfl (by exact (Nat.le_of_ble_eq_true rfl)) rfl rfl ?_
    exact Wp.fewer (L' := [some (.ref 62), some (.int 0)]) (show ab_leL _ _ from ⟨rfl, ⟨rfl, trivial⟩⟩) ht
  · have ht := ht.2 c1
    exact ab_vret rfl dX1_findStrangers_7 (Nat.le_of_ble_eq_true rfl) (Nat.le_of_ble_eq_true rfl) ht
theorem dX1_findChanges_0 : decode cX1_findChanges 0 = .ok (.aload_n 0, 1) := by decide +kernel
theorem dX1_findChanges_1 : decode cX1_findChanges 1 = .ok (.getfield 41, 3) := by decide +kernel
theorem dX1_findChanges_4 : decode cX1_findChanges 4 = .ok (.ifCond .eq 4, 3) := by decide +kernel
theorem dX1_findChanges_7 : decode cX1_findChanges 7 = .ok (.return_, 1) := by decide +kernel
theorem dX1_findChanges_8 : decode cX1_findChanges 8 = .ok (.aload_n 0, 1) := by decide +kernel
theorem dX1_findChanges_9 : decode cX1_findChanges 9 = .ok (.iconst 1, 1) := by decide +kernel
theorem dX1_findChanges_10 : decode cX1_findChanges 10 = .ok (.putfield 41, 3) := by decide +kernel
theorem dX1_findChanges_13 : decode cX1_findChanges 13 = .ok (.aload_n 0, 1) := by decide +kernel
theorem dX1_findChanges_14 : decode cX1_findChanges 14 = .ok (.getfield 20, 3) := by decide +kernel
theorem dX1_findChanges_17 : decode cX1_findChanges 17 = .ok (.iconst 0, 1) := by decide +kernel
theorem dX1_findChanges_18 : decode cX1_findChanges 18 = .ok (.putfield 135, 3) := by decide +kernel
theorem dX1_findChanges_21 : decode cX1_findChanges 21 = .ok (.aload_n 0, 1) := by decide +kernel
theorem dX1_findChanges_22 : decode cX1_findChanges 22 = .ok (.invokevirtual 142, 3) := by decide +kernel
theorem dX1_findChanges_25 : decode cX1_findChanges 25 = .ok (.iconst 0, 1) := by decide +kernel
theorem dX1_findChanges_26 : decode cX1_findChanges 26 = .ok (.istore_n 1, 1) := by decide +kernel
theorem dX1_findChanges_27 : decode cX1_findChanges 27 = .ok (.iload_n 1, 1) := by decide +kernel
theorem dX1_findChanges_28 : decode cX1_findChanges 28 = .ok (.aload_n 0, 1) := by decide +kernel
theorem dX1_findChanges_29 : decode cX1_findChanges 29 = .ok (.getfield 65, 3) := by decide +kernel
theorem dX1_findChanges_32 : decode cX1_findChanges 32 = .ok (.getfield 126, 3) := by decide +kernel
theorem dX1_findChanges_35 : decode cX1_findChanges 35 = .ok (.getfield 135, 3) := by decide +kernel
theorem dX1_findChanges_38 : decode cX1_findChanges 38 = .ok (.if_icmp .ge 75, 3) := by decide +kernel
theorem dX1_findChanges_41 : decode cX1_findChanges 41 = .ok (.iconst 0, 1) := by decide +kernel
theorem dX1_findChanges_42 : decode cX1_findChanges 42 = .ok (.istore_n 2, 1) := by decide +kernel
theorem dX1_findChanges_43 : decode cX1_findChanges 43 = .ok (.iload_n 2, 1) := by decide +kernel
theorem dX1_findChanges_44 : decode cX1_findChanges 44 = .ok (.bipush 6, 2) := by decide +kernel
theorem dX1_findChanges_46 : decode cX1_findChanges 46 = .ok (.if_icmp .ge 54, 3) := by decide +kernel
theorem dX1_findChanges_49 : decode cX1_findChanges 49 = .ok (.aload_n 0, 1) := by decide +kernel
theorem dX1_findChanges_50 : decode cX1_findChanges 50 = .ok (.getfield 73, 3) := by decide +kernel
theorem dX1_findChanges_53 : decode cX1_findChanges 53 = .ok (.iload_n 1, 1) := by decide +kernel
theorem dX1_findChanges_54 : decode cX1_findChanges 54 = .ok (.iload_n 2, 1) := by decide +kernel
theorem dX1_findChanges_55 : decode cX1_findChanges 55 = .ok (.invokevirtual 123, 3) := by decide +kernel
theorem dX1_findChanges_58 : decode cX1_findChanges 58 = .ok (.iload_n 2, 1) := by decide +kernel
theorem dX1_findChanges_59 : decode cX1_findChanges 59 = .ok (.aload_n 0, 1) := by decide +kernel
theorem dX1_findChanges_60 : decode cX1_findChanges 60 = .ok (.getfield 65, 3) := by decide +kernel
theorem dX1_findChanges_63 : decode cX1_findChanges 63 = .ok (.getfield 126, 3) := by decide +kernel
theorem dX1_findChanges_66 : decode cX1_findChanges 66 = .ok (.iload_n 1, 1) := by decide +kernel
theorem dX1_findChanges_67 : decode cX1_findChanges 67 = .ok (.iconst 1, 1) := by decide +kernel
theorem dX1_findChanges_68 : decode cX1_findChanges 68 = .ok (.invokevirtual 131, 3) := by decide +kernel
theorem dX1_findChanges_71 : decode cX1_findChanges 71 = .ok (.if_icmp .eq 23, 3) := by decide +kernel
theorem dX1_findChanges_74 : decode cX1_findChanges 74 = .ok (.aload_n 0, 1) := by decide +kernel
theorem dX1_findChanges_75 : decode cX1_findChanges 75 = .ok (.invokevirtual 148, 3) := by decide +kernel
theorem dX1_findChanges_78 : decode cX1_findChanges 78 = .ok (.ifCond .eq 16, 3) := by decide +kernel
theorem dX1_findChanges_81 : decode cX1_findChanges 81 = .ok (.aload_n 0, 1) := by decide +kernel
theorem dX1_findChanges_82 : decode cX1_findChanges 82 = .ok (.getfield 20, 3) := by decide +kernel
theorem dX1_findChanges_85 : decode cX1_findChanges 85 = .ok (.iload_n 1, 1) := by decide +kernel
theorem dX1_findChanges_86 : decode cX1_findChanges 86 = .ok (.bipush 6, 2) := by decide +kernel
theorem dX1_findChanges_88 : decode cX1_findChanges 88 = .ok (.imul, 1) := by decide +kernel
theorem dX1_findChanges_89 : decode cX1_findChanges 89 = .ok (.iload_n 2, 1) := by decide +kernel
theorem dX1_findChanges_90 : decode cX1_findChanges 90 = .ok (.iadd, 1) := by decide +kernel
theorem dX1_findChanges_91 : decode cX1_findChanges 91 = .ok (.invokevirtual 152, 3) := by decide +kernel
theorem dX1_findChanges_94 : decode cX1_findChanges 94 = .ok (.iinc 2 1, 3) := by decide +kernel
theorem dX1_findChanges_97 : decode cX1_findChanges 97 = .ok (.goto (-54), 3) := by decide +kernel
theorem dX1_findChanges_100 : decode cX1_findChanges 100 = .ok (.aload_n 0, 1) := by decide +kernel
theorem dX1_findChanges_101 : decode cX1_findChanges 101 = .ok (.getfield 73, 3) := by decide +kernel
theorem dX1_findChanges_104 : decode cX1_findChanges 104 = .ok (.invokevirtual 90, 3) := by decide +kernel
theorem dX1_findChanges_107 : decode cX1_findChanges 107 = .ok (.iinc 1 1, 3) := by decide +kernel
theorem dX1_findChanges_110 : decode cX1_findChanges 110 = .ok (.goto (-83), 3) := by decide +kernel
theorem dX1_findChanges_113 : decode cX1_findChanges 113 = .ok (.return_, 1) := by decide +kernel
set_option maxRecDepth 20000 in
theorem T_X1_findChanges_27 {Q : Option Value → ah_T → Prop} {h : ah_T} (hs : Sh h) (x1 : Int32) (ht : (((ah_i h 4 3) ≤ x1 → Q none h) ∧ (¬ (ah_i h 4 3) ≤ x1 → Wp mX1_findChanges Q 0 0 43 [some (.ref 62), some (.int x1), some (.int 0)] [] h))) : Wp mX1_findChanges Q 0 0 27 [some (.ref 62), some (.int x1), none] [] h := by
  refine ab_iload_n (i := 1) dX1_findChanges_27 rfl rfl ?_
  refine ab_aload_n (i := 0) dX1_findChanges_28 rfl rfl ?_
  refine ab_getR (b := 1) f_X1_65 rfl (sh_k hs 62 1 (by decide) rfl) (sh_r hs 79 rfl) dX1_findChanges_29 ?_
  refine ab_getR (b := 4) f_X1_126 rfl (sh_k hs 1 10 (by decide) rfl) (sh_r hs 14 rfl) dX1_findChanges_32 ?_
  refine ab_getI f_X1_135 rfl (sh_k hs 4 7 (by decide) rfl) dX1_findChanges_35 ?_
  refine ab_icmp_ge (tgt := 113) dX1_findChanges_38 (by decide) (fun c11 => ?_) (fun c11 => ?_)
  · have ht := ht.1 c11
    exact ab_vret rfl dX1_findChanges_113 (Nat.le_of_ble_eq_true rfl) (Nat.le_of_ble_eq_true rfl) ht
  · have ht := ht.2 c11
    refine ab_iconst (v := 0) dX1_findChanges_41 (by decide) ?_
    refine ab_istore_n (i := 2) (L' := [some (.ref 62), some (.int x1), some (.int 0)]) dX1_findChanges_42 rfl (by exact (Nat.le_of_ble_eq_true rfl)) rfl rfl ?_
    exact Wp.fewer (L' := [some (.ref 62), some (.int x1), some (.int 0)]) (show ab_leL _ _ from ⟨rfl, ⟨rfl, ⟨rfl, trivial⟩⟩⟩) ht
set_option maxRecDepth 20000 in
theorem T_X1_findChanges_43 {Q : Option Value → ah_T → Prop} {h : ah_T} (hs : Sh h) (x1 : Int32) (x2 : Int32) (ht : ((6 ≤ x2 → (Mt mX3_dismiss [.ref 43] h (ab_qv fun h13 => Sh h13 ∧ Wp mX1_findChanges Q 0 0 27 [some (.ref 62), some (.int (x1 + 1)), none] [] h13))) ∧ (¬ 6 ≤ x2 → (Mt mX3_disguise [.ref 43, .int x1, .int x2] h (ab_qv fun h16 => Sh h16 ∧ (Mt mX7_get [.ref 4, .int x1, .int 1] h16 (ab_qi fun v21 h19 => Sh h19 ∧ ((x2 = v21 → Wp mX1_findChanges Q 0 0 43 [some (.ref 62), some (.int x1), some (.int (x2 + 1))] [] h19) ∧ (¬ x2 = v21 → (Mt mX1_isSootExplained [.ref 62] h19 (ab_qi fun v25 h23 => Sh h23 ∧ ((v25 = 0 → Wp mX1_findChanges Q 0 0 43 [some (.ref 62), some (.int x1), some (.int (x2 + 1))] [] h23) ∧ (¬ v25 = 0 → (Mt mX7_list [.ref 65, .int ((x1 * 6) + x2)] h23 (ab_qv fun h27 => Sh h27 ∧ Wp mX1_findChanges Q 0 0 43 [some (.ref 62), some (.int x1), some (.int (x2 + 1))] [] h27))))))))))))))) : Wp mX1_findChanges Q 0 0 43 [some (.ref 62), some (.int x1), some (.int x2)] [] h := by
  refine ab_iload_n (i := 2) dX1_findChanges_43 rfl rfl ?_
  refine ab_bipush (v := 6) dX1_findChanges_44 (by decide) ?_
  refine ab_icmp_ge (tgt := 100) dX1_findChanges_46 (by decide) (fun c12 => ?_) (fun c12 => ?_)
  · have ht := ht.1 c12
    refine ab_aload_n (i := 0) dX1_findChanges_100 rfl rfl ?_
    refine ab_getR (b := 43) f_X1_73 rfl (sh_k hs 62 1 (by decide) rfl) (sh_r hs 81 rfl) dX1_findChanges_101 ?_
    refine ab_callV (b := 43) (As := []) ht (Y_X3_dismiss) l_X1_90 in_X3_dismiss se_X3_dismiss (sh_k hs 43 3 (by decide) rfl) (by decide) rfl rfl ⟨(Nat.le_of_ble_eq_true rfl), (Nat.le_of_ble_eq_true rfl), (Nat.le_of_ble_eq_true rfl), (Nat.le_of_ble_eq_true rfl)⟩ dX1_findChanges_104 ?_
    rintro _ h13 ⟨rfl, hs14, ht⟩
    refine ab_iinc (i := 1) (x := x1) (v := (x1 + 1)) (L' := [some (.ref 62), some (.int (x1 + 1)), some (.int x2)]) dX1_findChanges_107 rfl rfl (by exact (Nat.le_of_ble_eq_true rfl)) rfl rfl ?_
    refine ab_goto (tgt := 27) dX1_findChanges_110 (by decide) ?_
    exact Wp.fewer (L' := [some (.ref 62), some (.int (x1 + 1)), none]) (show ab_leL _ _ from ⟨rfl, ⟨rfl, trivial⟩⟩) ht
  · have ht := ht.2 c12
    refine ab_aload_n (i := 0) dX1_findChanges_49 rfl rfl ?_
    refine ab_getR (b := 43) f_X1_73 rfl (sh_k hs 62 1 (by decide) rfl) (sh_r hs 81 rfl) dX1_findChanges_50 ?_
    refine ab_iload_n (i := 1) dX1_findChanges_53 rfl rfl ?_
    refine ab_iload_n (i := 2) dX1_findChanges_54 rfl rfl ?_
    refine ab_callV (b := 43) (As := [.int x1, .int x2]) ht (Y_X3_disguise) l_X1_123 in_X3_disguise se_X3_disguise (sh_k hs 43 3 (by decide) rfl) (by decide) rfl rfl ⟨(Nat.le_of_ble_eq_true rfl), (Nat.le_of_ble_eq_true rfl), (Nat.le_of_ble_eq_true rfl), (Nat.le_of_ble_eq_true rfl)⟩ dX1_findChanges_55 ?_
    rintro _ h16 ⟨rfl, hs17, ht⟩
    refine ab_iload_n (i := 2) dX1_findChanges_58 rfl rfl ?_
    refine ab_aload_n (i := 0) dX1_findChanges_59 rfl rfl ?_
    refine ab_getR (b := 1) f_X1_65 rfl (sh_k hs17 62 1 (by decide) rfl) (sh_r hs17 79 rfl) dX1_findChanges_60 ?_
    refine ab_getR (b := 4) f_X1_126 rfl (sh_k hs17 1 10 (by decide) rfl) (sh_r hs17 14 rfl) dX1_findChanges_63 ?_
    refine ab_iload_n (i := 1) dX1_findChanges_66 rfl rfl ?_
    refine ab_iconst (v := 1) dX1_findChanges_67 (by decide) ?_
    refine ab_callV (b := 4) (As := [.int x1, .int 1]) ht (Y_X7_get) l_X1_131 in_X7_get se_X7_get (sh_k hs17 4 7 (by decide) rfl) (by decide) rfl rfl ⟨(Nat.le_of_ble_eq_true rfl), (Nat.le_of_ble_eq_true rfl), (Nat.le_of_ble_eq_true rfl), (Nat.le_of_ble_eq_true rfl)⟩ dX1_findChanges_68 ?_
    rintro _ h19 ⟨v21, rfl, hs20, ht⟩
    refine ab_icmp_eq (tgt := 94) dX1_findChanges_71 (by decide) (fun c22 => ?_) (fun c22 => ?_)
    · have ht := ht.1 c22
      refine ab_iinc (i := 2) (x := x2) (v := (x2 + 1)) (L' := [some (.ref 62), some (.int x1), some (.int (x2 + 1))]) dX1_findChanges_94 rfl rfl (by exact (Nat.le_of_ble_eq_true rfl)) rfl rfl ?_
      refine ab_goto (tgt := 43) dX1_findChanges_97 (by decide) ?_
      exact Wp.fewer (L' := [some (.ref 62), some (.int x1), some (.int (x2 + 1))]) (show ab_leL _ _ from ⟨rfl, ⟨rfl, ⟨rfl, trivial⟩⟩⟩) ht
    · have ht := ht.2 c22
      refine ab_aload_n (i := 0) dX1_findChanges_74 rfl rfl ?_
      refine ab_callV (b := 62) (As := []) ht (Y_X1_isSootExplained) l_X1_148 in_X1_isSootExplained se_X1_isSootExplained (sh_k hs20 62 1 (by decide) rfl) (by decide) rfl rfl ⟨(Nat.le_of_ble_eq_true rfl), (Nat.le_of_ble_eq_true rfl), (Nat.le_of_ble_eq_true rfl), (Nat.le_of_ble_eq_true rfl)⟩ dX1_findChanges_75 ?_
      rintro _ h23 ⟨v25, rfl, hs24, ht⟩
      refine ab_if_eq (tgt := 94) dX1_findChanges_78 (by decide) (fun c26 => ?_) (fun c26 => ?_)
      · have ht := ht.1 c26
        refine ab_iinc (i := 2) (x := x2) (v := (x2 + 1)) (L' := [some (.ref 62), some (.int x1), some (.int (x2 + 1))]) dX1_findChanges_94 rfl rfl (by exact (Nat.le_of_ble_eq_true rfl)) rfl rfl ?_
        refine ab_goto (tgt := 43) dX1_findChanges_97 (by decide) ?_
        exact Wp.fewer (L' := [some (.ref 62), some (.int x1), some (.int (x2 + 1))]) (show ab_leL _ _ from ⟨rfl, ⟨rfl, ⟨rfl, trivial⟩⟩⟩) ht
      · have ht := ht.2 c26
        refine ab_aload_n (i := 0) dX1_findChanges_81 rfl rfl ?_
        refine ab_getR (b := 65) f_X1_20 rfl (sh_k hs24 62 1 (by decide) rfl) (sh_r hs24 75 rfl) dX1_findChanges_82 ?_
        refine ab_iload_n (i := 1) dX1_findChanges_85 rfl rfl ?_
        refine ab_bipush (v := 6) dX1_findChanges_86 (by decide) ?_
        refine ab_imul dX1_findChanges_88 ?_
        refine ab_iload_n (i := 2) dX1_findChanges_89 rfl rfl ?_
        refine ab_iadd dX1_findChanges_90 ?_
        refine ab_callV (b := 65) (As := [.int ((x1 * 6) + x2)]) ht (Y_X7_list) l_X1_152 in_X7_list se_X7_list (sh_k hs24 65 7 (by decide) rfl) (by decide) rfl rfl ⟨(Nat.le_of_ble_eq_true rfl), (Nat.le_of_ble_eq_true rfl), (Nat.le_of_ble_eq_true rfl), (Nat.le_of_ble_eq_true rfl)⟩ dX1_findChanges_91 ?_
        rintro _ h27 ⟨rfl, hs28, ht⟩
        refine ab_iinc (i := 2) (x := x2) (v := (x2 + 1)) (L' := [some (.ref 62), some (.int x1), some (.int (x2 + 1))]) dX1_findChanges_94 rfl rfl (by exact (Nat.le_of_ble_eq_true rfl)) rfl rfl ?_
        refine ab_goto (tgt := 43) dX1_findChanges_97 (by decide) ?_
        exact Wp.fewer (L' := [some (.ref 62), some (.int x1), some (.int (x2 + 1))]) (show ab_leL _ _ from ⟨rfl, ⟨rfl, ⟨rfl, trivial⟩⟩⟩) ht
set_option maxRecDepth 20000 in
theorem T_X1_findChanges {Q : Option Value → ah_T → Prop} {h : ah_T} (hs : Sh h)  (ht : (((ah_i h 62 10) = 0 → (∀ h2, h2 = ah_si h 62 10 1 → (∀ h5, h5 = ah_si h2 65 3 0 → (Mt mX1_gatherSoot [.ref 62] h5 (ab_qv fun h8 => Sh h8 ∧ Wp mX1_findChanges Q 0 0 27 [some (.ref 62), some (.int 0), none] [] h8))))) ∧ (¬ (ah_i h 62 10) = 0 → Q none h))) : Mt mX1_findChanges [.ref 62] h Q := by
  refine Mt.ofWp rfl (by exact (Nat.le_of_ble_eq_true rfl)) (Wp.fewer (L' := [some (.ref 62), none, none]) (show ab_leL _ _ from ⟨rfl, trivial⟩) ?_)
  refine ab_aload_n (i := 0) dX1_findChanges_0 rfl rfl ?_
  refine ab_getI f_X1_41 rfl (sh_k hs 62 1 (by decide) rfl) dX1_findChanges_1 ?_
  refine ab_if_eq (tgt := 8) dX1_findChanges_4 (by decide) (fun c1 => ?_) (fun c1 => ?_)
  · have ht := ht.1 c1
    refine ab_aload_n (i := 0) dX1_findChanges_8 rfl rfl ?_
    refine ab_iconst (v := 1) dX1_findChanges_9 (by decide) ?_
    refine ab_putI f_X1_41 (Or.inl rfl) rfl (sh_k hs 62 1 (by decide) rfl) rfl rfl dX1_findChanges_10 ?_
    refine Wp.nm fun h2 e3 => ?_
    have ht := ht h2 e3
    have hs4 : Sh h2 := by rw [e3]; exact sh_si hs
    refine ab_aload_n (i := 0) dX1_findChanges_13 rfl rfl ?_
    refine ab_getR (b := 65) f_X1_20 rfl (sh_k hs4 62 1 (by decide) rfl) (sh_r hs4 75 rfl) dX1_findChanges_14 ?_
    refine ab_iconst (v := 0) dX1_findChanges_17 (by decide) ?_
    refine ab_putI f_X1_135 (Or.inl rfl) rfl (sh_k hs4 65 7 (by decide) rfl) rfl rfl dX1_findChanges_18 ?_
    refine Wp.nm fun h5 e6 => ?_
    have ht := ht h5 e6
    have hs7 : Sh h5 := by rw [e6]; exact sh_si hs4
    refine ab_aload_n (i := 0) dX1_findChanges_21 rfl rfl ?_
    refine ab_callV (b := 62) (As := []) ht (Y_X1_gatherSoot) l_X1_142 in_X1_gatherSoot se_X1_gatherSoot (sh_k hs7 62 1 (by decide) rfl) (by decide) rfl rfl ⟨(Nat.le_of_ble_eq_true rfl), (Nat.le_of_ble_eq_true rfl), (Nat.le_of_ble_eq_true rfl), (Nat.le_of_ble_eq_true rfl)⟩ dX1_findChanges_22 ?_
    rintro _ h8 ⟨rfl, hs9, ht⟩
    refine ab_iconst (v := 0) dX1_findChanges_25 (by decide) ?_
    refine ab_istore_n (i := 1) (L' := [some (.ref 62), some (.int 0), none]) dX1_findChanges_26 rfl (by exact (Nat.le_of_ble_eq_true rfl)) rfl rfl ?_
    exact Wp.fewer (L' := [some (.ref 62), some (.int 0), none]) (show ab_leL _ _ from ⟨rfl, ⟨rfl, trivial⟩⟩) ht
  · have ht := ht.2 c1
    exact ab_vret rfl dX1_findChanges_7 (Nat.le_of_ble_eq_true rfl) (Nat.le_of_ble_eq_true rfl) ht
theorem dX1_gatherSoot_0 : decode cX1_gatherSoot 0 = .ok (.aload_n 0, 1) := by decide +kernel
theorem dX1_gatherSoot_1 : decode cX1_gatherSoot 1 = .ok (.getfield 56, 3) := by decide +kernel
theorem dX1_gatherSoot_4 : decode cX1_gatherSoot 4 = .ok (.iconst 0, 1) := by decide +kernel
theorem dX1_gatherSoot_5 : decode cX1_gatherSoot 5 = .ok (.invokestatic 155, 3) := by decide +kernel
theorem dX1_gatherSoot_8 : decode cX1_gatherSoot 8 = .ok (.aload_n 0, 1) := by decide +kernel
theorem dX1_gatherSoot_9 : decode cX1_gatherSoot 9 = .ok (.getfield 59, 3) := by decide +kernel
theorem dX1_gatherSoot_12 : decode cX1_gatherSoot 12 = .ok (.iconst 0, 1) := by decide +kernel
theorem dX1_gatherSoot_13 : decode cX1_gatherSoot 13 = .ok (.invokestatic 155, 3) := by decide +kernel
theorem dX1_gatherSoot_16 : decode cX1_gatherSoot 16 = .ok (.aload_n 0, 1) := by decide +kernel
theorem dX1_gatherSoot_17 : decode cX1_gatherSoot 17 = .ok (.iconst (-1), 1) := by decide +kernel
theorem dX1_gatherSoot_18 : decode cX1_gatherSoot 18 = .ok (.putfield 62, 3) := by decide +kernel
theorem dX1_gatherSoot_21 : decode cX1_gatherSoot 21 = .ok (.iconst 0, 1) := by decide +kernel
theorem dX1_gatherSoot_22 : decode cX1_gatherSoot 22 = .ok (.istore_n 1, 1) := by decide +kernel
theorem dX1_gatherSoot_23 : decode cX1_gatherSoot 23 = .ok (.iload_n 1, 1) := by decide +kernel
theorem dX1_gatherSoot_24 : decode cX1_gatherSoot 24 = .ok (.aload_n 0, 1) := by decide +kernel
theorem dX1_gatherSoot_25 : decode cX1_gatherSoot 25 = .ok (.getfield 65, 3) := by decide +kernel
theorem dX1_gatherSoot_28 : decode cX1_gatherSoot 28 = .ok (.getfield 158, 3) := by decide +kernel
theorem dX1_gatherSoot_31 : decode cX1_gatherSoot 31 = .ok (.getfield 135, 3) := by decide +kernel
theorem dX1_gatherSoot_34 : decode cX1_gatherSoot 34 = .ok (.if_icmp .ge 88, 3) := by decide +kernel
theorem dX1_gatherSoot_37 : decode cX1_gatherSoot 37 = .ok (.aload_n 0, 1) := by decide +kernel
theorem dX1_gatherSoot_38 : decode cX1_gatherSoot 38 = .ok (.getfield 65, 3) := by decide +kernel
theorem dX1_gatherSoot_41 : decode cX1_gatherSoot 41 = .ok (.getfield 158, 3) := by decide +kernel
theorem dX1_gatherSoot_44 : decode cX1_gatherSoot 44 = .ok (.iload_n 1, 1) := by decide +kernel
theorem dX1_gatherSoot_45 : decode cX1_gatherSoot 45 = .ok (.iconst 1, 1) := by decide +kernel
theorem dX1_gatherSoot_46 : decode cX1_gatherSoot 46 = .ok (.invokevirtual 131, 3) := by decide +kernel
theorem dX1_gatherSoot_49 : decode cX1_gatherSoot 49 = .ok (.istore_n 2, 1) := by decide +kernel
theorem dX1_gatherSoot_50 : decode cX1_gatherSoot 50 = .ok (.iconst 1, 1) := by decide +kernel
theorem dX1_gatherSoot_51 : decode cX1_gatherSoot 51 = .ok (.aload_n 0, 1) := by decide +kernel
theorem dX1_gatherSoot_52 : decode cX1_gatherSoot 52 = .ok (.getfield 65, 3) := by decide +kernel
theorem dX1_gatherSoot_55 : decode cX1_gatherSoot 55 = .ok (.getfield 158, 3) := by decide +kernel
theorem dX1_gatherSoot_58 : decode cX1_gatherSoot 58 = .ok (.iload_n 1, 1) := by decide +kernel
theorem dX1_gatherSoot_59 : decode cX1_gatherSoot 59 = .ok (.iconst 0, 1) := by decide +kernel
theorem dX1_gatherSoot_60 : decode cX1_gatherSoot 60 = .ok (.invokevirtual 131, 3) := by decide +kernel
theorem dX1_gatherSoot_63 : decode cX1_gatherSoot 63 = .ok (.ishl, 1) := by decide +kernel
theorem dX1_gatherSoot_64 : decode cX1_gatherSoot 64 = .ok (.istore_n 3, 1) := by decide +kernel
theorem dX1_gatherSoot_65 : decode cX1_gatherSoot 65 = .ok (.aload_n 0, 1) := by decide +kernel
theorem dX1_gatherSoot_66 : decode cX1_gatherSoot 66 = .ok (.getfield 65, 3) := by decide +kernel
theorem dX1_gatherSoot_69 : decode cX1_gatherSoot 69 = .ok (.getfield 158, 3) := by decide +kernel
theorem dX1_gatherSoot_72 : decode cX1_gatherSoot 72 = .ok (.iload_n 1, 1) := by decide +kernel
theorem dX1_gatherSoot_73 : decode cX1_gatherSoot 73 = .ok (.iconst 2, 1) := by decide +kernel
theorem dX1_gatherSoot_74 : decode cX1_gatherSoot 74 = .ok (.invokevirtual 131, 3) := by decide +kernel
theorem dX1_gatherSoot_77 : decode cX1_gatherSoot 77 = .ok (.iconst 1, 1) := by decide +kernel
theorem dX1_gatherSoot_78 : decode cX1_gatherSoot 78 = .ok (.if_icmp .ne 16, 3) := by decide +kernel
theorem dX1_gatherSoot_81 : decode cX1_gatherSoot 81 = .ok (.aload_n 0, 1) := by decide +kernel
theorem dX1_gatherSoot_82 : decode cX1_gatherSoot 82 = .ok (.getfield 56, 3) := by decide +kernel
theorem dX1_gatherSoot_85 : decode cX1_gatherSoot 85 = .ok (.iload_n 2, 1) := by decide +kernel
theorem dX1_gatherSoot_86 : decode cX1_gatherSoot 86 = .ok (.dup2, 1) := by decide +kernel
theorem dX1_gatherSoot_87 : decode cX1_gatherSoot 87 = .ok (.iaload, 1) := by decide +kernel
theorem dX1_gatherSoot_88 : decode cX1_gatherSoot 88 = .ok (.iload_n 3, 1) := by decide +kernel
theorem dX1_gatherSoot_89 : decode cX1_gatherSoot 89 = .ok (.ior, 1) := by decide +kernel
theorem dX1_gatherSoot_90 : decode cX1_gatherSoot 90 = .ok (.iastore, 1) := by decide +kernel
theorem dX1_gatherSoot_91 : decode cX1_gatherSoot 91 = .ok (.goto 13, 3) := by decide +kernel
theorem dX1_gatherSoot_94 : decode cX1_gatherSoot 94 = .ok (.aload_n 0, 1) := by decide +kernel
theorem dX1_gatherSoot_95 : decode cX1_gatherSoot 95 = .ok (.getfield 59, 3) := by decide +kernel
theorem dX1_gatherSoot_98 : decode cX1_gatherSoot 98 = .ok (.iload_n 2, 1) := by decide +kernel
theorem dX1_gatherSoot_99 : decode cX1_gatherSoot 99 = .ok (.dup2, 1) := by decide +kernel
theorem dX1_gatherSoot_100 : decode cX1_gatherSoot 100 = .ok (.iaload, 1) := by decide +kernel
theorem dX1_gatherSoot_101 : decode cX1_gatherSoot 101 = .ok (.iload_n 3, 1) := by decide +kernel
theorem dX1_gatherSoot_102 : decode cX1_gatherSoot 102 = .ok (.ior, 1) := by decide +kernel
theorem dX1_gatherSoot_103 : decode cX1_gatherSoot 103 = .ok (.iastore, 1) := by decide +kernel
theorem dX1_gatherSoot_104 : decode cX1_gatherSoot 104 = .ok (.aload_n 0, 1) := by decide +kernel
theorem dX1_gatherSoot_105 : decode cX1_gatherSoot 105 = .ok (.aload_n 0, 1) := by decide +kernel
theorem dX1_gatherSoot_106 : decode cX1_gatherSoot 106 = .ok (.getfield 62, 3) := by decide +kernel
theorem dX1_gatherSoot_109 : decode cX1_gatherSoot 109 = .ok (.iload_n 2, 1) := by decide +kernel
theorem dX1_gatherSoot_110 : decode cX1_gatherSoot 110 = .ok (.invokestatic 161, 3) := by decide +kernel
theorem dX1_gatherSoot_113 : decode cX1_gatherSoot 113 = .ok (.putfield 62, 3) := by decide +kernel
theorem dX1_gatherSoot_116 : decode cX1_gatherSoot 116 = .ok (.iinc 1 1, 3) := by decide +kernel
theorem dX1_gatherSoot_119 : decode cX1_gatherSoot 119 = .ok (.goto (-96), 3) := by decide +kernel
theorem dX1_gatherSoot_122 : decode cX1_gatherSoot 122 = .ok (.return_, 1) := by decide +kernel
set_option maxRecDepth 20000 in
theorem T_X1_gatherSoot_23 {Q : Option Value → ah_T → Prop} {h : ah_T} (hs : Sh h) (x1 : Int32) (ht : (((ah_i h 12 3) ≤ x1 → Q none h) ∧ (¬ (ah_i h 12 3) ≤ x1 → (Mt mX7_get [.ref 12, .int x1, .int 1] h (ab_qi fun v13 h11 => Sh h11 ∧ (Mt mX7_get [.ref 12, .int x1, .int 0] h11 (ab_qi fun v16 h14 => Sh h14 ∧ (Mt mX7_get [.ref 12, .int x1, .int 2] h14 (ab_qi fun v19 h17 => Sh h17 ∧ ((¬ v19 = 1 → (vp_in v13 (ah_n h17 73)) ∧ (vp_in v13 (ah_n h17 73)) ∧ (∀ h23, h23 = ah_si h17 73 (Int32.toNatClampNeg v13) ((ah_i h17 73 (Int32.toNatClampNeg v13)) ||| ((1 : Int32) <<< (v16 &&& 31))) → (∀ h26, h26 = ah_si h23 62 17 (if (ah_i h23 62 17) < v13 then v13 else (ah_i h23 62 17)) → Wp mX1_gatherSoot Q 0 0 23 [some (.ref 62), some (.int (x1 + 1)), none, none] [] h26))) ∧ (v19 = 1 → (vp_in v13 (ah_n h17 72)) ∧ (vp_in v13 (ah_n h17 72)) ∧ (∀ h31, h31 = ah_si h17 72 (Int32.toNatClampNeg v13) ((ah_i h17 72 (Int32.toNatClampNeg v13)) ||| ((1 : Int32) <<< (v16 &&& 31))) → (∀ h34, h34 = ah_si h31 62 17 (if (ah_i h31 62 17) < v13 then v13 else (ah_i h31 62 17)) → Wp mX1_gatherSoot Q 0 0 23 [some (.ref 62), some (.int (x1 + 1)), none, none] [] h34))))))))))))) : Wp mX1_gatherSoot Q 0 0 23 [some (.ref 62), some (.int x1), none, none] [] h := by
  refine ab_iload_n (i := 1) dX1_gatherSoot_23 rfl rfl ?_
  refine ab_aload_n (i := 0) dX1_gatherSoot_24 rfl rfl ?_
  refine ab_getR (b := 1) f_X1_65 rfl (sh_k hs 62 1 (by decide) rfl) (sh_r hs 79 rfl) dX1_gatherSoot_25 ?_
  refine ab_getR (b := 12) f_X1_158 rfl (sh_k hs 1 10 (by decide) rfl) (sh_r hs 18 rfl) dX1_gatherSoot_28 ?_
  refine ab_getI f_X1_135 rfl (sh_k hs 12 7 (by decide) rfl) dX1_gatherSoot_31 ?_
  refine ab_icmp_ge (tgt := 122) dX1_gatherSoot_34 (by decide) (fun c10 => ?_) (fun c10 => ?_)
  · have ht := ht.1 c10
    exact ab_vret rfl dX1_gatherSoot_122 (Nat.le_of_ble_eq_true rfl) (Nat.le_of_ble_eq_true rfl) ht
  · have ht := ht.2 c10
    refine ab_aload_n (i := 0) dX1_gatherSoot_37 rfl rfl ?_
    refine ab_getR (b := 1) f_X1_65 rfl (sh_k hs 62 1 (by decide) rfl) (sh_r hs 79 rfl) dX1_gatherSoot_38 ?_
    refine ab_getR (b := 12) f_X1_158 rfl (sh_k hs 1 10 (by decide) rfl) (sh_r hs 18 rfl) dX1_gatherSoot_41 ?_
    refine ab_iload_n (i := 1) dX1_gatherSoot_44 rfl rfl ?_
    refine ab_iconst (v := 1) dX1_gatherSoot_45 (by decide) ?_
    refine ab_callV (b := 12) (As := [.int x1, .int 1]) ht (Y_X7_get) l_X1_131 in_X7_get se_X7_get (sh_k hs 12 7 (by decide) rfl) (by decide) rfl rfl ⟨(Nat.le_of_ble_eq_true rfl), (Nat.le_of_ble_eq_true rfl), (Nat.le_of_ble_eq_true rfl), (Nat.le_of_ble_eq_true rfl)⟩ dX1_gatherSoot_46 ?_
    rintro _ h11 ⟨v13, rfl, hs12, ht⟩
    refine ab_istore_n (i := 2) (L' := [some (.ref 62), some (.int x1), some (.int v13), none]) dX1_gatherSoot_49 rfl (by exact (Nat.le_of_ble_eq_true rfl)) rfl rfl ?_
    refine ab_iconst (v := 1) dX1_gatherSoot_50 (by decide) ?_
    refine ab_aload_n (i := 0) dX1_gatherSoot_51 rfl rfl ?_
    refine ab_getR (b := 1) f_X1_65 rfl (sh_k hs12 62 1 (by decide) rfl) (sh_r hs12 79 rfl) dX1_gatherSoot_52 ?_
    refine ab_getR (b := 12) f_X1_158 rfl (sh_k hs12 1 10 (by decide) rfl) (sh_r hs12 18 rfl) dX1_gatherSoot_55 ?_
    refine ab_iload_n (i := 1) dX1_gatherSoot_58 rfl rfl ?_
    refine ab_iconst (v := 0) dX1_gatherSoot_59 (by decide) ?_
    refine ab_callV (b := 12) (As := [.int x1, .int 0]) ht (Y_X7_get) l_X1_131 in_X7_get se_X7_get (sh_k hs12 12 7 (by decide) rfl) (by decide) rfl rfl ⟨(Nat.le_of_ble_eq_true rfl), (Nat.le_of_ble_eq_true rfl), (Nat.le_of_ble_eq_true rfl), (Nat.le_of_ble_eq_true rfl)⟩ dX1_gatherSoot_60 ?_
    rintro _ h14 ⟨v16, rfl, hs15, ht⟩
    refine ab_ishl dX1_gatherSoot_63 ?_
    refine ab_istore_n (i := 3) (L' := [some (.ref 62), some (.int x1), some (.int v13), some (.int ((1 : Int32) <<< (v16 &&& 31)))]) dX1_gatherSoot_64 rfl (by exact (Nat.le_of_ble_eq_true rfl)) rfl rfl ?_
    refine ab_aload_n (i := 0) dX1_gatherSoot_65 rfl rfl ?_
    refine ab_getR (b := 1) f_X1_65 rfl (sh_k hs15 62 1 (by decide) rfl) (sh_r hs15 79 rfl) dX1_gatherSoot_66 ?_
    refine ab_getR (b := 12) f_X1_158 rfl (sh_k hs15 1 10 (by decide) rfl) (sh_r hs15 18 rfl) dX1_gatherSoot_69 ?_
    refine ab_iload_n (i := 1) dX1_gatherSoot_72 rfl rfl ?_
    refine ab_iconst (v := 2) dX1_gatherSoot_73 (by decide) ?_
    refine ab_callV (b := 12) (As := [.int x1, .int 2]) ht (Y_X7_get) l_X1_131 in_X7_get se_X7_get (sh_k hs15 12 7 (by decide) rfl) (by decide) rfl rfl ⟨(Nat.le_of_ble_eq_true rfl), (Nat.le_of_ble_eq_true rfl), (Nat.le_of_ble_eq_true rfl), (Nat.le_of_ble_eq_true rfl)⟩ dX1_gatherSoot_74 ?_
    rintro _ h17 ⟨v19, rfl, hs18, ht⟩
    refine ab_iconst (v := 1) dX1_gatherSoot_77 (by decide) ?_
    refine ab_icmp_ne (tgt := 94) dX1_gatherSoot_78 (by decide) (fun c20 => ?_) (fun c20 => ?_)
    · have ht := ht.1 c20
      refine ab_aload_n (i := 0) dX1_gatherSoot_94 rfl rfl ?_
      refine ab_getR (b := 73) f_X1_59 rfl (sh_k hs18 62 1 (by decide) rfl) (sh_r hs18 85 rfl) dX1_gatherSoot_95 ?_
      refine ab_iload_n (i := 2) dX1_gatherSoot_98 rfl rfl ?_
      refine ab_dup2 dX1_gatherSoot_99 rfl rfl ?_
      obtain ⟨hc21, ht⟩ := ht
      refine ab_iald (sh_k hs18 73 14 (by decide) rfl) hc21 dX1_gatherSoot_100 ?_
      refine ab_iload_n (i := 3) dX1_gatherSoot_101 rfl rfl ?_
      refine ab_ior dX1_gatherSoot_102 ?_
      obtain ⟨hc22, ht⟩ := ht
      refine ab_iast (sh_k hs18 73 14 (by decide) rfl) hc22 dX1_gatherSoot_103 ?_
      refine Wp.nm fun h23 e24 => ?_
      have ht := ht h23 e24
      have hs25 : Sh h23 := by rw [e24]; exact sh_si hs18
      refine ab_aload_n (i := 0) dX1_gatherSoot_104 rfl rfl ?_
      refine ab_aload_n (i := 0) dX1_gatherSoot_105 rfl rfl ?_
      refine ab_getI f_X1_62 rfl (sh_k hs25 62 1 (by decide) rfl) dX1_gatherSoot_106 ?_
      refine ab_iload_n (i := 2) dX1_gatherSoot_109 rfl rfl ?_
      refine ab_mmax (tb_6 (List.mem_of_getElem? (i := 135) (by decide +kernel)) rfl) st_mmax in_m co_mmax (Nat.le_of_ble_eq_true rfl) (Nat.le_of_ble_eq_true rfl) (Nat.le_of_ble_eq_true rfl) (Nat.le_of_ble_eq_true rfl) dX1_gatherSoot_110 ?_
      refine ab_putI f_X1_62 (Or.inl rfl) rfl (sh_k hs25 62 1 (by decide) rfl) rfl rfl dX1_gatherSoot_113 ?_
      refine Wp.nm fun h26 e27 => ?_
      have ht := ht h26 e27
      have hs28 : Sh h26 := by rw [e27]; exact sh_si hs25
      refine ab_iinc (i := 1) (x := x1) (v := (x1 + 1)) (L' := [some (.ref 62), some (.int (x1 + 1)), some (.int v13), some (.int ((1 : Int32) <<< (v16 &&& 31)))]) dX1_gatherSoot_116 rfl rfl (by exact (Nat.le_of_ble_eq_true rfl)) rfl rfl ?_
      refine ab_goto (tgt := 23) dX1_gatherSoot_119 (by decide) ?_
      exact Wp.fewer (L' := [some (.ref 62), some (.int (x1 + 1)), none, none]) (show ab_leL _ _ from ⟨rfl, ⟨rfl, trivial⟩⟩) ht
    · have ht := ht.2 c20
      refine ab_aload_n (i := 0) dX1_gatherSoot_81 rfl rfl ?_
      refine ab_getR (b := 72) f_X1_56 rfl (sh_k hs18 62 1 (by decide) rfl) (sh_r hs18 84 rfl) dX1_gatherSoot_82 ?_
      refine ab_iload_n (i := 2) dX1_gatherSoot_85 rfl rfl ?_
      refine ab_dup2 dX1_gatherSoot_86 rfl rfl ?_
      obtain ⟨hc29, ht⟩ := ht
      refine ab_iald (sh_k hs18 72 14 (by decide) rfl) hc29 dX1_gatherSoot_87 ?_
      refine ab_iload_n (i := 3) dX1_gatherSoot_88 rfl rfl ?_
      refine ab_ior dX1_gatherSoot_89 ?_
      obtain ⟨hc30, ht⟩ := ht
      refine ab_iast (sh_k hs18 72 14 (by decide) rfl) hc30 dX1_gatherSoot_90 ?_
      refine Wp.nm fun h31 e32 => ?_
      have ht := ht h31 e32
      have hs33 : Sh h31 := by rw [e32]; exact sh_si hs18
      refine ab_goto (tgt := 104) dX1_gatherSoot_91 (by decide) ?_
      refine ab_aload_n (i := 0) dX1_gatherSoot_104 rfl rfl ?_
      refine ab_aload_n (i := 0) dX1_gatherSoot_105 rfl rfl ?_
      refine ab_getI f_X1_62 rfl (sh_k hs33 62 1 (by decide) rfl) dX1_gatherSoot_106 ?_
      refine ab_iload_n (i := 2) dX1_gatherSoot_109 rfl rfl ?_
      refine ab_mmax (tb_6 (List.mem_of_getElem? (i := 135) (by decide +kernel)) rfl) st_mmax in_m co_mmax (Nat.le_of_ble_eq_true rfl) (Nat.le_of_ble_eq_true rfl) (Nat.le_of_ble_eq_true rfl) (Nat.le_of_ble_eq_true rfl) dX1_gatherSoot_110 ?_
      refine ab_putI f_X1_62 (Or.inl rfl) rfl (sh_k hs33 62 1 (by decide) rfl) rfl rfl dX1_gatherSoot_113 ?_
      refine Wp.nm fun h34 e35 => ?_
      have ht := ht h34 e35
      have hs36 : Sh h34 := by rw [e35]; exact sh_si hs33
      refine ab_iinc (i := 1) (x := x1) (v := (x1 + 1)) (L' := [some (.ref 62), some (.int (x1 + 1)), some (.int v13), some (.int ((1 : Int32) <<< (v16 &&& 31)))]) dX1_gatherSoot_116 rfl rfl (by exact (Nat.le_of_ble_eq_true rfl)) rfl rfl ?_
      refine ab_goto (tgt := 23) dX1_gatherSoot_119 (by decide) ?_
      exact Wp.fewer (L' := [some (.ref 62), some (.int (x1 + 1)), none, none]) (show ab_leL _ _ from ⟨rfl, ⟨rfl, trivial⟩⟩) ht
set_option maxRecDepth 20000 in
theorem T_X1_gatherSoot {Q : Option Value → ah_T → Prop} {h : ah_T} (hs : Sh h)  (ht : (Mt mJ7_fill_53178 [.ref 72, .int 0] h (ab_qv fun h1 => Sh h1 ∧ (Mt mJ7_fill_53178 [.ref 73, .int 0] h1 (ab_qv fun h4 => Sh h4 ∧ (∀ h7, h7 = ah_si h4 62 17 (-1) → Wp mX1_gatherSoot Q 0 0 23 [some (.ref 62), some (.int 0), none, none] [] h7)))))) : Mt mX1_gatherSoot [.ref 62] h Q := by
  refine Mt.ofWp rfl (by exact (Nat.le_of_ble_eq_true rfl)) (Wp.fewer (L' := [some (.ref 62), none, none, none]) (show ab_leL _ _ from ⟨rfl, trivial⟩) ?_)
  refine ab_aload_n (i := 0) dX1_gatherSoot_0 rfl rfl ?_
  refine ab_getR (b := 72) f_X1_56 rfl (sh_k hs 62 1 (by decide) rfl) (sh_r hs 84 rfl) dX1_gatherSoot_1 ?_
  refine ab_iconst (v := 0) dX1_gatherSoot_4 (by decide) ?_
  refine ab_callS (As := [.ref 72, .int 0]) ht (Y_J7_fill_53178) l_X1_155 st_J7_fill_53178 rfl ⟨(Nat.le_of_ble_eq_true rfl), (Nat.le_of_ble_eq_true rfl), (Nat.le_of_ble_eq_true rfl), (Nat.le_of_ble_eq_true rfl)⟩ dX1_gatherSoot_5 ?_
  rintro _ h1 ⟨rfl, hs2, ht⟩
  refine ab_aload_n (i := 0) dX1_gatherSoot_8 rfl rfl ?_
  refine ab_getR (b := 73) f_X1_59 rfl (sh_k hs2 62 1 (by decide) rfl) (sh_r hs2 85 rfl) dX1_gatherSoot_9 ?_
  refine ab_iconst (v := 0) dX1_gatherSoot_12 (by decide) ?_
  refine ab_callS (As := [.ref 73, .int 0]) ht (Y_J7_fill_53178) l_X1_155 st_J7_fill_53178 rfl ⟨(Nat.le_of_ble_eq_true rfl), (Nat.le_of_ble_eq_true rfl), (Nat.le_of_ble_eq_true rfl), (Nat.le_of_ble_eq_true rfl)⟩ dX1_gatherSoot_13 ?_
  rintro _ h4 ⟨rfl, hs5, ht⟩
  refine ab_aload_n (i := 0) dX1_gatherSoot_16 rfl rfl ?_
  refine ab_iconst (v := (-1)) dX1_gatherSoot_17 (by decide) ?_
  refine ab_putI f_X1_62 (Or.inl rfl) rfl (sh_k hs5 62 1 (by decide) rfl) rfl rfl dX1_gatherSoot_18 ?_
  refine Wp.nm fun h7 e8 => ?_
  have ht := ht h7 e8
  have hs9 : Sh h7 := by rw [e8]; exact sh_si hs5
  refine ab_iconst (v := 0) dX1_gatherSoot_21 (by decide) ?_
  refine ab_istore_n (i := 1) (L' := [some (.ref 62), some (.int 0), none, none]) dX1_gatherSoot_22 rfl (by exact (Nat.le_of_ble_eq_true rfl)) rfl rfl ?_
  exact Wp.fewer (L' := [some (.ref 62), some (.int 0), none, none]) (show ab_leL _ _ from ⟨rfl, ⟨rfl, trivial⟩⟩) ht
theorem dX1_isSootExplained_0 : decode cX1_isSootExplained 0 = .ok (.aload_n 0, 1) := by decide +kernel
theorem dX1_isSootExplained_1 : decode cX1_isSootExplained 1 = .ok (.getfield 73, 3) := by decide +kernel
theorem dX1_isSootExplained_4 : decode cX1_isSootExplained 4 = .ok (.invokevirtual 83, 3) := by decide +kernel
theorem dX1_isSootExplained_7 : decode cX1_isSootExplained 7 = .ok (.iconst 0, 1) := by decide +kernel
theorem dX1_isSootExplained_8 : decode cX1_isSootExplained 8 = .ok (.istore_n 1, 1) := by decide +kernel
theorem dX1_isSootExplained_9 : decode cX1_isSootExplained 9 = .ok (.iload_n 1, 1) := by decide +kernel
theorem dX1_isSootExplained_10 : decode cX1_isSootExplained 10 = .ok (.aload_n 0, 1) := by decide +kernel
theorem dX1_isSootExplained_11 : decode cX1_isSootExplained 11 = .ok (.getfield 62, 3) := by decide +kernel
theorem dX1_isSootExplained_14 : decode cX1_isSootExplained 14 = .ok (.if_icmp .gt 48, 3) := by decide +kernel
theorem dX1_isSootExplained_17 : decode cX1_isSootExplained 17 = .ok (.iload_n 1, 1) := by decide +kernel
theorem dX1_isSootExplained_18 : decode cX1_isSootExplained 18 = .ok (.bipush 120, 2) := by decide +kernel
theorem dX1_isSootExplained_20 : decode cX1_isSootExplained 20 = .ok (.if_icmp .ge 42, 3) := by decide +kernel
theorem dX1_isSootExplained_23 : decode cX1_isSootExplained 23 = .ok (.aload_n 0, 1) := by decide +kernel
theorem dX1_isSootExplained_24 : decode cX1_isSootExplained 24 = .ok (.getfield 73, 3) := by decide +kernel
theorem dX1_isSootExplained_27 : decode cX1_isSootExplained 27 = .ok (.iload_n 1, 1) := by decide +kernel
theorem dX1_isSootExplained_28 : decode cX1_isSootExplained 28 = .ok (.invokevirtual 93, 3) := by decide +kernel
theorem dX1_isSootExplained_31 : decode cX1_isSootExplained 31 = .ok (.istore_n 2, 1) := by decide +kernel
theorem dX1_isSootExplained_32 : decode cX1_isSootExplained 32 = .ok (.aload_n 0, 1) := by decide +kernel
theorem dX1_isSootExplained_33 : decode cX1_isSootExplained 33 = .ok (.getfield 56, 3) := by decide +kernel
theorem dX1_isSootExplained_36 : decode cX1_isSootExplained 36 = .ok (.iload_n 1, 1) := by decide +kernel
theorem dX1_isSootExplained_37 : decode cX1_isSootExplained 37 = .ok (.iaload, 1) := by decide +kernel
theorem dX1_isSootExplained_38 : decode cX1_isSootExplained 38 = .ok (.iload_n 2, 1) := by decide +kernel
theorem dX1_isSootExplained_39 : decode cX1_isSootExplained 39 = .ok (.iconst (-1), 1) := by decide +kernel
theorem dX1_isSootExplained_40 : decode cX1_isSootExplained 40 = .ok (.ixor, 1) := by decide +kernel
theorem dX1_isSootExplained_41 : decode cX1_isSootExplained 41 = .ok (.iand, 1) := by decide +kernel
theorem dX1_isSootExplained_42 : decode cX1_isSootExplained 42 = .ok (.aload_n 0, 1) := by decide +kernel
theorem dX1_isSootExplained_43 : decode cX1_isSootExplained 43 = .ok (.getfield 59, 3) := by decide +kernel
theorem dX1_isSootExplained_46 : decode cX1_isSootExplained 46 = .ok (.iload_n 1, 1) := by decide +kernel
theorem dX1_isSootExplained_47 : decode cX1_isSootExplained 47 = .ok (.iaload, 1) := by decide +kernel
theorem dX1_isSootExplained_48 : decode cX1_isSootExplained 48 = .ok (.iload_n 2, 1) := by decide +kernel
theorem dX1_isSootExplained_49 : decode cX1_isSootExplained 49 = .ok (.iand, 1) := by decide +kernel
theorem dX1_isSootExplained_50 : decode cX1_isSootExplained 50 = .ok (.ior, 1) := by decide +kernel
theorem dX1_isSootExplained_51 : decode cX1_isSootExplained 51 = .ok (.ifCond .eq 5, 3) := by decide +kernel
theorem dX1_isSootExplained_54 : decode cX1_isSootExplained 54 = .ok (.iconst 0, 1) := by decide +kernel
theorem dX1_isSootExplained_55 : decode cX1_isSootExplained 55 = .ok (.ireturn, 1) := by decide +kernel
theorem dX1_isSootExplained_56 : decode cX1_isSootExplained 56 = .ok (.iinc 1 1, 3) := by decide +kernel
theorem dX1_isSootExplained_59 : decode cX1_isSootExplained 59 = .ok (.goto (-50), 3) := by decide +kernel
theorem dX1_isSootExplained_62 : decode cX1_isSootExplained 62 = .ok (.iconst 1, 1) := by decide +kernel
theorem dX1_isSootExplained_63 : decode cX1_isSootExplained 63 = .ok (.ireturn, 1) := by decide +kernel
set_option maxRecDepth 20000 in
theorem T_X1_isSootExplained_9 {Q : Option Value → ah_T → Prop} {h : ah_T} (hs : Sh h) (x1 : Int32) (ht : (((ah_i h 62 17) < x1 → Q (some (.int 1)) h) ∧ (¬ (ah_i h 62 17) < x1 → ((120 ≤ x1 → Q (some (.int 1)) h) ∧ (¬ 120 ≤ x1 → (Mt mX3_step [.ref 43, .int x1] h (ab_qi fun v8 h6 => Sh h6 ∧ (vp_in x1 (ah_n h6 72)) ∧ (vp_in x1 (ah_n h6 73)) ∧ (((((ah_i h6 72 (Int32.toNatClampNeg x1)) &&& (v8 ^^^ (-1))) ||| ((ah_i h6 73 (Int32.toNatClampNeg x1)) &&& v8)) = 0 → Wp mX1_isSootExplained Q 0 0 9 [some (.ref 62), some (.int (x1 + 1)), none] [] h6) ∧ (¬ (((ah_i h6 72 (Int32.toNatClampNeg x1)) &&& (v8 ^^^ (-1))) ||| ((ah_i h6 73 (Int32.toNatClampNeg x1)) &&& v8)) = 0 → Q (some (.int 0)) h6))))))))) : Wp mX1_isSootExplained Q 0 0 9 [some (.ref 62), some (.int x1), none] [] h := by
  refine ab_iload_n (i := 1) dX1_isSootExplained_9 rfl rfl ?_
  refine ab_aload_n (i := 0) dX1_isSootExplained_10 rfl rfl ?_
  refine ab_getI f_X1_62 rfl (sh_k hs 62 1 (by decide) rfl) dX1_isSootExplained_11 ?_
  refine ab_icmp_gt (tgt := 62) dX1_isSootExplained_14 (by decide) (fun c4 => ?_) (fun c4 => ?_)
  · have ht := ht.1 c4
    refine ab_iconst (v := 1) dX1_isSootExplained_62 (by decide) ?_
    exact ab_zret rfl rfl dX1_isSootExplained_63 (Nat.le_of_ble_eq_true rfl) (Nat.le_of_ble_eq_true rfl) ht
  · have ht := ht.2 c4
    refine ab_iload_n (i := 1) dX1_isSootExplained_17 rfl rfl ?_
    refine ab_bipush (v := 120) dX1_isSootExplained_18 (by decide) ?_
    refine ab_icmp_ge (tgt := 62) dX1_isSootExplained_20 (by decide) (fun c5 => ?_) (fun c5 => ?_)
    · have ht := ht.1 c5
      refine ab_iconst (v := 1) dX1_isSootExplained_62 (by decide) ?_
      exact ab_zret rfl rfl dX1_isSootExplained_63 (Nat.le_of_ble_eq_true rfl) (Nat.le_of_ble_eq_true rfl) ht
    · have ht := ht.2 c5
      refine ab_aload_n (i := 0) dX1_isSootExplained_23 rfl rfl ?_
      refine ab_getR (b := 43) f_X1_73 rfl (sh_k hs 62 1 (by decide) rfl) (sh_r hs 81 rfl) dX1_isSootExplained_24 ?_
      refine ab_iload_n (i := 1) dX1_isSootExplained_27 rfl rfl ?_
      refine ab_callV (b := 43) (As := [.int x1]) ht (Y_X3_step) l_X1_93 in_X3_step se_X3_step (sh_k hs 43 3 (by decide) rfl) (by decide) rfl rfl ⟨(Nat.le_of_ble_eq_true rfl), (Nat.le_of_ble_eq_true rfl), (Nat.le_of_ble_eq_true rfl), (Nat.le_of_ble_eq_true rfl)⟩ dX1_isSootExplained_28 ?_
      rintro _ h6 ⟨v8, rfl, hs7, ht⟩
      refine ab_istore_n (i := 2) (L' := [some (.ref 62), some (.int x1), some (.int v8)]) dX1_isSootExplained_31 rfl (by exact (Nat.le_of_ble_eq_true rfl)) rfl rfl ?_
      refine ab_aload_n (i := 0) dX1_isSootExplained_32 rfl rfl ?_
      refine ab_getR (b := 72) f_X1_56 rfl (sh_k hs7 62 1 (by decide) rfl) (sh_r hs7 84 rfl) dX1_isSootExplained_33 ?_
      refine ab_iload_n (i := 1) dX1_isSootExplained_36 rfl rfl ?_
      obtain ⟨hc9, ht⟩ := ht
      refine ab_iald (sh_k hs7 72 14 (by decide) rfl) hc9 dX1_isSootExplained_37 ?_
      refine ab_iload_n (i := 2) dX1_isSootExplained_38 rfl rfl ?_
      refine ab_iconst (v := (-1)) dX1_isSootExplained_39 (by decide) ?_
      refine ab_ixor dX1_isSootExplained_40 ?_
      refine ab_iand dX1_isSootExplained_41 ?_
      refine ab_aload_n (i := 0) dX1_isSootExplained_42 rfl rfl ?_
      refine ab_getR (b := 73) f_X1_59 rfl (sh_k hs7 62 1 (by decide) rfl) (sh_r hs7 85 rfl) dX1_isSootExplained_43 ?_
      refine ab_iload_n (i := 1) dX1_isSootExplained_46 rfl rfl ?_
      obtain ⟨hc10, ht⟩ := ht
      refine ab_iald (sh_k hs7 73 14 (by decide) rfl) hc10 dX1_isSootExplained_47 ?_
      refine ab_iload_n (i := 2) dX1_isSootExplained_48 rfl rfl ?_
      refine ab_iand dX1_isSootExplained_49 ?_
      refine ab_ior dX1_isSootExplained_50 ?_
      refine ab_if_eq (tgt := 56) dX1_isSootExplained_51 (by decide) (fun c11 => ?_) (fun c11 => ?_)
      · have ht := ht.1 c11
        refine ab_iinc (i := 1) (x := x1) (v := (x1 + 1)) (L' := [some (.ref 62), some (.int (x1 + 1)), some (.int v8)]) dX1_isSootExplained_56 rfl rfl (by exact (Nat.le_of_ble_eq_true rfl)) rfl rfl ?_
        refine ab_goto (tgt := 9) dX1_isSootExplained_59 (by decide) ?_
        exact Wp.fewer (L' := [some (.ref 62), some (.int (x1 + 1)), none]) (show ab_leL _ _ from ⟨rfl, ⟨rfl, trivial⟩⟩) ht
      · have ht := ht.2 c11
        refine ab_iconst (v := 0) dX1_isSootExplained_54 (by decide) ?_
        exact ab_zret rfl rfl dX1_isSootExplained_55 (Nat.le_of_ble_eq_true rfl) (Nat.le_of_ble_eq_true rfl) ht
set_option maxRecDepth 20000 in
theorem T_X1_isSootExplained {Q : Option Value → ah_T → Prop} {h : ah_T} (hs : Sh h)  (ht : (Mt mX3_restart [.ref 43] h (ab_qv fun h1 => Sh h1 ∧ Wp mX1_isSootExplained Q 0 0 9 [some (.ref 62), some (.int 0), none] [] h1))) : Mt mX1_isSootExplained [.ref 62] h Q := by
  refine Mt.ofWp rfl (by exact (Nat.le_of_ble_eq_true rfl)) (Wp.fewer (L' := [some (.ref 62), none, none]) (show ab_leL _ _ from ⟨rfl, trivial⟩) ?_)
  refine ab_aload_n (i := 0) dX1_isSootExplained_0 rfl rfl ?_
  refine ab_getR (b := 43) f_X1_73 rfl (sh_k hs 62 1 (by decide) rfl) (sh_r hs 81 rfl) dX1_isSootExplained_1 ?_
  refine ab_callV (b := 43) (As := []) ht (Y_X3_restart) l_X1_83 in_X3_restart se_X3_restart (sh_k hs 43 3 (by decide) rfl) (by decide) rfl rfl ⟨(Nat.le_of_ble_eq_true rfl), (Nat.le_of_ble_eq_true rfl), (Nat.le_of_ble_eq_true rfl), (Nat.le_of_ble_eq_true rfl)⟩ dX1_isSootExplained_4 ?_
  rintro _ h1 ⟨rfl, hs2, ht⟩
  refine ab_iconst (v := 0) dX1_isSootExplained_7 (by decide) ?_
  refine ab_istore_n (i := 1) (L' := [some (.ref 62), some (.int 0), none]) dX1_isSootExplained_8 rfl (by exact (Nat.le_of_ble_eq_true rfl)) rfl rfl ?_
  exact Wp.fewer (L' := [some (.ref 62), some (.int 0), none]) (show ab_leL _ _ from ⟨rfl, ⟨rfl, trivial⟩⟩) ht
