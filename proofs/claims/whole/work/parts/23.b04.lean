/-! ===== blocks of methods (printed by wip/whole/mkall.py) ===== -/
theorem dX4_forget_0 : decode cX4_forget 0 = .ok (.aload_n 0, 1) := by decide +kernel
theorem dX4_forget_1 : decode cX4_forget 1 = .ok (.getfield 28, 3) := by decide +kernel
theorem dX4_forget_4 : decode cX4_forget 4 = .ok (.iconst 0, 1) := by decide +kernel
theorem dX4_forget_5 : decode cX4_forget 5 = .ok (.iconst (-1), 1) := by decide +kernel
theorem dX4_forget_6 : decode cX4_forget 6 = .ok (.iastore, 1) := by decide +kernel
theorem dX4_forget_7 : decode cX4_forget 7 = .ok (.aload_n 0, 1) := by decide +kernel
theorem dX4_forget_8 : decode cX4_forget 8 = .ok (.iconst 0, 1) := by decide +kernel
theorem dX4_forget_9 : decode cX4_forget 9 = .ok (.putfield 37, 3) := by decide +kernel
theorem dX4_forget_12 : decode cX4_forget 12 = .ok (.return_, 1) := by decide +kernel
set_option maxRecDepth 20000 in
theorem T_X4_forget {Q : Option Value → ah_T → Prop} {h : ah_T} (hs : Sh h)  (ht : (∀ h1, h1 = ah_si h 76 (Int32.toNatClampNeg 0) (-1) → (∀ h4, h4 = ah_si h1 74 12 0 → Q none h4))) : Mt mX4_forget [.ref 74] h Q := by
  refine Mt.ofWp rfl (by exact (Nat.le_of_ble_eq_true rfl)) (Wp.fewer (L' := [some (.ref 74)]) (show ab_leL _ _ from ⟨rfl, trivial⟩) ?_)
  refine ab_aload_n (i := 0) dX4_forget_0 rfl rfl ?_
  refine ab_getR (b := 76) f_X4_28 rfl (sh_k hs 74 4 (by decide) rfl) (sh_r hs 93 rfl) dX4_forget_1 ?_
  refine ab_iconst (v := 0) dX4_forget_4 (by decide) ?_
  refine ab_iconst (v := (-1)) dX4_forget_5 (by decide) ?_
  refine ab_iast (sh_k hs 76 14 (by decide) rfl) (sh_in hs 76 4 (by decide) (by decide) rfl (by unfold vp_in; decide)) dX4_forget_6 ?_
  refine Wp.nm fun h1 e2 => ?_
  have ht := ht h1 e2
  have hs3 : Sh h1 := by rw [e2]; exact sh_si hs
  refine ab_aload_n (i := 0) dX4_forget_7 rfl rfl ?_
  refine ab_iconst (v := 0) dX4_forget_8 (by decide) ?_
  refine ab_putI f_X4_37 (Or.inl rfl) rfl (sh_k hs3 74 4 (by decide) rfl) rfl rfl dX4_forget_9 ?_
  refine Wp.nm fun h4 e5 => ?_
  have ht := ht h4 e5
  have hs6 : Sh h4 := by rw [e5]; exact sh_si hs3
  exact ab_vret rfl dX4_forget_12 (Nat.le_of_ble_eq_true rfl) (Nat.le_of_ble_eq_true rfl) ht
theorem dX4_placeOf_0 : decode cX4_placeOf 0 = .ok (.iconst 0, 1) := by decide +kernel
theorem dX4_placeOf_1 : decode cX4_placeOf 1 = .ok (.istore_n 2, 1) := by decide +kernel
theorem dX4_placeOf_2 : decode cX4_placeOf 2 = .ok (.iconst 0, 1) := by decide +kernel
theorem dX4_placeOf_3 : decode cX4_placeOf 3 = .ok (.istore_n 3, 1) := by decide +kernel
theorem dX4_placeOf_4 : decode cX4_placeOf 4 = .ok (.iload_n 3, 1) := by decide +kernel
theorem dX4_placeOf_5 : decode cX4_placeOf 5 = .ok (.bipush 20, 2) := by decide +kernel
theorem dX4_placeOf_7 : decode cX4_placeOf 7 = .ok (.if_icmp .ge 30, 3) := by decide +kernel
theorem dX4_placeOf_10 : decode cX4_placeOf 10 = .ok (.iload_n 0, 1) := by decide +kernel
theorem dX4_placeOf_11 : decode cX4_placeOf 11 = .ok (.iload_n 3, 1) := by decide +kernel
theorem dX4_placeOf_12 : decode cX4_placeOf 12 = .ok (.ishr, 1) := by decide +kernel
theorem dX4_placeOf_13 : decode cX4_placeOf 13 = .ok (.iconst 1, 1) := by decide +kernel
theorem dX4_placeOf_14 : decode cX4_placeOf 14 = .ok (.iand, 1) := by decide +kernel
theorem dX4_placeOf_15 : decode cX4_placeOf 15 = .ok (.ifCond .ne 6, 3) := by decide +kernel
theorem dX4_placeOf_18 : decode cX4_placeOf 18 = .ok (.goto 13, 3) := by decide +kernel
theorem dX4_placeOf_21 : decode cX4_placeOf 21 = .ok (.iload_n 2, 1) := by decide +kernel
theorem dX4_placeOf_22 : decode cX4_placeOf 22 = .ok (.iload_n 1, 1) := by decide +kernel
theorem dX4_placeOf_23 : decode cX4_placeOf 23 = .ok (.if_icmp .ne 5, 3) := by decide +kernel
theorem dX4_placeOf_26 : decode cX4_placeOf 26 = .ok (.iload_n 3, 1) := by decide +kernel
theorem dX4_placeOf_27 : decode cX4_placeOf 27 = .ok (.ireturn, 1) := by decide +kernel
theorem dX4_placeOf_28 : decode cX4_placeOf 28 = .ok (.iinc 2 1, 3) := by decide +kernel
theorem dX4_placeOf_31 : decode cX4_placeOf 31 = .ok (.iinc 3 1, 3) := by decide +kernel
theorem dX4_placeOf_34 : decode cX4_placeOf 34 = .ok (.goto (-30), 3) := by decide +kernel
theorem dX4_placeOf_37 : decode cX4_placeOf 37 = .ok (.iconst (-1), 1) := by decide +kernel
theorem dX4_placeOf_38 : decode cX4_placeOf 38 = .ok (.ireturn, 1) := by decide +kernel
set_option maxRecDepth 20000 in
theorem T_X4_placeOf_4 {Q : Option Value → ah_T → Prop} {h : ah_T} (hs : Sh h) (x0 : Int32) (x1 : Int32) (x2 : Int32) (x3 : Int32) (ht : ((20 ≤ x3 → Q (some (.int (-1))) h) ∧ (¬ 20 ≤ x3 → ((¬ ((x0 >>> (x3 &&& 31)) &&& 1) = 0 → ((¬ x2 = x1 → Wp mX4_placeOf Q 0 0 4 [some (.int x0), some (.int x1), some (.int (x2 + 1)), some (.int (x3 + 1))] [] h) ∧ (x2 = x1 → Q (some (.int x3)) h))) ∧ (((x0 >>> (x3 &&& 31)) &&& 1) = 0 → Wp mX4_placeOf Q 0 0 4 [some (.int x0), some (.int x1), some (.int x2), some (.int (x3 + 1))] [] h))))) : Wp mX4_placeOf Q 0 0 4 [some (.int x0), some (.int x1), some (.int x2), some (.int x3)] [] h := by
  refine ab_iload_n (i := 3) dX4_placeOf_4 rfl rfl ?_
  refine ab_bipush (v := 20) dX4_placeOf_5 (by decide) ?_
  refine ab_icmp_ge (tgt := 37) dX4_placeOf_7 (by decide) (fun c1 => ?_) (fun c1 => ?_)
  · have ht := ht.1 c1
    refine ab_iconst (v := (-1)) dX4_placeOf_37 (by decide) ?_
    exact ab_iret rfl dX4_placeOf_38 (Nat.le_of_ble_eq_true rfl) (Nat.le_of_ble_eq_true rfl) ht
  · have ht := ht.2 c1
    refine ab_iload_n (i := 0) dX4_placeOf_10 rfl rfl ?_
    refine ab_iload_n (i := 3) dX4_placeOf_11 rfl rfl ?_
    refine ab_ishr dX4_placeOf_12 ?_
    refine ab_iconst (v := 1) dX4_placeOf_13 (by decide) ?_
    refine ab_iand dX4_placeOf_14 ?_
    refine ab_if_ne (tgt := 21) dX4_placeOf_15 (by decide) (fun c2 => ?_) (fun c2 => ?_)
    · have ht := ht.1 c2
      refine ab_iload_n (i := 2) dX4_placeOf_21 rfl rfl ?_
      refine ab_iload_n (i := 1) dX4_placeOf_22 rfl rfl ?_
      refine ab_icmp_ne (tgt := 28) dX4_placeOf_23 (by decide) (fun c3 => ?_) (fun c3 => ?_)
      · have ht := ht.1 c3
        refine ab_iinc (i := 2) (x := x2) (v := (x2 + 1)) (L' := [some (.int x0), some (.int x1), some (.int (x2 + 1)), some (.int x3)]) dX4_placeOf_28 rfl rfl (by exact (Nat.le_of_ble_eq_true rfl)) rfl rfl ?_
        refine ab_iinc (i := 3) (x := x3) (v := (x3 + 1)) (L' := [some (.int x0), some (.int x1), some (.int (x2 + 1)), some (.int (x3 + 1))]) dX4_placeOf_31 rfl rfl (by exact (Nat.le_of_ble_eq_true rfl)) rfl rfl ?_
        refine ab_goto (tgt := 4) dX4_placeOf_34 (by decide) ?_
        exact Wp.fewer (L' := [some (.int x0), some (.int x1), some (.int (x2 + 1)), some (.int (x3 + 1))]) (show ab_leL _ _ from ⟨rfl, ⟨rfl, ⟨rfl, ⟨rfl, trivial⟩⟩⟩⟩) ht
      · have ht := ht.2 c3
        refine ab_iload_n (i := 3) dX4_placeOf_26 rfl rfl ?_
        exact ab_iret rfl dX4_placeOf_27 (Nat.le_of_ble_eq_true rfl) (Nat.le_of_ble_eq_true rfl) ht
    · have ht := ht.2 c2
      refine ab_goto (tgt := 31) dX4_placeOf_18 (by decide) ?_
      refine ab_iinc (i := 3) (x := x3) (v := (x3 + 1)) (L' := [some (.int x0), some (.int x1), some (.int x2), some (.int (x3 + 1))]) dX4_placeOf_31 rfl rfl (by exact (Nat.le_of_ble_eq_true rfl)) rfl rfl ?_
      refine ab_goto (tgt := 4) dX4_placeOf_34 (by decide) ?_
      exact Wp.fewer (L' := [some (.int x0), some (.int x1), some (.int x2), some (.int (x3 + 1))]) (show ab_leL _ _ from ⟨rfl, ⟨rfl, ⟨rfl, ⟨rfl, trivial⟩⟩⟩⟩) ht
set_option maxRecDepth 20000 in
theorem T_X4_placeOf {Q : Option Value → ah_T → Prop} {h : ah_T} (hs : Sh h) (x0 : Int32) (x1 : Int32) (ht : Wp mX4_placeOf Q 0 0 4 [some (.int x0), some (.int x1), some (.int 0), some (.int 0)] [] h) : Mt mX4_placeOf [.int x0, .int x1] h Q := by
  refine Mt.ofWp rfl (by exact (Nat.le_of_ble_eq_true rfl)) (Wp.fewer (L' := [some (.int x0), some (.int x1), none, none]) (show ab_leL _ _ from ⟨rfl, ⟨rfl, trivial⟩⟩) ?_)
  refine ab_iconst (v := 0) dX4_placeOf_0 (by decide) ?_
  refine ab_istore_n (i := 2) (L' := [some (.int x0), some (.int x1), some (.int 0), none]) dX4_placeOf_1 rfl (by exact (Nat.le_of_ble_eq_true rfl)) rfl rfl ?_
  refine ab_iconst (v := 0) dX4_placeOf_2 (by decide) ?_
  refine ab_istore_n (i := 3) (L' := [some (.int x0), some (.int x1), some (.int 0), some (.int 0)]) dX4_placeOf_3 rfl (by exact (Nat.le_of_ble_eq_true rfl)) rfl rfl ?_
  exact Wp.fewer (L' := [some (.int x0), some (.int x1), some (.int 0), some (.int 0)]) (show ab_leL _ _ from ⟨rfl, ⟨rfl, ⟨rfl, ⟨rfl, trivial⟩⟩⟩⟩) ht
theorem dX4_findHanging_0 : decode cX4_findHanging 0 = .ok (.aload_n 0, 1) := by decide +kernel
theorem dX4_findHanging_1 : decode cX4_findHanging 1 = .ok (.getfield 28, 3) := by decide +kernel
theorem dX4_findHanging_4 : decode cX4_findHanging 4 = .ok (.iconst 0, 1) := by decide +kernel
theorem dX4_findHanging_5 : decode cX4_findHanging 5 = .ok (.iaload, 1) := by decide +kernel
theorem dX4_findHanging_6 : decode cX4_findHanging 6 = .ok (.iload_n 1, 1) := by decide +kernel
theorem dX4_findHanging_7 : decode cX4_findHanging 7 = .ok (.if_icmp .ne 35, 3) := by decide +kernel
theorem dX4_findHanging_10 : decode cX4_findHanging 10 = .ok (.aload_n 0, 1) := by decide +kernel
theorem dX4_findHanging_11 : decode cX4_findHanging 11 = .ok (.getfield 28, 3) := by decide +kernel
theorem dX4_findHanging_14 : decode cX4_findHanging 14 = .ok (.iconst 1, 1) := by decide +kernel
theorem dX4_findHanging_15 : decode cX4_findHanging 15 = .ok (.iaload, 1) := by decide +kernel
theorem dX4_findHanging_16 : decode cX4_findHanging 16 = .ok (.iload_n 2, 1) := by decide +kernel
theorem dX4_findHanging_17 : decode cX4_findHanging 17 = .ok (.if_icmp .ne 25, 3) := by decide +kernel
theorem dX4_findHanging_20 : decode cX4_findHanging 20 = .ok (.aload_n 0, 1) := by decide +kernel
theorem dX4_findHanging_21 : decode cX4_findHanging 21 = .ok (.getfield 28, 3) := by decide +kernel
theorem dX4_findHanging_24 : decode cX4_findHanging 24 = .ok (.iconst 2, 1) := by decide +kernel
theorem dX4_findHanging_25 : decode cX4_findHanging 25 = .ok (.iaload, 1) := by decide +kernel
theorem dX4_findHanging_26 : decode cX4_findHanging 26 = .ok (.iload_n 3, 1) := by decide +kernel
theorem dX4_findHanging_27 : decode cX4_findHanging 27 = .ok (.if_icmp .ne 15, 3) := by decide +kernel
theorem dX4_findHanging_30 : decode cX4_findHanging 30 = .ok (.aload_n 0, 1) := by decide +kernel
theorem dX4_findHanging_31 : decode cX4_findHanging 31 = .ok (.getfield 28, 3) := by decide +kernel
theorem dX4_findHanging_34 : decode cX4_findHanging 34 = .ok (.iconst 3, 1) := by decide +kernel
theorem dX4_findHanging_35 : decode cX4_findHanging 35 = .ok (.iaload, 1) := by decide +kernel
theorem dX4_findHanging_36 : decode cX4_findHanging 36 = .ok (.iload 4, 2) := by decide +kernel
theorem dX4_findHanging_38 : decode cX4_findHanging 38 = .ok (.if_icmp .ne 4, 3) := by decide +kernel
theorem dX4_findHanging_41 : decode cX4_findHanging 41 = .ok (.return_, 1) := by decide +kernel
theorem dX4_findHanging_42 : decode cX4_findHanging 42 = .ok (.aload_n 0, 1) := by decide +kernel
theorem dX4_findHanging_43 : decode cX4_findHanging 43 = .ok (.getfield 28, 3) := by decide +kernel
theorem dX4_findHanging_46 : decode cX4_findHanging 46 = .ok (.iconst 0, 1) := by decide +kernel
theorem dX4_findHanging_47 : decode cX4_findHanging 47 = .ok (.iload_n 1, 1) := by decide +kernel
theorem dX4_findHanging_48 : decode cX4_findHanging 48 = .ok (.iastore, 1) := by decide +kernel
theorem dX4_findHanging_49 : decode cX4_findHanging 49 = .ok (.aload_n 0, 1) := by decide +kernel
theorem dX4_findHanging_50 : decode cX4_findHanging 50 = .ok (.getfield 28, 3) := by decide +kernel
theorem dX4_findHanging_53 : decode cX4_findHanging 53 = .ok (.iconst 1, 1) := by decide +kernel
theorem dX4_findHanging_54 : decode cX4_findHanging 54 = .ok (.iload_n 2, 1) := by decide +kernel
theorem dX4_findHanging_55 : decode cX4_findHanging 55 = .ok (.iastore, 1) := by decide +kernel
theorem dX4_findHanging_56 : decode cX4_findHanging 56 = .ok (.aload_n 0, 1) := by decide +kernel
theorem dX4_findHanging_57 : decode cX4_findHanging 57 = .ok (.getfield 28, 3) := by decide +kernel
theorem dX4_findHanging_60 : decode cX4_findHanging 60 = .ok (.iconst 2, 1) := by decide +kernel
theorem dX4_findHanging_61 : decode cX4_findHanging 61 = .ok (.iload_n 3, 1) := by decide +kernel
theorem dX4_findHanging_62 : decode cX4_findHanging 62 = .ok (.iastore, 1) := by decide +kernel
theorem dX4_findHanging_63 : decode cX4_findHanging 63 = .ok (.aload_n 0, 1) := by decide +kernel
theorem dX4_findHanging_64 : decode cX4_findHanging 64 = .ok (.getfield 28, 3) := by decide +kernel
theorem dX4_findHanging_67 : decode cX4_findHanging 67 = .ok (.iconst 3, 1) := by decide +kernel
theorem dX4_findHanging_68 : decode cX4_findHanging 68 = .ok (.iload 4, 2) := by decide +kernel
theorem dX4_findHanging_70 : decode cX4_findHanging 70 = .ok (.iastore, 1) := by decide +kernel
theorem dX4_findHanging_71 : decode cX4_findHanging 71 = .ok (.bipush 6, 2) := by decide +kernel
theorem dX4_findHanging_73 : decode cX4_findHanging 73 = .ok (.iload_n 1, 1) := by decide +kernel
theorem dX4_findHanging_74 : decode cX4_findHanging 74 = .ok (.invokestatic 66, 3) := by decide +kernel
theorem dX4_findHanging_77 : decode cX4_findHanging 77 = .ok (.invokestatic 72, 3) := by decide +kernel
theorem dX4_findHanging_80 : decode cX4_findHanging 80 = .ok (.istore 5, 2) := by decide +kernel
theorem dX4_findHanging_82 : decode cX4_findHanging 82 = .ok (.iconst 3, 1) := by decide +kernel
theorem dX4_findHanging_83 : decode cX4_findHanging 83 = .ok (.iload_n 2, 1) := by decide +kernel
theorem dX4_findHanging_84 : decode cX4_findHanging 84 = .ok (.invokestatic 66, 3) := by decide +kernel
theorem dX4_findHanging_87 : decode cX4_findHanging 87 = .ok (.invokestatic 72, 3) := by decide +kernel
theorem dX4_findHanging_90 : decode cX4_findHanging 90 = .ok (.iconst 1, 1) := by decide +kernel
theorem dX4_findHanging_91 : decode cX4_findHanging 91 = .ok (.iadd, 1) := by decide +kernel
theorem dX4_findHanging_92 : decode cX4_findHanging 92 = .ok (.istore 6, 2) := by decide +kernel
theorem dX4_findHanging_94 : decode cX4_findHanging 94 = .ok (.aload_n 0, 1) := by decide +kernel
theorem dX4_findHanging_95 : decode cX4_findHanging 95 = .ok (.iload_n 1, 1) := by decide +kernel
theorem dX4_findHanging_96 : decode cX4_findHanging 96 = .ok (.iload_n 2, 1) := by decide +kernel
theorem dX4_findHanging_97 : decode cX4_findHanging 97 = .ok (.iload 4, 2) := by decide +kernel
theorem dX4_findHanging_99 : decode cX4_findHanging 99 = .ok (.invokevirtual 78, 3) := by decide +kernel
theorem dX4_findHanging_102 : decode cX4_findHanging 102 = .ok (.aload_n 0, 1) := by decide +kernel
theorem dX4_findHanging_103 : decode cX4_findHanging 103 = .ok (.iload 5, 2) := by decide +kernel
theorem dX4_findHanging_105 : decode cX4_findHanging 105 = .ok (.iconst 1, 1) := by decide +kernel
theorem dX4_findHanging_106 : decode cX4_findHanging 106 = .ok (.iadd, 1) := by decide +kernel
theorem dX4_findHanging_107 : decode cX4_findHanging 107 = .ok (.putfield 9, 3) := by decide +kernel
theorem dX4_findHanging_110 : decode cX4_findHanging 110 = .ok (.aload_n 0, 1) := by decide +kernel
theorem dX4_findHanging_111 : decode cX4_findHanging 111 = .ok (.iconst 0, 1) := by decide +kernel
theorem dX4_findHanging_112 : decode cX4_findHanging 112 = .ok (.putfield 15, 3) := by decide +kernel
theorem dX4_findHanging_115 : decode cX4_findHanging 115 = .ok (.iconst 1, 1) := by decide +kernel
theorem dX4_findHanging_116 : decode cX4_findHanging 116 = .ok (.istore 7, 2) := by decide +kernel
theorem dX4_findHanging_118 : decode cX4_findHanging 118 = .ok (.iconst 0, 1) := by decide +kernel
theorem dX4_findHanging_119 : decode cX4_findHanging 119 = .ok (.istore 8, 2) := by decide +kernel
theorem dX4_findHanging_121 : decode cX4_findHanging 121 = .ok (.iload 8, 2) := by decide +kernel
theorem dX4_findHanging_123 : decode cX4_findHanging 123 = .ok (.iload 5, 2) := by decide +kernel
theorem dX4_findHanging_125 : decode cX4_findHanging 125 = .ok (.if_icmp .ge 16, 3) := by decide +kernel
theorem dX4_findHanging_128 : decode cX4_findHanging 128 = .ok (.iload 7, 2) := by decide +kernel
theorem dX4_findHanging_130 : decode cX4_findHanging 130 = .ok (.iload 6, 2) := by decide +kernel
theorem dX4_findHanging_132 : decode cX4_findHanging 132 = .ok (.imul, 1) := by decide +kernel
theorem dX4_findHanging_133 : decode cX4_findHanging 133 = .ok (.istore 7, 2) := by decide +kernel
theorem dX4_findHanging_135 : decode cX4_findHanging 135 = .ok (.iinc 8 1, 3) := by decide +kernel
theorem dX4_findHanging_138 : decode cX4_findHanging 138 = .ok (.goto (-17), 3) := by decide +kernel
theorem dX4_findHanging_141 : decode cX4_findHanging 141 = .ok (.iconst 0, 1) := by decide +kernel
theorem dX4_findHanging_142 : decode cX4_findHanging 142 = .ok (.istore 8, 2) := by decide +kernel
theorem dX4_findHanging_144 : decode cX4_findHanging 144 = .ok (.iload 8, 2) := by decide +kernel
theorem dX4_findHanging_146 : decode cX4_findHanging 146 = .ok (.iload 7, 2) := by decide +kernel
theorem dX4_findHanging_148 : decode cX4_findHanging 148 = .ok (.if_icmp .ge 144, 3) := by decide +kernel
theorem dX4_findHanging_151 : decode cX4_findHanging 151 = .ok (.aload_n 0, 1) := by decide +kernel
theorem dX4_findHanging_152 : decode cX4_findHanging 152 = .ok (.iload 8, 2) := by decide +kernel
theorem dX4_findHanging_154 : decode cX4_findHanging 154 = .ok (.iload 7, 2) := by decide +kernel
theorem dX4_findHanging_156 : decode cX4_findHanging 156 = .ok (.iload 6, 2) := by decide +kernel
theorem dX4_findHanging_158 : decode cX4_findHanging 158 = .ok (.iload_n 3, 1) := by decide +kernel
theorem dX4_findHanging_159 : decode cX4_findHanging 159 = .ok (.invokevirtual 82, 3) := by decide +kernel
theorem dX4_findHanging_162 : decode cX4_findHanging 162 = .ok (.istore 9, 2) := by decide +kernel
theorem dX4_findHanging_164 : decode cX4_findHanging 164 = .ok (.iload 9, 2) := by decide +kernel
theorem dX4_findHanging_166 : decode cX4_findHanging 166 = .ok (.iconst (-1), 1) := by decide +kernel
theorem dX4_findHanging_167 : decode cX4_findHanging 167 = .ok (.if_icmp .eq 119, 3) := by decide +kernel
theorem dX4_findHanging_170 : decode cX4_findHanging 170 = .ok (.iload 9, 2) := by decide +kernel
theorem dX4_findHanging_172 : decode cX4_findHanging 172 = .ok (.aload_n 0, 1) := by decide +kernel
theorem dX4_findHanging_173 : decode cX4_findHanging 173 = .ok (.getfield 9, 3) := by decide +kernel
theorem dX4_findHanging_176 : decode cX4_findHanging 176 = .ok (.if_icmp .le 6, 3) := by decide +kernel
theorem dX4_findHanging_179 : decode cX4_findHanging 179 = .ok (.goto 107, 3) := by decide +kernel
theorem dX4_findHanging_182 : decode cX4_findHanging 182 = .ok (.iload 9, 2) := by decide +kernel
theorem dX4_findHanging_184 : decode cX4_findHanging 184 = .ok (.aload_n 0, 1) := by decide +kernel
theorem dX4_findHanging_185 : decode cX4_findHanging 185 = .ok (.getfield 9, 3) := by decide +kernel
theorem dX4_findHanging_188 : decode cX4_findHanging 188 = .ok (.if_icmp .ne 16, 3) := by decide +kernel
theorem dX4_findHanging_191 : decode cX4_findHanging 191 = .ok (.aload_n 0, 1) := by decide +kernel
theorem dX4_findHanging_192 : decode cX4_findHanging 192 = .ok (.dup, 1) := by decide +kernel
theorem dX4_findHanging_193 : decode cX4_findHanging 193 = .ok (.getfield 15, 3) := by decide +kernel
theorem dX4_findHanging_196 : decode cX4_findHanging 196 = .ok (.iconst 1, 1) := by decide +kernel
theorem dX4_findHanging_197 : decode cX4_findHanging 197 = .ok (.iadd, 1) := by decide +kernel
theorem dX4_findHanging_198 : decode cX4_findHanging 198 = .ok (.putfield 15, 3) := by decide +kernel
theorem dX4_findHanging_201 : decode cX4_findHanging 201 = .ok (.goto 85, 3) := by decide +kernel
theorem dX4_findHanging_204 : decode cX4_findHanging 204 = .ok (.aload_n 0, 1) := by decide +kernel
theorem dX4_findHanging_205 : decode cX4_findHanging 205 = .ok (.iload 9, 2) := by decide +kernel
theorem dX4_findHanging_207 : decode cX4_findHanging 207 = .ok (.putfield 9, 3) := by decide +kernel
theorem dX4_findHanging_210 : decode cX4_findHanging 210 = .ok (.aload_n 0, 1) := by decide +kernel
theorem dX4_findHanging_211 : decode cX4_findHanging 211 = .ok (.iconst 1, 1) := by decide +kernel
theorem dX4_findHanging_212 : decode cX4_findHanging 212 = .ok (.putfield 15, 3) := by decide +kernel
theorem dX4_findHanging_215 : decode cX4_findHanging 215 = .ok (.iload 7, 2) := by decide +kernel
theorem dX4_findHanging_217 : decode cX4_findHanging 217 = .ok (.istore 10, 2) := by decide +kernel
theorem dX4_findHanging_219 : decode cX4_findHanging 219 = .ok (.iconst 0, 1) := by decide +kernel
theorem dX4_findHanging_220 : decode cX4_findHanging 220 = .ok (.istore 11, 2) := by decide +kernel
theorem dX4_findHanging_222 : decode cX4_findHanging 222 = .ok (.iload 11, 2) := by decide +kernel
theorem dX4_findHanging_224 : decode cX4_findHanging 224 = .ok (.iload 5, 2) := by decide +kernel
theorem dX4_findHanging_226 : decode cX4_findHanging 226 = .ok (.if_icmp .ge 60, 3) := by decide +kernel
theorem dX4_findHanging_229 : decode cX4_findHanging 229 = .ok (.iload 10, 2) := by decide +kernel
theorem dX4_findHanging_231 : decode cX4_findHanging 231 = .ok (.iload 6, 2) := by decide +kernel
theorem dX4_findHanging_233 : decode cX4_findHanging 233 = .ok (.idiv, 1) := by decide +kernel
theorem dX4_findHanging_234 : decode cX4_findHanging 234 = .ok (.istore 10, 2) := by decide +kernel
theorem dX4_findHanging_236 : decode cX4_findHanging 236 = .ok (.iload 10, 2) := by decide +kernel
theorem dX4_findHanging_238 : decode cX4_findHanging 238 = .ok (.ifCond .ne 7, 3) := by decide +kernel
theorem dX4_findHanging_241 : decode cX4_findHanging 241 = .ok (.iconst 0, 1) := by decide +kernel
theorem dX4_findHanging_242 : decode cX4_findHanging 242 = .ok (.goto 11, 3) := by decide +kernel
theorem dX4_findHanging_245 : decode cX4_findHanging 245 = .ok (.iload 8, 2) := by decide +kernel
theorem dX4_findHanging_247 : decode cX4_findHanging 247 = .ok (.iload 10, 2) := by decide +kernel
theorem dX4_findHanging_249 : decode cX4_findHanging 249 = .ok (.idiv, 1) := by decide +kernel
theorem dX4_findHanging_250 : decode cX4_findHanging 250 = .ok (.iload 6, 2) := by decide +kernel
theorem dX4_findHanging_252 : decode cX4_findHanging 252 = .ok (.irem, 1) := by decide +kernel
theorem dX4_findHanging_253 : decode cX4_findHanging 253 = .ok (.istore 12, 2) := by decide +kernel
theorem dX4_findHanging_255 : decode cX4_findHanging 255 = .ok (.aload_n 0, 1) := by decide +kernel
theorem dX4_findHanging_256 : decode cX4_findHanging 256 = .ok (.getfield 18, 3) := by decide +kernel
theorem dX4_findHanging_259 : decode cX4_findHanging 259 = .ok (.iload 11, 2) := by decide +kernel
theorem dX4_findHanging_261 : decode cX4_findHanging 261 = .ok (.iload 12, 2) := by decide +kernel
theorem dX4_findHanging_263 : decode cX4_findHanging 263 = .ok (.ifCond .ne 8, 3) := by decide +kernel
theorem dX4_findHanging_266 : decode cX4_findHanging 266 = .ok (.bipush 100, 2) := by decide +kernel
theorem dX4_findHanging_268 : decode cX4_findHanging 268 = .ok (.goto 11, 3) := by decide +kernel
theorem dX4_findHanging_271 : decode cX4_findHanging 271 = .ok (.iload_n 2, 1) := by decide +kernel
theorem dX4_findHanging_272 : decode cX4_findHanging 272 = .ok (.iload 12, 2) := by decide +kernel
theorem dX4_findHanging_274 : decode cX4_findHanging 274 = .ok (.iconst 1, 1) := by decide +kernel
theorem dX4_findHanging_275 : decode cX4_findHanging 275 = .ok (.isub, 1) := by decide +kernel
theorem dX4_findHanging_276 : decode cX4_findHanging 276 = .ok (.invokestatic 86, 3) := by decide +kernel
theorem dX4_findHanging_279 : decode cX4_findHanging 279 = .ok (.iastore, 1) := by decide +kernel
theorem dX4_findHanging_280 : decode cX4_findHanging 280 = .ok (.iinc 11 1, 3) := by decide +kernel
theorem dX4_findHanging_283 : decode cX4_findHanging 283 = .ok (.goto (-61), 3) := by decide +kernel
theorem dX4_findHanging_286 : decode cX4_findHanging 286 = .ok (.iinc 8 1, 3) := by decide +kernel
theorem dX4_findHanging_289 : decode cX4_findHanging 289 = .ok (.goto (-145), 3) := by decide +kernel
theorem dX4_findHanging_292 : decode cX4_findHanging 292 = .ok (.return_, 1) := by decide +kernel
set_option maxRecDepth 20000 in
theorem T_X4_findHanging_42 {Q : Option Value → ah_T → Prop} {h : ah_T} (hs : Sh h) (x1 : Int32) (x2 : Int32) (x3 : Int32) (x4 : Int32) (ht : (∀ h5, h5 = ah_si h 76 (Int32.toNatClampNeg 0) x1 → (∀ h8, h8 = ah_si h5 76 (Int32.toNatClampNeg 1) x2 → (∀ h11, h11 = ah_si h8 76 (Int32.toNatClampNeg 2) x3 → (∀ h14, h14 = ah_si h11 76 (Int32.toNatClampNeg 3) x4 → (Mt mX4_weighSites [.ref 74, .int x1, .int x2, .int x4] h14 (ab_qv fun h17 => Sh h17 ∧ (∀ h20, h20 = ah_si h17 74 0 ((if (f_J6_bitCount_0f7a4 x1) < 6 then (f_J6_bitCount_0f7a4 x1) else 6) + 1) → (∀ h23, h23 = ah_si h20 74 1 0 → Wp mX4_findHanging Q 0 0 121 [some (.ref 74), none, some (.int x2), some (.int x3), none, some (.int (if (f_J6_bitCount_0f7a4 x1) < 6 then (f_J6_bitCount_0f7a4 x1) else 6)), some (.int ((if (f_J6_bitCount_0f7a4 x2) < 3 then (f_J6_bitCount_0f7a4 x2) else 3) + 1)), some (.int 1), some (.int 0), none, none, none, none] [] h23))))))))) : Wp mX4_findHanging Q 0 0 42 [some (.ref 74), some (.int x1), some (.int x2), some (.int x3), some (.int x4), none, none, none, none, none, none, none, none] [] h := by
  refine ab_aload_n (i := 0) dX4_findHanging_42 rfl rfl ?_
  refine ab_getR (b := 76) f_X4_28 rfl (sh_k hs 74 4 (by decide) rfl) (sh_r hs 93 rfl) dX4_findHanging_43 ?_
  refine ab_iconst (v := 0) dX4_findHanging_46 (by decide) ?_
  refine ab_iload_n (i := 1) dX4_findHanging_47 rfl rfl ?_
  refine ab_iast (sh_k hs 76 14 (by decide) rfl) (sh_in hs 76 4 (by decide) (by decide) rfl (by unfold vp_in; decide)) dX4_findHanging_48 ?_
  refine Wp.nm fun h5 e6 => ?_
  have ht := ht h5 e6
  have hs7 : Sh h5 := by rw [e6]; exact sh_si hs
  refine ab_aload_n (i := 0) dX4_findHanging_49 rfl rfl ?_
  refine ab_getR (b := 76) f_X4_28 rfl (sh_k hs7 74 4 (by decide) rfl) (sh_r hs7 93 rfl) dX4_findHanging_50 ?_
  refine ab_iconst (v := 1) dX4_findHanging_53 (by decide) ?_
  refine ab_iload_n (i := 2) dX4_findHanging_54 rfl rfl ?_
  refine ab_iast (sh_k hs7 76 14 (by decide) rfl) (sh_in hs7 76 4 (by decide) (by decide) rfl (by unfold vp_in; decide)) dX4_findHanging_55 ?_
  refine Wp.nm fun h8 e9 => ?_
  have ht := ht h8 e9
  have hs10 : Sh h8 := by rw [e9]; exact sh_si hs7
  refine ab_aload_n (i := 0) dX4_findHanging_56 rfl rfl ?_
  refine ab_getR (b := 76) f_X4_28 rfl (sh_k hs10 74 4 (by decide) rfl) (sh_r hs10 93 rfl) dX4_findHanging_57 ?_
  refine ab_iconst (v := 2) dX4_findHanging_60 (by decide) ?_
  refine ab_iload_n (i := 3) dX4_findHanging_61 rfl rfl ?_
  refine ab_iast (sh_k hs10 76 14 (by decide) rfl) (sh_in hs10 76 4 (by decide) (by decide) rfl (by unfold vp_in; decide)) dX4_findHanging_62 ?_
  refine Wp.nm fun h11 e12 => ?_
  have ht := ht h11 e12
  have hs13 : Sh h11 := by rw [e12]; exact sh_si hs10
  refine ab_aload_n (i := 0) dX4_findHanging_63 rfl rfl ?_
  refine ab_getR (b := 76) f_X4_28 rfl (sh_k hs13 74 4 (by decide) rfl) (sh_r hs13 93 rfl) dX4_findHanging_64 ?_
  refine ab_iconst (v := 3) dX4_findHanging_67 (by decide) ?_
  refine ab_iload (i := 4) dX4_findHanging_68 rfl ?_
  refine ab_iast (sh_k hs13 76 14 (by decide) rfl) (sh_in hs13 76 4 (by decide) (by decide) rfl (by unfold vp_in; decide)) dX4_findHanging_70 ?_
  refine Wp.nm fun h14 e15 => ?_
  have ht := ht h14 e15
  have hs16 : Sh h14 := by rw [e15]; exact sh_si hs13
  refine ab_bipush (v := 6) dX4_findHanging_71 (by decide) ?_
  refine ab_iload_n (i := 1) dX4_findHanging_73 rfl rfl ?_
  refine ab_callS (Q' := fun r h' => r = some (.int (f_J6_bitCount_0f7a4 x1)) ∧ h14 = h') (As := [.int x1]) (c_J6_bitCount_0f7a4 hs16 x1 ⟨rfl, rfl⟩) (Y_J6_bitCount_0f7a4) l_X4_66 st_J6_bitCount_0f7a4 rfl ⟨(Nat.le_of_ble_eq_true rfl), (Nat.le_of_ble_eq_true rfl), (Nat.le_of_ble_eq_true rfl), (Nat.le_of_ble_eq_true rfl)⟩ dX4_findHanging_74 ?_
  rintro _ _ ⟨rfl, rfl⟩
  refine ab_mmin (tb_6 (List.mem_of_getElem? (i := 28) (by decide +kernel)) rfl) st_mmin in_m co_mmin (Nat.le_of_ble_eq_true rfl) (Nat.le_of_ble_eq_true rfl) (Nat.le_of_ble_eq_true rfl) (Nat.le_of_ble_eq_true rfl) dX4_findHanging_77 ?_
  refine ab_istore (i := 5) (L' := [some (.ref 74), some (.int x1), some (.int x2), some (.int x3), some (.int x4), some (.int (if (f_J6_bitCount_0f7a4 x1) < 6 then (f_J6_bitCount_0f7a4 x1) else 6)), none, none, none, none, none, none, none]) dX4_findHanging_80 (by exact (Nat.le_of_ble_eq_true rfl)) rfl rfl ?_
  refine ab_iconst (v := 3) dX4_findHanging_82 (by decide) ?_
  refine ab_iload_n (i := 2) dX4_findHanging_83 rfl rfl ?_
  refine ab_callS (Q' := fun r h' => r = some (.int (f_J6_bitCount_0f7a4 x2)) ∧ h14 = h') (As := [.int x2]) (c_J6_bitCount_0f7a4 hs16 x2 ⟨rfl, rfl⟩) (Y_J6_bitCount_0f7a4) l_X4_66 st_J6_bitCount_0f7a4 rfl ⟨(Nat.le_of_ble_eq_true rfl), (Nat.le_of_ble_eq_true rfl), (Nat.le_of_ble_eq_true rfl), (Nat.le_of_ble_eq_true rfl)⟩ dX4_findHanging_84 ?_
  rintro _ _ ⟨rfl, rfl⟩
  refine ab_mmin (tb_6 (List.mem_of_getElem? (i := 28) (by decide +kernel)) rfl) st_mmin in_m co_mmin (Nat.le_of_ble_eq_true rfl) (Nat.le_of_ble_eq_true rfl) (Nat.le_of_ble_eq_true rfl) (Nat.le_of_ble_eq_true rfl) dX4_findHanging_87 ?_
  refine ab_iconst (v := 1) dX4_findHanging_90 (by decide) ?_
  refine ab_iadd dX4_findHanging_91 ?_
  refine ab_istore (i := 6) (L' := [some (.ref 74), some (.int x1), some (.int x2), some (.int x3), some (.int x4), some (.int (if (f_J6_bitCount_0f7a4 x1) < 6 then (f_J6_bitCount_0f7a4 x1) else 6)), some (.int ((if (f_J6_bitCount_0f7a4 x2) < 3 then (f_J6_bitCount_0f7a4 x2) else 3) + 1)), none, none, none, none, none, none]) dX4_findHanging_92 (by exact (Nat.le_of_ble_eq_true rfl)) rfl rfl ?_
  refine ab_aload_n (i := 0) dX4_findHanging_94 rfl rfl ?_
  refine ab_iload_n (i := 1) dX4_findHanging_95 rfl rfl ?_
  refine ab_iload_n (i := 2) dX4_findHanging_96 rfl rfl ?_
  refine ab_iload (i := 4) dX4_findHanging_97 rfl ?_
  refine ab_callV (b := 74) (As := [.int x1, .int x2, .int x4]) ht (Y_X4_weighSites) l_X4_78 in_X4_weighSites se_X4_weighSites (sh_k hs16 74 4 (by decide) rfl) (by decide) rfl rfl ⟨(Nat.le_of_ble_eq_true rfl), (Nat.le_of_ble_eq_true rfl), (Nat.le_of_ble_eq_true rfl), (Nat.le_of_ble_eq_true rfl)⟩ dX4_findHanging_99 ?_
  rintro _ h17 ⟨rfl, hs18, ht⟩
  refine ab_aload_n (i := 0) dX4_findHanging_102 rfl rfl ?_
  refine ab_iload (i := 5) dX4_findHanging_103 rfl ?_
  refine ab_iconst (v := 1) dX4_findHanging_105 (by decide) ?_
  refine ab_iadd dX4_findHanging_106 ?_
  refine ab_putI f_X4_9 (Or.inl rfl) rfl (sh_k hs18 74 4 (by decide) rfl) rfl rfl dX4_findHanging_107 ?_
  refine Wp.nm fun h20 e21 => ?_
  have ht := ht h20 e21
  have hs22 : Sh h20 := by rw [e21]; exact sh_si hs18
  refine ab_aload_n (i := 0) dX4_findHanging_110 rfl rfl ?_
  refine ab_iconst (v := 0) dX4_findHanging_111 (by decide) ?_
  refine ab_putI f_X4_15 (Or.inl rfl) rfl (sh_k hs22 74 4 (by decide) rfl) rfl rfl dX4_findHanging_112 ?_
  refine Wp.nm fun h23 e24 => ?_
  have ht := ht h23 e24
  have hs25 : Sh h23 := by rw [e24]; exact sh_si hs22
  refine ab_iconst (v := 1) dX4_findHanging_115 (by decide) ?_
  refine ab_istore (i := 7) (L' := [some (.ref 74), some (.int x1), some (.int x2), some (.int x3), some (.int x4), some (.int (if (f_J6_bitCount_0f7a4 x1) < 6 then (f_J6_bitCount_0f7a4 x1) else 6)), some (.int ((if (f_J6_bitCount_0f7a4 x2) < 3 then (f_J6_bitCount_0f7a4 x2) else 3) + 1)), some (.int 1), none, none, none, none, none]) dX4_findHanging_116 (by exact (Nat.le_of_ble_eq_true rfl)) rfl rfl ?_
  refine ab_iconst (v := 0) dX4_findHanging_118 (by decide) ?_
  refine ab_istore (i := 8) (L' := [some (.ref 74), some (.int x1), some (.int x2), some (.int x3), some (.int x4), some (.int (if (f_J6_bitCount_0f7a4 x1) < 6 then (f_J6_bitCount_0f7a4 x1) else 6)), some (.int ((if (f_J6_bitCount_0f7a4 x2) < 3 then (f_J6_bitCount_0f7a4 x2) else 3) + 1)), some (.int 1), some (.int 0), none, none, none, none]) dX4_findHanging_119 (by exact (Nat.le_of_ble_eq_true rfl)) rfl rfl ?_
  exact Wp.fewer (L' := [some (.ref 74), none, some (.int x2), some (.int x3), none, some (.int (if (f_J6_bitCount_0f7a4 x1) < 6 then (f_J6_bitCount_0f7a4 x1) else 6)), some (.int ((if (f_J6_bitCount_0f7a4 x2) < 3 then (f_J6_bitCount_0f7a4 x2) else 3) + 1)), some (.int 1), some (.int 0), none, none, none, none]) (show ab_leL _ _ from ⟨rfl, ⟨rfl, ⟨rfl, ⟨rfl, ⟨rfl, ⟨rfl, ⟨rfl, trivial⟩⟩⟩⟩⟩⟩⟩) ht
set_option maxRecDepth 20000 in
theorem T_X4_findHanging_121 {Q : Option Value → ah_T → Prop} {h : ah_T} (hs : Sh h) (x2 : Int32) (x3 : Int32) (x5 : Int32) (x6 : Int32) (x7 : Int32) (x8 : Int32) (ht : ((x5 ≤ x8 → Wp mX4_findHanging Q 0 0 144 [some (.ref 74), none, some (.int x2), some (.int x3), none, some (.int x5), some (.int x6), some (.int x7), some (.int 0), none, none, none, none] [] h) ∧ (¬ x5 ≤ x8 → Wp mX4_findHanging Q 0 0 121 [some (.ref 74), none, some (.int x2), some (.int x3), none, some (.int x5), some (.int x6), some (.int (x7 * x6)), some (.int (x8 + 1)), none, none, none, none] [] h))) : Wp mX4_findHanging Q 0 0 121 [some (.ref 74), none, some (.int x2), some (.int x3), none, some (.int x5), some (.int x6), some (.int x7), some (.int x8), none, none, none, none] [] h := by
  refine ab_iload (i := 8) dX4_findHanging_121 rfl ?_
  refine ab_iload (i := 5) dX4_findHanging_123 rfl ?_
  refine ab_icmp_ge (tgt := 141) dX4_findHanging_125 (by decide) (fun c26 => ?_) (fun c26 => ?_)
  · have ht := ht.1 c26
    refine ab_iconst (v := 0) dX4_findHanging_141 (by decide) ?_
    refine ab_istore (i := 8) (L' := [some (.ref 74), none, some (.int x2), some (.int x3), none, some (.int x5), some (.int x6), some (.int x7), some (.int 0), none, none, none, none]) dX4_findHanging_142 (by exact (Nat.le_of_ble_eq_true rfl)) rfl rfl ?_
    exact Wp.fewer (L' := [some (.ref 74), none, some (.int x2), some (.int x3), none, some (.int x5), some (.int x6), some (.int x7), some (.int 0), none, none, none, none]) (show ab_leL _ _ from ⟨rfl, ⟨rfl, ⟨rfl, ⟨rfl, ⟨rfl, ⟨rfl, ⟨rfl, trivial⟩⟩⟩⟩⟩⟩⟩) ht
  · have ht := ht.2 c26
    refine ab_iload (i := 7) dX4_findHanging_128 rfl ?_
    refine ab_iload (i := 6) dX4_findHanging_130 rfl ?_
    refine ab_imul dX4_findHanging_132 ?_
    refine ab_istore (i := 7) (L' := [some (.ref 74), none, some (.int x2), some (.int x3), none, some (.int x5), some (.int x6), some (.int (x7 * x6)), some (.int x8), none, none, none, none]) dX4_findHanging_133 (by exact (Nat.le_of_ble_eq_true rfl)) rfl rfl ?_
    refine ab_iinc (i := 8) (x := x8) (v := (x8 + 1)) (L' := [some (.ref 74), none, some (.int x2), some (.int x3), none, some (.int x5), some (.int x6), some (.int (x7 * x6)), some (.int (x8 + 1)), none, none, none, none]) dX4_findHanging_135 rfl rfl (by exact (Nat.le_of_ble_eq_true rfl)) rfl rfl ?_
    refine ab_goto (tgt := 121) dX4_findHanging_138 (by decide) ?_
    exact Wp.fewer (L' := [some (.ref 74), none, some (.int x2), some (.int x3), none, some (.int x5), some (.int x6), some (.int (x7 * x6)), some (.int (x8 + 1)), none, none, none, none]) (show ab_leL _ _ from ⟨rfl, ⟨rfl, ⟨rfl, ⟨rfl, ⟨rfl, ⟨rfl, ⟨rfl, trivial⟩⟩⟩⟩⟩⟩⟩) ht
set_option maxRecDepth 20000 in
theorem T_X4_findHanging_144 {Q : Option Value → ah_T → Prop} {h : ah_T} (hs : Sh h) (x2 : Int32) (x3 : Int32) (x5 : Int32) (x6 : Int32) (x7 : Int32) (x8 : Int32) (ht : ((x7 ≤ x8 → Q none h) ∧ (¬ x7 ≤ x8 → (Mt mX4_lampsOf [.ref 74, .int x8, .int x7, .int x6, .int x3] h (ab_qi fun v30 h28 => Sh h28 ∧ ((v30 = (-1) → Wp mX4_findHanging Q 0 0 286 [some (.ref 74), none, some (.int x2), some (.int x3), none, some (.int x5), some (.int x6), some (.int x7), some (.int x8), none, none, none, none] [] h28) ∧ (¬ v30 = (-1) → ((v30 ≤ (ah_i h28 74 0) → ((¬ v30 = (ah_i h28 74 0) → (∀ h34, h34 = ah_si h28 74 0 v30 → (∀ h37, h37 = ah_si h34 74 1 1 → Wp mX4_findHanging Q 0 0 222 [some (.ref 74), none, some (.int x2), some (.int x3), none, some (.int x5), some (.int x6), some (.int x7), some (.int x8), none, some (.int x7), some (.int 0), none] [] h37))) ∧ (v30 = (ah_i h28 74 0) → (∀ h40, h40 = ah_si h28 74 1 ((ah_i h28 74 1) + 1) → Wp mX4_findHanging Q 0 0 286 [some (.ref 74), none, some (.int x2), some (.int x3), none, some (.int x5), some (.int x6), some (.int x7), some (.int x8), none, none, none, none] [] h40)))) ∧ (¬ v30 ≤ (ah_i h28 74 0) → Wp mX4_findHanging Q 0 0 286 [some (.ref 74), none, some (.int x2), some (.int x3), none, some (.int x5), some (.int x6), some (.int x7), some (.int x8), none, none, none, none] [] h28))))))))) : Wp mX4_findHanging Q 0 0 144 [some (.ref 74), none, some (.int x2), some (.int x3), none, some (.int x5), some (.int x6), some (.int x7), some (.int x8), none, none, none, none] [] h := by
  refine ab_iload (i := 8) dX4_findHanging_144 rfl ?_
  refine ab_iload (i := 7) dX4_findHanging_146 rfl ?_
  refine ab_icmp_ge (tgt := 292) dX4_findHanging_148 (by decide) (fun c27 => ?_) (fun c27 => ?_)
  · have ht := ht.1 c27
    exact ab_vret rfl dX4_findHanging_292 (Nat.le_of_ble_eq_true rfl) (Nat.le_of_ble_eq_true rfl) ht
  · have ht := ht.2 c27
    refine ab_aload_n (i := 0) dX4_findHanging_151 rfl rfl ?_
    refine ab_iload (i := 8) dX4_findHanging_152 rfl ?_
    refine ab_iload (i := 7) dX4_findHanging_154 rfl ?_
    refine ab_iload (i := 6) dX4_findHanging_156 rfl ?_
    refine ab_iload_n (i := 3) dX4_findHanging_158 rfl rfl ?_
    refine ab_callV (b := 74) (As := [.int x8, .int x7, .int x6, .int x3]) ht (Y_X4_lampsOf) l_X4_82 in_X4_lampsOf se_X4_lampsOf (sh_k hs 74 4 (by decide) rfl) (by decide) rfl rfl ⟨(Nat.le_of_ble_eq_true rfl), (Nat.le_of_ble_eq_true rfl), (Nat.le_of_ble_eq_true rfl), (Nat.le_of_ble_eq_true rfl)⟩ dX4_findHanging_159 ?_
    rintro _ h28 ⟨v30, rfl, hs29, ht⟩
    refine ab_istore (i := 9) (L' := [some (.ref 74), none, some (.int x2), some (.int x3), none, some (.int x5), some (.int x6), some (.int x7), some (.int x8), some (.int v30), none, none, none]) dX4_findHanging_162 (by exact (Nat.le_of_ble_eq_true rfl)) rfl rfl ?_
    refine ab_iload (i := 9) dX4_findHanging_164 rfl ?_
    refine ab_iconst (v := (-1)) dX4_findHanging_166 (by decide) ?_
    refine ab_icmp_eq (tgt := 286) dX4_findHanging_167 (by decide) (fun c31 => ?_) (fun c31 => ?_)
    · have ht := ht.1 c31
      exact Wp.fewer (L' := [some (.ref 74), none, some (.int x2), some (.int x3), none, some (.int x5), some (.int x6), some (.int x7), some (.int x8), none, none, none, none]) (show ab_leL _ _ from ⟨rfl, ⟨rfl, ⟨rfl, ⟨rfl, ⟨rfl, ⟨rfl, ⟨rfl, trivial⟩⟩⟩⟩⟩⟩⟩) ht
    · have ht := ht.2 c31
      refine ab_iload (i := 9) dX4_findHanging_170 rfl ?_
      refine ab_aload_n (i := 0) dX4_findHanging_172 rfl rfl ?_
      refine ab_getI f_X4_9 rfl (sh_k hs29 74 4 (by decide) rfl) dX4_findHanging_173 ?_
      refine ab_icmp_le (tgt := 182) dX4_findHanging_176 (by decide) (fun c32 => ?_) (fun c32 => ?_)
      · have ht := ht.1 c32
        refine ab_iload (i := 9) dX4_findHanging_182 rfl ?_
        refine ab_aload_n (i := 0) dX4_findHanging_184 rfl rfl ?_
        refine ab_getI f_X4_9 rfl (sh_k hs29 74 4 (by decide) rfl) dX4_findHanging_185 ?_
        refine ab_icmp_ne (tgt := 204) dX4_findHanging_188 (by decide) (fun c33 => ?_) (fun c33 => ?_)
        · have ht := ht.1 c33
          refine ab_aload_n (i := 0) dX4_findHanging_204 rfl rfl ?_
          refine ab_iload (i := 9) dX4_findHanging_205 rfl ?_
          refine ab_putI f_X4_9 (Or.inl rfl) rfl (sh_k hs29 74 4 (by decide) rfl) rfl rfl dX4_findHanging_207 ?_
          refine Wp.nm fun h34 e35 => ?_
          have ht := ht h34 e35
          have hs36 : Sh h34 := by rw [e35]; exact sh_si hs29
          refine ab_aload_n (i := 0) dX4_findHanging_210 rfl rfl ?_
          refine ab_iconst (v := 1) dX4_findHanging_211 (by decide) ?_
          refine ab_putI f_X4_15 (Or.inl rfl) rfl (sh_k hs36 74 4 (by decide) rfl) rfl rfl dX4_findHanging_212 ?_
          refine Wp.nm fun h37 e38 => ?_
          have ht := ht h37 e38
          have hs39 : Sh h37 := by rw [e38]; exact sh_si hs36
          refine ab_iload (i := 7) dX4_findHanging_215 rfl ?_
          refine ab_istore (i := 10) (L' := [some (.ref 74), none, some (.int x2), some (.int x3), none, some (.int x5), some (.int x6), some (.int x7), some (.int x8), some (.int v30), some (.int x7), none, none]) dX4_findHanging_217 (by exact (Nat.le_of_ble_eq_true rfl)) rfl rfl ?_
          refine ab_iconst (v := 0) dX4_findHanging_219 (by decide) ?_
          refine ab_istore (i := 11) (L' := [some (.ref 74), none, some (.int x2), some (.int x3), none, some (.int x5), some (.int x6), some (.int x7), some (.int x8), some (.int v30), some (.int x7), some (.int 0), none]) dX4_findHanging_220 (by exact (Nat.le_of_ble_eq_true rfl)) rfl rfl ?_
          exact Wp.fewer (L' := [some (.ref 74), none, some (.int x2), some (.int x3), none, some (.int x5), some (.int x6), some (.int x7), some (.int x8), none, some (.int x7), some (.int 0), none]) (show ab_leL _ _ from ⟨rfl, ⟨rfl, ⟨rfl, ⟨rfl, ⟨rfl, ⟨rfl, ⟨rfl, ⟨rfl, ⟨rfl, trivial⟩⟩⟩⟩⟩⟩⟩⟩⟩) ht
        · have ht := ht.2 c33
          refine ab_aload_n (i := 0) dX4_findHanging_191 rfl rfl ?_
          refine ab_dup dX4_findHanging_192 rfl ?_
          refine ab_getI f_X4_15 rfl (sh_k hs29 74 4 (by decide) rfl) dX4_findHanging_193 ?_
          refine ab_iconst (v := 1) dX4_findHanging_196 (by decide) ?_
          refine ab_iadd dX4_findHanging_197 ?_
          refine ab_putI f_X4_15 (Or.inl rfl) rfl (sh_k hs29 74 4 (by decide) rfl) rfl rfl dX4_findHanging_198 ?_
          refine Wp.nm fun h40 e41 => ?_
          have ht := ht h40 e41
          have hs42 : Sh h40 := by rw [e41]; exact sh_si hs29
          refine ab_goto (tgt := 286) dX4_findHanging_201 (by decide) ?_
          exact Wp.fewer (L' := [some (.ref 74), none, some (.int x2), some (.int x3), none, some (.int x5), some (.int x6), some (.int x7), some (.int x8), none, none, none, none]) (show ab_leL _ _ from ⟨rfl, ⟨rfl, ⟨rfl, ⟨rfl, ⟨rfl, ⟨rfl, ⟨rfl, trivial⟩⟩⟩⟩⟩⟩⟩) ht
      · have ht := ht.2 c32
        refine ab_goto (tgt := 286) dX4_findHanging_179 (by decide) ?_
        exact Wp.fewer (L' := [some (.ref 74), none, some (.int x2), some (.int x3), none, some (.int x5), some (.int x6), some (.int x7), some (.int x8), none, none, none, none]) (show ab_leL _ _ from ⟨rfl, ⟨rfl, ⟨rfl, ⟨rfl, ⟨rfl, ⟨rfl, ⟨rfl, trivial⟩⟩⟩⟩⟩⟩⟩) ht
set_option maxRecDepth 20000 in
theorem T_X4_findHanging_286 {Q : Option Value → ah_T → Prop} {h : ah_T} (hs : Sh h) (x2 : Int32) (x3 : Int32) (x5 : Int32) (x6 : Int32) (x7 : Int32) (x8 : Int32) (ht : Wp mX4_findHanging Q 0 0 144 [some (.ref 74), none, some (.int x2), some (.int x3), none, some (.int x5), some (.int x6), some (.int x7), some (.int (x8 + 1)), none, none, none, none] [] h) : Wp mX4_findHanging Q 0 0 286 [some (.ref 74), none, some (.int x2), some (.int x3), none, some (.int x5), some (.int x6), some (.int x7), some (.int x8), none, none, none, none] [] h := by
  refine ab_iinc (i := 8) (x := x8) (v := (x8 + 1)) (L' := [some (.ref 74), none, some (.int x2), some (.int x3), none, some (.int x5), some (.int x6), some (.int x7), some (.int (x8 + 1)), none, none, none, none]) dX4_findHanging_286 rfl rfl (by exact (Nat.le_of_ble_eq_true rfl)) rfl rfl ?_
  refine ab_goto (tgt := 144) dX4_findHanging_289 (by decide) ?_
  exact Wp.fewer (L' := [some (.ref 74), none, some (.int x2), some (.int x3), none, some (.int x5), some (.int x6), some (.int x7), some (.int (x8 + 1)), none, none, none, none]) (show ab_leL _ _ from ⟨rfl, ⟨rfl, ⟨rfl, ⟨rfl, ⟨rfl, ⟨rfl, ⟨rfl, trivial⟩⟩⟩⟩⟩⟩⟩) ht
set_option maxRecDepth 20000 in
theorem T_X4_findHanging_222 {Q : Option Value → ah_T → Prop} {h : ah_T} (hs : Sh h) (x2 : Int32) (x3 : Int32) (x5 : Int32) (x6 : Int32) (x7 : Int32) (x8 : Int32) (x10 : Int32) (x11 : Int32) (ht : ((x5 ≤ x11 → Wp mX4_findHanging Q 0 0 286 [some (.ref 74), none, some (.int x2), some (.int x3), none, some (.int x5), some (.int x6), some (.int x7), some (.int x8), none, none, none, none] [] h) ∧ (¬ x5 ≤ x11 → (¬ x6 = 0) ∧ ((¬ (x10 / x6) = 0 → (¬ (x10 / x6) = 0) ∧ (¬ x6 = 0) ∧ ((¬ ((x8 / (x10 / x6)) - (x8 / (x10 / x6)) / x6 * x6) = 0 → (Mt mX4_placeOf [.int x2, .int (((x8 / (x10 / x6)) - (x8 / (x10 / x6)) / x6 * x6) - 1)] h (ab_qi fun v51 h49 => Sh h49 ∧ (vp_in x11 (ah_n h49 75)) ∧ (∀ h53, h53 = ah_si h49 75 (Int32.toNatClampNeg x11) v51 → Wp mX4_findHanging Q 0 0 222 [some (.ref 74), none, some (.int x2), some (.int x3), none, some (.int x5), some (.int x6), some (.int x7), some (.int x8), none, some (.int (x10 / x6)), some (.int (x11 + 1)), none] [] h53)))) ∧ (((x8 / (x10 / x6)) - (x8 / (x10 / x6)) / x6 * x6) = 0 → (vp_in x11 (ah_n h 75)) ∧ (∀ h57, h57 = ah_si h 75 (Int32.toNatClampNeg x11) 100 → Wp mX4_findHanging Q 0 0 222 [some (.ref 74), none, some (.int x2), some (.int x3), none, some (.int x5), some (.int x6), some (.int x7), some (.int x8), none, some (.int (x10 / x6)), some (.int (x11 + 1)), none] [] h57)))) ∧ ((x10 / x6) = 0 → (vp_in x11 (ah_n h 75)) ∧ (∀ h61, h61 = ah_si h 75 (Int32.toNatClampNeg x11) 100 → Wp mX4_findHanging Q 0 0 222 [some (.ref 74), none, some (.int x2), some (.int x3), none, some (.int x5), some (.int x6), some (.int x7), some (.int x8), none, some (.int (x10 / x6)), some (.int (x11 + 1)), none] [] h61)))))) : Wp mX4_findHanging Q 0 0 222 [some (.ref 74), none, some (.int x2), some (.int x3), none, some (.int x5), some (.int x6), some (.int x7), some (.int x8), none, some (.int x10), some (.int x11), none] [] h := by
  refine ab_iload (i := 11) dX4_findHanging_222 rfl ?_
  refine ab_iload (i := 5) dX4_findHanging_224 rfl ?_
  refine ab_icmp_ge (tgt := 286) dX4_findHanging_226 (by decide) (fun c43 => ?_) (fun c43 => ?_)
  · have ht := ht.1 c43
    exact Wp.fewer (L' := [some (.ref 74), none, some (.int x2), some (.int x3), none, some (.int x5), some (.int x6), some (.int x7), some (.int x8), none, none, none, none]) (show ab_leL _ _ from ⟨rfl, ⟨rfl, ⟨rfl, ⟨rfl, ⟨rfl, ⟨rfl, ⟨rfl, trivial⟩⟩⟩⟩⟩⟩⟩) ht
  · have ht := ht.2 c43
    refine ab_iload (i := 10) dX4_findHanging_229 rfl ?_
    refine ab_iload (i := 6) dX4_findHanging_231 rfl ?_
    obtain ⟨hc44, ht⟩ := ht
    refine ab_idiv dX4_findHanging_233 hc44 ?_
    refine ab_istore (i := 10) (L' := [some (.ref 74), none, some (.int x2), some (.int x3), none, some (.int x5), some (.int x6), some (.int x7), some (.int x8), none, some (.int (x10 / x6)), some (.int x11), none]) dX4_findHanging_234 (by exact (Nat.le_of_ble_eq_true rfl)) rfl rfl ?_
    refine ab_iload (i := 10) dX4_findHanging_236 rfl ?_
    refine ab_if_ne (tgt := 245) dX4_findHanging_238 (by decide) (fun c45 => ?_) (fun c45 => ?_)
    · have ht := ht.1 c45
      refine ab_iload (i := 8) dX4_findHanging_245 rfl ?_
      refine ab_iload (i := 10) dX4_findHanging_247 rfl ?_
      obtain ⟨hc46, ht⟩ := ht
      refine ab_idiv dX4_findHanging_249 hc46 ?_
      refine ab_iload (i := 6) dX4_findHanging_250 rfl ?_
      obtain ⟨hc47, ht⟩ := ht
      refine ab_irem dX4_findHanging_252 hc47 ?_
      refine ab_istore (i := 12) (L' := [some (.ref 74), none, some (.int x2), some (.int x3), none, some (.int x5), some (.int x6), some (.int x7), some (.int x8), none, some (.int (x10 / x6)), some (.int x11), some (.int ((x8 / (x10 / x6)) - (x8 / (x10 / x6)) / x6 * x6))]) dX4_findHanging_253 (by exact (Nat.le_of_ble_eq_true rfl)) rfl rfl ?_
      refine ab_aload_n (i := 0) dX4_findHanging_255 rfl rfl ?_
      refine ab_getR (b := 75) f_X4_18 rfl (sh_k hs 74 4 (by decide) rfl) (sh_r hs 88 rfl) dX4_findHanging_256 ?_
      refine ab_iload (i := 11) dX4_findHanging_259 rfl ?_
      refine ab_iload (i := 12) dX4_findHanging_261 rfl ?_
      refine ab_if_ne (tgt := 271) dX4_findHanging_263 (by decide) (fun c48 => ?_) (fun c48 => ?_)
      · have ht := ht.1 c48
        refine ab_iload_n (i := 2) dX4_findHanging_271 rfl rfl ?_
        refine ab_iload (i := 12) dX4_findHanging_272 rfl ?_
        refine ab_iconst (v := 1) dX4_findHanging_274 (by decide) ?_
        refine ab_isub dX4_findHanging_275 ?_
        refine ab_callS (As := [.int x2, .int (((x8 / (x10 / x6)) - (x8 / (x10 / x6)) / x6 * x6) - 1)]) ht (Y_X4_placeOf) l_X4_86 st_X4_placeOf rfl ⟨(Nat.le_of_ble_eq_true rfl), (Nat.le_of_ble_eq_true rfl), (Nat.le_of_ble_eq_true rfl), (Nat.le_of_ble_eq_true rfl)⟩ dX4_findHanging_276 ?_
        rintro _ h49 ⟨v51, rfl, hs50, ht⟩
        obtain ⟨hc52, ht⟩ := ht
        refine ab_iast (sh_k hs50 75 14 (by decide) rfl) hc52 dX4_findHanging_279 ?_
        refine Wp.nm fun h53 e54 => ?_
        have ht := ht h53 e54
        have hs55 : Sh h53 := by rw [e54]; exact sh_si hs50
        refine ab_iinc (i := 11) (x := x11) (v := (x11 + 1)) (L' := [some (.ref 74), none, some (.int x2), some (.int x3), none, some (.int x5), some (.int x6), some (.int x7), some (.int x8), none, some (.int (x10 / x6)), some (.int (x11 + 1)), some (.int ((x8 / (x10 / x6)) - (x8 / (x10 / x6)) / x6 * x6))]) dX4_findHanging_280 rfl rfl (by exact (Nat.le_of_ble_eq_true rfl)) rfl rfl ?_
        refine ab_goto (tgt := 222) dX4_findHanging_283 (by decide) ?_
        exact Wp.fewer (L' := [some (.ref 74), none, some (.int x2), some (.int x3), none, some (.int x5), some (.int x6), some (.int x7), some (.int x8), none, some (.int (x10 / x6)), some (.int (x11 + 1)), none]) (show ab_leL _ _ from ⟨rfl, ⟨rfl, ⟨rfl, ⟨rfl, ⟨rfl, ⟨rfl, ⟨rfl, ⟨rfl, ⟨rfl, trivial⟩⟩⟩⟩⟩⟩⟩⟩⟩) ht
      · have ht := ht.2 c48
        refine ab_bipush (v := 100) dX4_findHanging_266 (by decide) ?_
        refine ab_goto (tgt := 279) dX4_findHanging_268 (by decide) ?_
        obtain ⟨hc56, ht⟩ := ht
        refine ab_iast (sh_k hs 75 14 (by decide) rfl) hc56 dX4_findHanging_279 ?_
        refine Wp.nm fun h57 e58 => ?_
        have ht := ht h57 e58
        have hs59 : Sh h57 := by rw [e58]; exact sh_si hs
        refine ab_iinc (i := 11) (x := x11) (v := (x11 + 1)) (L' := [some (.ref 74), none, some (.int x2), some (.int x3), none, some (.int x5), some (.int x6), some (.int x7), some (.int x8), none, some (.int (x10 / x6)), some (.int (x11 + 1)), some (.int ((x8 / (x10 / x6)) - (x8 / (x10 / x6)) / x6 * x6))]) dX4_findHanging_280 rfl rfl (by exact (Nat.le_of_ble_eq_true rfl)) rfl rfl ?_
        refine ab_goto (tgt := 222) dX4_findHanging_283 (by decide) ?_
        exact Wp.fewer (L' := [some (.ref 74), none, some (.int x2), some (.int x3), none, some (.int x5), some (.int x6), some (.int x7), some (.int x8), none, some (.int (x10 / x6)), some (.int (x11 + 1)), none]) (show ab_leL _ _ from ⟨rfl, ⟨rfl, ⟨rfl, ⟨rfl, ⟨rfl, ⟨rfl, ⟨rfl, ⟨rfl, ⟨rfl, trivial⟩⟩⟩⟩⟩⟩⟩⟩⟩) ht
    · have ht := ht.2 c45
      refine ab_iconst (v := 0) dX4_findHanging_241 (by decide) ?_
      refine ab_goto (tgt := 253) dX4_findHanging_242 (by decide) ?_
      refine ab_istore (i := 12) (L' := [some (.ref 74), none, some (.int x2), some (.int x3), none, some (.int x5), some (.int x6), some (.int x7), some (.int x8), none, some (.int (x10 / x6)), some (.int x11), some (.int 0)]) dX4_findHanging_253 (by exact (Nat.le_of_ble_eq_true rfl)) rfl rfl ?_
      refine ab_aload_n (i := 0) dX4_findHanging_255 rfl rfl ?_
      refine ab_getR (b := 75) f_X4_18 rfl (sh_k hs 74 4 (by decide) rfl) (sh_r hs 88 rfl) dX4_findHanging_256 ?_
      refine ab_iload (i := 11) dX4_findHanging_259 rfl ?_
      refine ab_iload (i := 12) dX4_findHanging_261 rfl ?_
      refine ab_if_ne (tgt := 271) dX4_findHanging_263 (by decide) (fun q => absurd (by decide) q) (fun _ => ?_)
      refine ab_bipush (v := 100) dX4_findHanging_266 (by decide) ?_
      refine ab_goto (tgt := 279) dX4_findHanging_268 (by decide) ?_
      obtain ⟨hc60, ht⟩ := ht
      refine ab_iast (sh_k hs 75 14 (by decide) rfl) hc60 dX4_findHanging_279 ?_
      refine Wp.nm fun h61 e62 => ?_
      have ht := ht h61 e62
      have hs63 : Sh h61 := by rw [e62]; exact sh_si hs
      refine ab_iinc (i := 11) (x := x11) (v := (x11 + 1)) (L' := [some (.ref 74), none, some (.int x2), some (.int x3), none, some (.int x5), some (.int x6), some (.int x7), some (.int x8), none, some (.int (x10 / x6)), some (.int (x11 + 1)), some (.int 0)]) dX4_findHanging_280 rfl rfl (by exact (Nat.le_of_ble_eq_true rfl)) rfl rfl ?_
      refine ab_goto (tgt := 222) dX4_findHanging_283 (by decide) ?_
      exact Wp.fewer (L' := [some (.ref 74), none, some (.int x2), some (.int x3), none, some (.int x5), some (.int x6), some (.int x7), some (.int x8), none, some (.int (x10 / x6)), some (.int (x11 + 1)), none]) (show ab_leL _ _ from ⟨rfl, ⟨rfl, ⟨rfl, ⟨rfl, ⟨rfl, ⟨rfl, ⟨rfl, ⟨rfl, ⟨rfl, trivial⟩⟩⟩⟩⟩⟩⟩⟩⟩) ht
set_option maxRecDepth 20000 in
theorem T_X4_findHanging {Q : Option Value → ah_T → Prop} {h : ah_T} (hs : Sh h) (x1 : Int32) (x2 : Int32) (x3 : Int32) (x4 : Int32) (ht : ((¬ (ah_i h 76 (Int32.toNatClampNeg 0)) = x1 → Wp mX4_findHanging Q 0 0 42 [some (.ref 74), some (.int x1), some (.int x2), some (.int x3), some (.int x4), none, none, none, none, none, none, none, none] [] h) ∧ ((ah_i h 76 (Int32.toNatClampNeg 0)) = x1 → ((¬ (ah_i h 76 (Int32.toNatClampNeg 1)) = x2 → Wp mX4_findHanging Q 0 0 42 [some (.ref 74), some (.int x1), some (.int x2), some (.int x3), some (.int x4), none, none, none, none, none, none, none, none] [] h) ∧ ((ah_i h 76 (Int32.toNatClampNeg 1)) = x2 → ((¬ (ah_i h 76 (Int32.toNatClampNeg 2)) = x3 → Wp mX4_findHanging Q 0 0 42 [some (.ref 74), some (.int x1), some (.int x2), some (.int x3), some (.int x4), none, none, none, none, none, none, none, none] [] h) ∧ ((ah_i h 76 (Int32.toNatClampNeg 2)) = x3 → ((¬ (ah_i h 76 (Int32.toNatClampNeg 3)) = x4 → Wp mX4_findHanging Q 0 0 42 [some (.ref 74), some (.int x1), some (.int x2), some (.int x3), some (.int x4), none, none, none, none, none, none, none, none] [] h) ∧ ((ah_i h 76 (Int32.toNatClampNeg 3)) = x4 → Q none h))))))))) : Mt mX4_findHanging [.ref 74, .int x1, .int x2, .int x3, .int x4] h Q := by
  refine Mt.ofWp rfl (by exact (Nat.le_of_ble_eq_true rfl)) (Wp.fewer (L' := [some (.ref 74), some (.int x1), some (.int x2), some (.int x3), some (.int x4), none, none, none, none, none, none, none, none]) (show ab_leL _ _ from ⟨rfl, ⟨rfl, ⟨rfl, ⟨rfl, ⟨rfl, trivial⟩⟩⟩⟩⟩) ?_)
  refine ab_aload_n (i := 0) dX4_findHanging_0 rfl rfl ?_
  refine ab_getR (b := 76) f_X4_28 rfl (sh_k hs 74 4 (by decide) rfl) (sh_r hs 93 rfl) dX4_findHanging_1 ?_
  refine ab_iconst (v := 0) dX4_findHanging_4 (by decide) ?_
  refine ab_iald (sh_k hs 76 14 (by decide) rfl) (sh_in hs 76 4 (by decide) (by decide) rfl (by unfold vp_in; decide)) dX4_findHanging_5 ?_
  refine ab_iload_n (i := 1) dX4_findHanging_6 rfl rfl ?_
  refine ab_icmp_ne (tgt := 42) dX4_findHanging_7 (by decide) (fun c1 => ?_) (fun c1 => ?_)
  · have ht := ht.1 c1
    exact Wp.fewer (L' := [some (.ref 74), some (.int x1), some (.int x2), some (.int x3), some (.int x4), none, none, none, none, none, none, none, none]) (show ab_leL _ _ from ⟨rfl, ⟨rfl, ⟨rfl, ⟨rfl, ⟨rfl, trivial⟩⟩⟩⟩⟩) ht
  · have ht := ht.2 c1
    refine ab_aload_n (i := 0) dX4_findHanging_10 rfl rfl ?_
    refine ab_getR (b := 76) f_X4_28 rfl (sh_k hs 74 4 (by decide) rfl) (sh_r hs 93 rfl) dX4_findHanging_11 ?_
    refine ab_iconst (v := 1) dX4_findHanging_14 (by decide) ?_
    refine ab_iald (sh_k hs 76 14 (by decide) rfl) (sh_in hs 76 4 (by decide) (by decide) rfl (by unfold vp_in; decide)) dX4_findHanging_15 ?_
    refine ab_iload_n (i := 2) dX4_findHanging_16 rfl rfl ?_
    refine ab_icmp_ne (tgt := 42) dX4_findHanging_17 (by decide) (fun c2 => ?_) (fun c2 => ?_)
    · have ht := ht.1 c2
      exact Wp.fewer (L' := [some (.ref 74), some (.int x1), some (.int x2), some (.int x3), some (.int x4), none, none, none, none, none, none, none, none]) (show ab_leL _ _ from ⟨rfl, ⟨rfl, ⟨rfl, ⟨rfl, ⟨rfl, trivial⟩⟩⟩⟩⟩) ht
    · have ht := ht.2 c2
      refine ab_aload_n (i := 0) dX4_findHanging_20 rfl rfl ?_
      refine ab_getR (b := 76) f_X4_28 rfl (sh_k hs 74 4 (by decide) rfl) (sh_r hs 93 rfl) dX4_findHanging_21 ?_
      refine ab_iconst (v := 2) dX4_findHanging_24 (by decide) ?_
      refine ab_iald (sh_k hs 76 14 (by decide) rfl) (sh_in hs 76 4 (by decide) (by decide) rfl (by unfold vp_in; decide)) dX4_findHanging_25 ?_
      refine ab_iload_n (i := 3) dX4_findHanging_26 rfl rfl ?_
      refine ab_icmp_ne (tgt := 42) dX4_findHanging_27 (by decide) (fun c3 => ?_) (fun c3 => ?_)
      · have ht := ht.1 c3
        exact Wp.fewer (L' := [some (.ref 74), some (.int x1), some (.int x2), some (.int x3), some (.int x4), none, none, none, none, none, none, none, none]) (show ab_leL _ _ from ⟨rfl, ⟨rfl, ⟨rfl, ⟨rfl, ⟨rfl, trivial⟩⟩⟩⟩⟩) ht
      · have ht := ht.2 c3
        refine ab_aload_n (i := 0) dX4_findHanging_30 rfl rfl ?_
        refine ab_getR (b := 76) f_X4_28 rfl (sh_k hs 74 4 (by decide) rfl) (sh_r hs 93 rfl) dX4_findHanging_31 ?_
        refine ab_iconst (v := 3) dX4_findHanging_34 (by decide) ?_
        refine ab_iald (sh_k hs 76 14 (by decide) rfl) (sh_in hs 76 4 (by decide) (by decide) rfl (by unfold vp_in; decide)) dX4_findHanging_35 ?_
        refine ab_iload (i := 4) dX4_findHanging_36 rfl ?_
        refine ab_icmp_ne (tgt := 42) dX4_findHanging_38 (by decide) (fun c4 => ?_) (fun c4 => ?_)
        · have ht := ht.1 c4
          exact Wp.fewer (L' := [some (.ref 74), some (.int x1), some (.int x2), some (.int x3), some (.int x4), none, none, none, none, none, none, none, none]) (show ab_leL _ _ from ⟨rfl, ⟨rfl, ⟨rfl, ⟨rfl, ⟨rfl, trivial⟩⟩⟩⟩⟩) ht
        · have ht := ht.2 c4
          exact ab_vret rfl dX4_findHanging_41 (Nat.le_of_ble_eq_true rfl) (Nat.le_of_ble_eq_true rfl) ht
theorem dX4_weighSites_0 : decode cX4_weighSites 0 = .ok (.bipush 6, 2) := by decide +kernel
theorem dX4_weighSites_2 : decode cX4_weighSites 2 = .ok (.iload_n 1, 1) := by decide +kernel
theorem dX4_weighSites_3 : decode cX4_weighSites 3 = .ok (.invokestatic 66, 3) := by decide +kernel
theorem dX4_weighSites_6 : decode cX4_weighSites 6 = .ok (.invokestatic 72, 3) := by decide +kernel
theorem dX4_weighSites_9 : decode cX4_weighSites 9 = .ok (.iconst 3, 1) := by decide +kernel
theorem dX4_weighSites_10 : decode cX4_weighSites 10 = .ok (.imul, 1) := by decide +kernel
theorem dX4_weighSites_11 : decode cX4_weighSites 11 = .ok (.istore 4, 2) := by decide +kernel
theorem dX4_weighSites_13 : decode cX4_weighSites 13 = .ok (.aload_n 0, 1) := by decide +kernel
theorem dX4_weighSites_14 : decode cX4_weighSites 14 = .ok (.getfield 34, 3) := by decide +kernel
theorem dX4_weighSites_17 : decode cX4_weighSites 17 = .ok (.iconst 0, 1) := by decide +kernel
theorem dX4_weighSites_18 : decode cX4_weighSites 18 = .ok (.invokestatic 89, 3) := by decide +kernel
theorem dX4_weighSites_21 : decode cX4_weighSites 21 = .ok (.iconst 0, 1) := by decide +kernel
theorem dX4_weighSites_22 : decode cX4_weighSites 22 = .ok (.istore 5, 2) := by decide +kernel
theorem dX4_weighSites_24 : decode cX4_weighSites 24 = .ok (.iload 5, 2) := by decide +kernel
theorem dX4_weighSites_26 : decode cX4_weighSites 26 = .ok (.iload 4, 2) := by decide +kernel
theorem dX4_weighSites_28 : decode cX4_weighSites 28 = .ok (.if_icmp .ge 183, 3) := by decide +kernel
theorem dX4_weighSites_31 : decode cX4_weighSites 31 = .ok (.iload 5, 2) := by decide +kernel
theorem dX4_weighSites_33 : decode cX4_weighSites 33 = .ok (.iconst 3, 1) := by decide +kernel
theorem dX4_weighSites_34 : decode cX4_weighSites 34 = .ok (.idiv, 1) := by decide +kernel
theorem dX4_weighSites_35 : decode cX4_weighSites 35 = .ok (.istore 6, 2) := by decide +kernel
theorem dX4_weighSites_37 : decode cX4_weighSites 37 = .ok (.iload_n 1, 1) := by decide +kernel
theorem dX4_weighSites_38 : decode cX4_weighSites 38 = .ok (.iload 6, 2) := by decide +kernel
theorem dX4_weighSites_40 : decode cX4_weighSites 40 = .ok (.invokestatic 86, 3) := by decide +kernel
theorem dX4_weighSites_43 : decode cX4_weighSites 43 = .ok (.istore 7, 2) := by decide +kernel
theorem dX4_weighSites_45 : decode cX4_weighSites 45 = .ok (.iload_n 2, 1) := by decide +kernel
theorem dX4_weighSites_46 : decode cX4_weighSites 46 = .ok (.iload 5, 2) := by decide +kernel
theorem dX4_weighSites_48 : decode cX4_weighSites 48 = .ok (.iconst 3, 1) := by decide +kernel
theorem dX4_weighSites_49 : decode cX4_weighSites 49 = .ok (.irem, 1) := by decide +kernel
theorem dX4_weighSites_50 : decode cX4_weighSites 50 = .ok (.invokestatic 86, 3) := by decide +kernel
theorem dX4_weighSites_53 : decode cX4_weighSites 53 = .ok (.istore 8, 2) := by decide +kernel
theorem dX4_weighSites_55 : decode cX4_weighSites 55 = .ok (.iload 8, 2) := by decide +kernel
theorem dX4_weighSites_57 : decode cX4_weighSites 57 = .ok (.iconst (-1), 1) := by decide +kernel
theorem dX4_weighSites_58 : decode cX4_weighSites 58 = .ok (.if_icmp .ne 6, 3) := by decide +kernel
theorem dX4_weighSites_61 : decode cX4_weighSites 61 = .ok (.goto 144, 3) := by decide +kernel
theorem dX4_weighSites_64 : decode cX4_weighSites 64 = .ok (.aload_n 0, 1) := by decide +kernel
theorem dX4_weighSites_65 : decode cX4_weighSites 65 = .ok (.getfield 31, 3) := by decide +kernel
theorem dX4_weighSites_68 : decode cX4_weighSites 68 = .ok (.iload 5, 2) := by decide +kernel
theorem dX4_weighSites_70 : decode cX4_weighSites 70 = .ok (.aload_n 0, 1) := by decide +kernel
theorem dX4_weighSites_71 : decode cX4_weighSites 71 = .ok (.getfield 54, 3) := by decide +kernel
theorem dX4_weighSites_74 : decode cX4_weighSites 74 = .ok (.iload 7, 2) := by decide +kernel
theorem dX4_weighSites_76 : decode cX4_weighSites 76 = .ok (.aload_n 0, 1) := by decide +kernel
theorem dX4_weighSites_77 : decode cX4_weighSites 77 = .ok (.getfield 58, 3) := by decide +kernel
theorem dX4_weighSites_80 : decode cX4_weighSites 80 = .ok (.iconst 1, 1) := by decide +kernel
theorem dX4_weighSites_81 : decode cX4_weighSites 81 = .ok (.iload 6, 2) := by decide +kernel
theorem dX4_weighSites_83 : decode cX4_weighSites 83 = .ok (.iload 8, 2) := by decide +kernel
theorem dX4_weighSites_85 : decode cX4_weighSites 85 = .ok (.iconst (-1), 1) := by decide +kernel
theorem dX4_weighSites_86 : decode cX4_weighSites 86 = .ok (.iconst (-1), 1) := by decide +kernel
theorem dX4_weighSites_87 : decode cX4_weighSites 87 = .ok (.iconst (-1), 1) := by decide +kernel
theorem dX4_weighSites_88 : decode cX4_weighSites 88 = .ok (.iload_n 3, 1) := by decide +kernel
theorem dX4_weighSites_89 : decode cX4_weighSites 89 = .ok (.invokevirtual 95, 3) := by decide +kernel
theorem dX4_weighSites_92 : decode cX4_weighSites 92 = .ok (.invokevirtual 101, 3) := by decide +kernel
theorem dX4_weighSites_95 : decode cX4_weighSites 95 = .ok (.iastore, 1) := by decide +kernel
theorem dX4_weighSites_96 : decode cX4_weighSites 96 = .ok (.iconst 0, 1) := by decide +kernel
theorem dX4_weighSites_97 : decode cX4_weighSites 97 = .ok (.istore 9, 2) := by decide +kernel
theorem dX4_weighSites_99 : decode cX4_weighSites 99 = .ok (.iload 9, 2) := by decide +kernel
theorem dX4_weighSites_101 : decode cX4_weighSites 101 = .ok (.iload 4, 2) := by decide +kernel
theorem dX4_weighSites_103 : decode cX4_weighSites 103 = .ok (.if_icmp .ge 102, 3) := by decide +kernel
theorem dX4_weighSites_106 : decode cX4_weighSites 106 = .ok (.iload_n 2, 1) := by decide +kernel
theorem dX4_weighSites_107 : decode cX4_weighSites 107 = .ok (.iload 9, 2) := by decide +kernel
theorem dX4_weighSites_109 : decode cX4_weighSites 109 = .ok (.iconst 3, 1) := by decide +kernel
theorem dX4_weighSites_110 : decode cX4_weighSites 110 = .ok (.irem, 1) := by decide +kernel
theorem dX4_weighSites_111 : decode cX4_weighSites 111 = .ok (.invokestatic 86, 3) := by decide +kernel
theorem dX4_weighSites_114 : decode cX4_weighSites 114 = .ok (.istore 10, 2) := by decide +kernel
theorem dX4_weighSites_116 : decode cX4_weighSites 116 = .ok (.aload_n 0, 1) := by decide +kernel
theorem dX4_weighSites_117 : decode cX4_weighSites 117 = .ok (.getfield 54, 3) := by decide +kernel
theorem dX4_weighSites_120 : decode cX4_weighSites 120 = .ok (.iload 7, 2) := by decide +kernel
theorem dX4_weighSites_122 : decode cX4_weighSites 122 = .ok (.iload_n 1, 1) := by decide +kernel
theorem dX4_weighSites_123 : decode cX4_weighSites 123 = .ok (.iload 9, 2) := by decide +kernel
theorem dX4_weighSites_125 : decode cX4_weighSites 125 = .ok (.iconst 3, 1) := by decide +kernel
theorem dX4_weighSites_126 : decode cX4_weighSites 126 = .ok (.idiv, 1) := by decide +kernel
theorem dX4_weighSites_127 : decode cX4_weighSites 127 = .ok (.invokestatic 86, 3) := by decide +kernel
theorem dX4_weighSites_130 : decode cX4_weighSites 130 = .ok (.invokevirtual 106, 3) := by decide +kernel
theorem dX4_weighSites_133 : decode cX4_weighSites 133 = .ok (.istore 11, 2) := by decide +kernel
theorem dX4_weighSites_135 : decode cX4_weighSites 135 = .ok (.iload 9, 2) := by decide +kernel
theorem dX4_weighSites_137 : decode cX4_weighSites 137 = .ok (.iconst 3, 1) := by decide +kernel
theorem dX4_weighSites_138 : decode cX4_weighSites 138 = .ok (.idiv, 1) := by decide +kernel
theorem dX4_weighSites_139 : decode cX4_weighSites 139 = .ok (.iload 6, 2) := by decide +kernel
theorem dX4_weighSites_141 : decode cX4_weighSites 141 = .ok (.if_icmp .eq 58, 3) := by decide +kernel
theorem dX4_weighSites_144 : decode cX4_weighSites 144 = .ok (.iload 10, 2) := by decide +kernel
theorem dX4_weighSites_146 : decode cX4_weighSites 146 = .ok (.iconst (-1), 1) := by decide +kernel
theorem dX4_weighSites_147 : decode cX4_weighSites 147 = .ok (.if_icmp .eq 52, 3) := by decide +kernel
theorem dX4_weighSites_150 : decode cX4_weighSites 150 = .ok (.aload_n 0, 1) := by decide +kernel
theorem dX4_weighSites_151 : decode cX4_weighSites 151 = .ok (.getfield 58, 3) := by decide +kernel
theorem dX4_weighSites_154 : decode cX4_weighSites 154 = .ok (.iconst 0, 1) := by decide +kernel
theorem dX4_weighSites_155 : decode cX4_weighSites 155 = .ok (.iload 6, 2) := by decide +kernel
theorem dX4_weighSites_157 : decode cX4_weighSites 157 = .ok (.iload 8, 2) := by decide +kernel
theorem dX4_weighSites_159 : decode cX4_weighSites 159 = .ok (.iload 10, 2) := by decide +kernel
theorem dX4_weighSites_161 : decode cX4_weighSites 161 = .ok (.iload 11, 2) := by decide +kernel
theorem dX4_weighSites_163 : decode cX4_weighSites 163 = .ok (.iconst 0, 1) := by decide +kernel
theorem dX4_weighSites_164 : decode cX4_weighSites 164 = .ok (.iload_n 3, 1) := by decide +kernel
theorem dX4_weighSites_165 : decode cX4_weighSites 165 = .ok (.invokevirtual 95, 3) := by decide +kernel
theorem dX4_weighSites_168 : decode cX4_weighSites 168 = .ok (.ifCond .eq 31, 3) := by decide +kernel
theorem dX4_weighSites_171 : decode cX4_weighSites 171 = .ok (.aload_n 0, 1) := by decide +kernel
theorem dX4_weighSites_172 : decode cX4_weighSites 172 = .ok (.getfield 34, 3) := by decide +kernel
theorem dX4_weighSites_175 : decode cX4_weighSites 175 = .ok (.iload 5, 2) := by decide +kernel
theorem dX4_weighSites_177 : decode cX4_weighSites 177 = .ok (.dup2, 1) := by decide +kernel
theorem dX4_weighSites_178 : decode cX4_weighSites 178 = .ok (.iaload, 1) := by decide +kernel
theorem dX4_weighSites_179 : decode cX4_weighSites 179 = .ok (.iconst 1, 1) := by decide +kernel
theorem dX4_weighSites_180 : decode cX4_weighSites 180 = .ok (.iload 9, 2) := by decide +kernel
theorem dX4_weighSites_182 : decode cX4_weighSites 182 = .ok (.ishl, 1) := by decide +kernel
theorem dX4_weighSites_183 : decode cX4_weighSites 183 = .ok (.ior, 1) := by decide +kernel
theorem dX4_weighSites_184 : decode cX4_weighSites 184 = .ok (.iastore, 1) := by decide +kernel
theorem dX4_weighSites_185 : decode cX4_weighSites 185 = .ok (.aload_n 0, 1) := by decide +kernel
theorem dX4_weighSites_186 : decode cX4_weighSites 186 = .ok (.getfield 34, 3) := by decide +kernel
theorem dX4_weighSites_189 : decode cX4_weighSites 189 = .ok (.iload 9, 2) := by decide +kernel
theorem dX4_weighSites_191 : decode cX4_weighSites 191 = .ok (.dup2, 1) := by decide +kernel
theorem dX4_weighSites_192 : decode cX4_weighSites 192 = .ok (.iaload, 1) := by decide +kernel
theorem dX4_weighSites_193 : decode cX4_weighSites 193 = .ok (.iconst 1, 1) := by decide +kernel
theorem dX4_weighSites_194 : decode cX4_weighSites 194 = .ok (.iload 5, 2) := by decide +kernel
theorem dX4_weighSites_196 : decode cX4_weighSites 196 = .ok (.ishl, 1) := by decide +kernel
theorem dX4_weighSites_197 : decode cX4_weighSites 197 = .ok (.ior, 1) := by decide +kernel
theorem dX4_weighSites_198 : decode cX4_weighSites 198 = .ok (.iastore, 1) := by decide +kernel
theorem dX4_weighSites_199 : decode cX4_weighSites 199 = .ok (.iinc 9 1, 3) := by decide +kernel
theorem dX4_weighSites_202 : decode cX4_weighSites 202 = .ok (.goto (-103), 3) := by decide +kernel
theorem dX4_weighSites_205 : decode cX4_weighSites 205 = .ok (.iinc 5 1, 3) := by decide +kernel
theorem dX4_weighSites_208 : decode cX4_weighSites 208 = .ok (.goto (-184), 3) := by decide +kernel
theorem dX4_weighSites_211 : decode cX4_weighSites 211 = .ok (.return_, 1) := by decide +kernel
set_option maxRecDepth 20000 in
theorem T_X4_weighSites_24 {Q : Option Value → ah_T → Prop} {h : ah_T} (hs : Sh h) (x1 : Int32) (x2 : Int32) (x3 : Int32) (x4 : Int32) (x5 : Int32) (ht : ((x4 ≤ x5 → Q none h) ∧ (¬ x4 ≤ x5 → (Mt mX4_placeOf [.int x1, .int (x5 / 3)] h (ab_qi fun v7 h5 => Sh h5 ∧ (Mt mX4_placeOf [.int x2, .int (x5 - x5 / 3 * 3)] h5 (ab_qi fun v10 h8 => Sh h8 ∧ ((¬ v10 = (-1) → (Mt mX8_ask [.ref 38, .int 1, .int (x5 / 3), .int v10, .int (-1), .int (-1), .int (-1), .int x3] h8 (ab_qi fun v14 h12 => Sh h12 ∧ (Mt mX6_within [.ref 29, .int v7, .int v14] h12 (ab_qi fun v17 h15 => Sh h15 ∧ (vp_in x5 (ah_n h15 77)) ∧ (∀ h19, h19 = ah_si h15 77 (Int32.toNatClampNeg x5) v17 → Wp mX4_weighSites Q 0 0 99 [some (.ref 74), some (.int x1), some (.int x2), some (.int x3), some (.int x4), some (.int x5), some (.int (x5 / 3)), some (.int v7), some (.int v10), some (.int 0), none, none] [] h19)))))) ∧ (v10 = (-1) → Wp mX4_weighSites Q 0 0 24 [some (.ref 74), some (.int x1), some (.int x2), some (.int x3), some (.int x4), some (.int (x5 + 1)), none, none, none, none, none, none] [] h8))))))))) : Wp mX4_weighSites Q 0 0 24 [some (.ref 74), some (.int x1), some (.int x2), some (.int x3), some (.int x4), some (.int x5), none, none, none, none, none, none] [] h := by
  refine ab_iload (i := 5) dX4_weighSites_24 rfl ?_
  refine ab_iload (i := 4) dX4_weighSites_26 rfl ?_
  refine ab_icmp_ge (tgt := 211) dX4_weighSites_28 (by decide) (fun c4 => ?_) (fun c4 => ?_)
  · have ht := ht.1 c4
    exact ab_vret rfl dX4_weighSites_211 (Nat.le_of_ble_eq_true rfl) (Nat.le_of_ble_eq_true rfl) ht
  · have ht := ht.2 c4
    refine ab_iload (i := 5) dX4_weighSites_31 rfl ?_
    refine ab_iconst (v := 3) dX4_weighSites_33 (by decide) ?_
    refine ab_idiv dX4_weighSites_34 (by decide) ?_
    refine ab_istore (i := 6) (L' := [some (.ref 74), some (.int x1), some (.int x2), some (.int x3), some (.int x4), some (.int x5), some (.int (x5 / 3)), none, none, none, none, none]) dX4_weighSites_35 (by exact (Nat.le_of_ble_eq_true rfl)) rfl rfl ?_
    refine ab_iload_n (i := 1) dX4_weighSites_37 rfl rfl ?_
    refine ab_iload (i := 6) dX4_weighSites_38 rfl ?_
    refine ab_callS (As := [.int x1, .int (x5 / 3)]) ht (Y_X4_placeOf) l_X4_86 st_X4_placeOf rfl ⟨(Nat.le_of_ble_eq_true rfl), (Nat.le_of_ble_eq_true rfl), (Nat.le_of_ble_eq_true rfl), (Nat.le_of_ble_eq_true rfl)⟩ dX4_weighSites_40 ?_
    rintro _ h5 ⟨v7, rfl, hs6, ht⟩
    refine ab_istore (i := 7) (L' := [some (.ref 74), some (.int x1), some (.int x2), some (.int x3), some (.int x4), some (.int x5), some (.int (x5 / 3)), some (.int v7), none, none, none, none]) dX4_weighSites_43 (by exact (Nat.le_of_ble_eq_true rfl)) rfl rfl ?_
    refine ab_iload_n (i := 2) dX4_weighSites_45 rfl rfl ?_
    refine ab_iload (i := 5) dX4_weighSites_46 rfl ?_
    refine ab_iconst (v := 3) dX4_weighSites_48 (by decide) ?_
    refine ab_irem dX4_weighSites_49 (by decide) ?_
    refine ab_callS (As := [.int x2, .int (x5 - x5 / 3 * 3)]) ht (Y_X4_placeOf) l_X4_86 st_X4_placeOf rfl ⟨(Nat.le_of_ble_eq_true rfl), (Nat.le_of_ble_eq_true rfl), (Nat.le_of_ble_eq_true rfl), (Nat.le_of_ble_eq_true rfl)⟩ dX4_weighSites_50 ?_
    rintro _ h8 ⟨v10, rfl, hs9, ht⟩
    refine ab_istore (i := 8) (L' := [some (.ref 74), some (.int x1), some (.int x2), some (.int x3), some (.int x4), some (.int x5), some (.int (x5 / 3)), some (.int v7), some (.int v10), none, none, none]) dX4_weighSites_53 (by exact (Nat.le_of_ble_eq_true rfl)) rfl rfl ?_
    refine ab_iload (i := 8) dX4_weighSites_55 rfl ?_
    refine ab_iconst (v := (-1)) dX4_weighSites_57 (by decide) ?_
    refine ab_icmp_ne (tgt := 64) dX4_weighSites_58 (by decide) (fun c11 => ?_) (fun c11 => ?_)
    · have ht := ht.1 c11
      refine ab_aload_n (i := 0) dX4_weighSites_64 rfl rfl ?_
      refine ab_getR (b := 77) f_X4_31 rfl (sh_k hs9 74 4 (by decide) rfl) (sh_r hs9 94 rfl) dX4_weighSites_65 ?_
      refine ab_iload (i := 5) dX4_weighSites_68 rfl ?_
      refine ab_aload_n (i := 0) dX4_weighSites_70 rfl rfl ?_
      refine ab_getR (b := 29) f_X4_54 rfl (sh_k hs9 74 4 (by decide) rfl) (sh_r hs9 90 rfl) dX4_weighSites_71 ?_
      refine ab_iload (i := 7) dX4_weighSites_74 rfl ?_
      refine ab_aload_n (i := 0) dX4_weighSites_76 rfl rfl ?_
      refine ab_getR (b := 38) f_X4_58 rfl (sh_k hs9 74 4 (by decide) rfl) (sh_r hs9 91 rfl) dX4_weighSites_77 ?_
      refine ab_iconst (v := 1) dX4_weighSites_80 (by decide) ?_
      refine ab_iload (i := 6) dX4_weighSites_81 rfl ?_
      refine ab_iload (i := 8) dX4_weighSites_83 rfl ?_
      refine ab_iconst (v := (-1)) dX4_weighSites_85 (by decide) ?_
      refine ab_iconst (v := (-1)) dX4_weighSites_86 (by decide) ?_
      refine ab_iconst (v := (-1)) dX4_weighSites_87 (by decide) ?_
      refine ab_iload_n (i := 3) dX4_weighSites_88 rfl rfl ?_
      refine ab_callV (b := 38) (As := [.int 1, .int (x5 / 3), .int v10, .int (-1), .int (-1), .int (-1), .int x3]) ht (Y_X8_ask) l_X4_95 in_X8_ask se_X8_ask (sh_k hs9 38 8 (by decide) rfl) (by decide) rfl rfl ⟨(Nat.le_of_ble_eq_true rfl), (Nat.le_of_ble_eq_true rfl), (Nat.le_of_ble_eq_true rfl), (Nat.le_of_ble_eq_true rfl)⟩ dX4_weighSites_89 ?_
      rintro _ h12 ⟨v14, rfl, hs13, ht⟩
      refine ab_callV (b := 29) (As := [.int v7, .int v14]) ht (Y_X6_within) l_X4_101 in_X6_within se_X6_within (sh_k hs13 29 6 (by decide) rfl) (by decide) rfl rfl ⟨(Nat.le_of_ble_eq_true rfl), (Nat.le_of_ble_eq_true rfl), (Nat.le_of_ble_eq_true rfl), (Nat.le_of_ble_eq_true rfl)⟩ dX4_weighSites_92 ?_
      rintro _ h15 ⟨v17, rfl, hs16, ht⟩
      obtain ⟨hc18, ht⟩ := ht
      refine ab_iast (sh_k hs16 77 14 (by decide) rfl) hc18 dX4_weighSites_95 ?_
      refine Wp.nm fun h19 e20 => ?_
      have ht := ht h19 e20
      have hs21 : Sh h19 := by rw [e20]; exact sh_si hs16
      refine ab_iconst (v := 0) dX4_weighSites_96 (by decide) ?_
      refine ab_istore (i := 9) (L' := [some (.ref 74), some (.int x1), some (.int x2), some (.int x3), some (.int x4), some (.int x5), some (.int (x5 / 3)), some (.int v7), some (.int v10), some (.int 0), none, none]) dX4_weighSites_97 (by exact (Nat.le_of_ble_eq_true rfl)) rfl rfl ?_
      exact Wp.fewer (L' := [some (.ref 74), some (.int x1), some (.int x2), some (.int x3), some (.int x4), some (.int x5), some (.int (x5 / 3)), some (.int v7), some (.int v10), some (.int 0), none, none]) (show ab_leL _ _ from ⟨rfl, ⟨rfl, ⟨rfl, ⟨rfl, ⟨rfl, ⟨rfl, ⟨rfl, ⟨rfl, ⟨rfl, ⟨rfl, trivial⟩⟩⟩⟩⟩⟩⟩⟩⟩⟩) ht
    · have ht := ht.2 c11
      refine ab_goto (tgt := 205) dX4_weighSites_61 (by decide) ?_
      refine ab_iinc (i := 5) (x := x5) (v := (x5 + 1)) (L' := [some (.ref 74), some (.int x1), some (.int x2), some (.int x3), some (.int x4), some (.int (x5 + 1)), some (.int (x5 / 3)), some (.int v7), some (.int v10), none, none, none]) dX4_weighSites_205 rfl rfl (by exact (Nat.le_of_ble_eq_true rfl)) rfl rfl ?_
      refine ab_goto (tgt := 24) dX4_weighSites_208 (by decide) ?_
      exact Wp.fewer (L' := [some (.ref 74), some (.int x1), some (.int x2), some (.int x3), some (.int x4), some (.int (x5 + 1)), none, none, none, none, none, none]) (show ab_leL _ _ from ⟨rfl, ⟨rfl, ⟨rfl, ⟨rfl, ⟨rfl, ⟨rfl, trivial⟩⟩⟩⟩⟩⟩) ht
set_option maxRecDepth 20000 in
theorem T_X4_weighSites_99 {Q : Option Value → ah_T → Prop} {h : ah_T} (hs : Sh h) (x1 : Int32) (x2 : Int32) (x3 : Int32) (x4 : Int32) (x5 : Int32) (x6 : Int32) (x7 : Int32) (x8 : Int32) (x9 : Int32) (ht : ((x4 ≤ x9 → Wp mX4_weighSites Q 0 0 24 [some (.ref 74), some (.int x1), some (.int x2), some (.int x3), some (.int x4), some (.int (x5 + 1)), none, none, none, none, none, none] [] h) ∧ (¬ x4 ≤ x9 → (Mt mX4_placeOf [.int x2, .int (x9 - x9 / 3 * 3)] h (ab_qi fun v25 h23 => Sh h23 ∧ (Mt mX4_placeOf [.int x1, .int (x9 / 3)] h23 (ab_qi fun v28 h26 => Sh h26 ∧ ((¬ (f_X11_isIn x7 12) = 0 → (¬ (f_X11_isIn v28 12) = 0 → vp_in ((x7 * 12) + v28) (ah_n h26 34)))) ∧ (((x9 / 3) = x6 → Wp mX4_weighSites Q 0 0 99 [some (.ref 74), some (.int x1), some (.int x2), some (.int x3), some (.int x4), some (.int x5), some (.int x6), some (.int x7), some (.int x8), some (.int (x9 + 1)), none, none] [] h26) ∧ (¬ (x9 / 3) = x6 → ((v25 = (-1) → Wp mX4_weighSites Q 0 0 99 [some (.ref 74), some (.int x1), some (.int x2), some (.int x3), some (.int x4), some (.int x5), some (.int x6), some (.int x7), some (.int x8), some (.int (x9 + 1)), none, none] [] h26) ∧ (¬ v25 = (-1) → (Mt mX8_ask [.ref 38, .int 0, .int x6, .int x8, .int v25, .int (f_X6_sight h26 x7 v28), .int 0, .int x3] h26 (ab_qi fun v34 h32 => Sh h32 ∧ ((v34 = 0 → Wp mX4_weighSites Q 0 0 99 [some (.ref 74), some (.int x1), some (.int x2), some (.int x3), some (.int x4), some (.int x5), some (.int x6), some (.int x7), some (.int x8), some (.int (x9 + 1)), none, none] [] h32) ∧ (¬ v34 = 0 → (vp_in x5 (ah_n h32 78)) ∧ (vp_in x5 (ah_n h32 78)) ∧ (∀ h38, h38 = ah_si h32 78 (Int32.toNatClampNeg x5) ((ah_i h32 78 (Int32.toNatClampNeg x5)) ||| ((1 : Int32) <<< (x9 &&& 31))) → (vp_in x9 (ah_n h38 78)) ∧ (vp_in x9 (ah_n h38 78)) ∧ (∀ h43, h43 = ah_si h38 78 (Int32.toNatClampNeg x9) ((ah_i h38 78 (Int32.toNatClampNeg x9)) ||| ((1 : Int32) <<< (x5 &&& 31))) → Wp mX4_weighSites Q 0 0 99 [some (.ref 74), some (.int x1), some (.int x2), some (.int x3), some (.int x4), some (.int x5), some (.int x6), some (.int x7), some (.int x8), some (.int (x9 + 1)), none, none] [] h43))))))))))))))))) : Wp mX4_weighSites Q 0 0 99 [some (.ref 74), some (.int x1), some (.int x2), some (.int x3), some (.int x4), some (.int x5), some (.int x6), some (.int x7), some (.int x8), some (.int x9), none, none] [] h := by
  refine ab_iload (i := 9) dX4_weighSites_99 rfl ?_
  refine ab_iload (i := 4) dX4_weighSites_101 rfl ?_
  refine ab_icmp_ge (tgt := 205) dX4_weighSites_103 (by decide) (fun c22 => ?_) (fun c22 => ?_)
  · have ht := ht.1 c22
    refine ab_iinc (i := 5) (x := x5) (v := (x5 + 1)) (L' := [some (.ref 74), some (.int x1), some (.int x2), some (.int x3), some (.int x4), some (.int (x5 + 1)), some (.int x6), some (.int x7), some (.int x8), some (.int x9), none, none]) dX4_weighSites_205 rfl rfl (by exact (Nat.le_of_ble_eq_true rfl)) rfl rfl ?_
    refine ab_goto (tgt := 24) dX4_weighSites_208 (by decide) ?_
    exact Wp.fewer (L' := [some (.ref 74), some (.int x1), some (.int x2), some (.int x3), some (.int x4), some (.int (x5 + 1)), none, none, none, none, none, none]) (show ab_leL _ _ from ⟨rfl, ⟨rfl, ⟨rfl, ⟨rfl, ⟨rfl, ⟨rfl, trivial⟩⟩⟩⟩⟩⟩) ht
  · have ht := ht.2 c22
    refine ab_iload_n (i := 2) dX4_weighSites_106 rfl rfl ?_
    refine ab_iload (i := 9) dX4_weighSites_107 rfl ?_
    refine ab_iconst (v := 3) dX4_weighSites_109 (by decide) ?_
    refine ab_irem dX4_weighSites_110 (by decide) ?_
    refine ab_callS (As := [.int x2, .int (x9 - x9 / 3 * 3)]) ht (Y_X4_placeOf) l_X4_86 st_X4_placeOf rfl ⟨(Nat.le_of_ble_eq_true rfl), (Nat.le_of_ble_eq_true rfl), (Nat.le_of_ble_eq_true rfl), (Nat.le_of_ble_eq_true rfl)⟩ dX4_weighSites_111 ?_
    rintro _ h23 ⟨v25, rfl, hs24, ht⟩
    refine ab_istore (i := 10) (L' := [some (.ref 74), some (.int x1), some (.int x2), some (.int x3), some (.int x4), some (.int x5), some (.int x6), some (.int x7), some (.int x8), some (.int x9), some (.int v25), none]) dX4_weighSites_114 (by exact (Nat.le_of_ble_eq_true rfl)) rfl rfl ?_
    refine ab_aload_n (i := 0) dX4_weighSites_116 rfl rfl ?_
    refine ab_getR (b := 29) f_X4_54 rfl (sh_k hs24 74 4 (by decide) rfl) (sh_r hs24 90 rfl) dX4_weighSites_117 ?_
    refine ab_iload (i := 7) dX4_weighSites_120 rfl ?_
    refine ab_iload_n (i := 1) dX4_weighSites_122 rfl rfl ?_
    refine ab_iload (i := 9) dX4_weighSites_123 rfl ?_
    refine ab_iconst (v := 3) dX4_weighSites_125 (by decide) ?_
    refine ab_idiv dX4_weighSites_126 (by decide) ?_
    refine ab_callS (As := [.int x1, .int (x9 / 3)]) ht (Y_X4_placeOf) l_X4_86 st_X4_placeOf rfl ⟨(Nat.le_of_ble_eq_true rfl), (Nat.le_of_ble_eq_true rfl), (Nat.le_of_ble_eq_true rfl), (Nat.le_of_ble_eq_true rfl)⟩ dX4_weighSites_127 ?_
    rintro _ h26 ⟨v28, rfl, hs27, ht⟩
    obtain ⟨hc29, ht⟩ := ht
    refine ab_callV (b := 29) (Q' := fun r h' => r = some (.int (f_X6_sight h26 x7 v28)) ∧ h26 = h') (As := [.int x7, .int v28]) (c_X6_sight hs27 x7 v28  hc29 ⟨rfl, rfl⟩) (Y_X6_sight) l_X4_106 in_X6_sight se_X6_sight (sh_k hs27 29 6 (by decide) rfl) (by decide) rfl rfl ⟨(Nat.le_of_ble_eq_true rfl), (Nat.le_of_ble_eq_true rfl), (Nat.le_of_ble_eq_true rfl), (Nat.le_of_ble_eq_true rfl)⟩ dX4_weighSites_130 ?_
    rintro _ _ ⟨rfl, rfl⟩
    refine ab_istore (i := 11) (L' := [some (.ref 74), some (.int x1), some (.int x2), some (.int x3), some (.int x4), some (.int x5), some (.int x6), some (.int x7), some (.int x8), some (.int x9), some (.int v25), some (.int (f_X6_sight h26 x7 v28))]) dX4_weighSites_133 (by exact (Nat.le_of_ble_eq_true rfl)) rfl rfl ?_
    refine ab_iload (i := 9) dX4_weighSites_135 rfl ?_
    refine ab_iconst (v := 3) dX4_weighSites_137 (by decide) ?_
    refine ab_idiv dX4_weighSites_138 (by decide) ?_
    refine ab_iload (i := 6) dX4_weighSites_139 rfl ?_
    refine ab_icmp_eq (tgt := 199) dX4_weighSites_141 (by decide) (fun c30 => ?_) (fun c30 => ?_)
    · have ht := ht.1 c30
      refine ab_iinc (i := 9) (x := x9) (v := (x9 + 1)) (L' := [some (.ref 74), some (.int x1), some (.int x2), some (.int x3), some (.int x4), some (.int x5), some (.int x6), some (.int x7), some (.int x8), some (.int (x9 + 1)), some (.int v25), some (.int (f_X6_sight h26 x7 v28))]) dX4_weighSites_199 rfl rfl (by exact (Nat.le_of_ble_eq_true rfl)) rfl rfl ?_
      refine ab_goto (tgt := 99) dX4_weighSites_202 (by decide) ?_
      exact Wp.fewer (L' := [some (.ref 74), some (.int x1), some (.int x2), some (.int x3), some (.int x4), some (.int x5), some (.int x6), some (.int x7), some (.int x8), some (.int (x9 + 1)), none, none]) (show ab_leL _ _ from ⟨rfl, ⟨rfl, ⟨rfl, ⟨rfl, ⟨rfl, ⟨rfl, ⟨rfl, ⟨rfl, ⟨rfl, ⟨rfl, trivial⟩⟩⟩⟩⟩⟩⟩⟩⟩⟩) ht
    · have ht := ht.2 c30
      refine ab_iload (i := 10) dX4_weighSites_144 rfl ?_
      refine ab_iconst (v := (-1)) dX4_weighSites_146 (by decide) ?_
      refine ab_icmp_eq (tgt := 199) dX4_weighSites_147 (by decide) (fun c31 => ?_) (fun c31 => ?_)
      · have ht := ht.1 c31
        refine ab_iinc (i := 9) (x := x9) (v := (x9 + 1)) (L' := [some (.ref 74), some (.int x1), some (.int x2), some (.int x3), some (.int x4), some (.int x5), some (.int x6), some (.int x7), some (.int x8), some (.int (x9 + 1)), some (.int v25), some (.int (f_X6_sight h26 x7 v28))]) dX4_weighSites_199 rfl rfl (by exact (Nat.le_of_ble_eq_true rfl)) rfl rfl ?_
        refine ab_goto (tgt := 99) dX4_weighSites_202 (by decide) ?_
        exact Wp.fewer (L' := [some (.ref 74), some (.int x1), some (.int x2), some (.int x3), some (.int x4), some (.int x5), some (.int x6), some (.int x7), some (.int x8), some (.int (x9 + 1)), none, none]) (show ab_leL _ _ from ⟨rfl, ⟨rfl, ⟨rfl, ⟨rfl, ⟨rfl, ⟨rfl, ⟨rfl, ⟨rfl, ⟨rfl, ⟨rfl, trivial⟩⟩⟩⟩⟩⟩⟩⟩⟩⟩) ht
      · have ht := ht.2 c31
        refine ab_aload_n (i := 0) dX4_weighSites_150 rfl rfl ?_
        refine ab_getR (b := 38) f_X4_58 rfl (sh_k hs27 74 4 (by decide) rfl) (sh_r hs27 91 rfl) dX4_weighSites_151 ?_
        refine ab_iconst (v := 0) dX4_weighSites_154 (by decide) ?_
        refine ab_iload (i := 6) dX4_weighSites_155 rfl ?_
        refine ab_iload (i := 8) dX4_weighSites_157 rfl ?_
        refine ab_iload (i := 10) dX4_weighSites_159 rfl ?_
        refine ab_iload (i := 11) dX4_weighSites_161 rfl ?_
        refine ab_iconst (v := 0) dX4_weighSites_163 (by decide) ?_
        refine ab_iload_n (i := 3) dX4_weighSites_164 rfl rfl ?_
        refine ab_callV (b := 38) (As := [.int 0, .int x6, .int x8, .int v25, .int (f_X6_sight h26 x7 v28), .int 0, .int x3]) ht (Y_X8_ask) l_X4_95 in_X8_ask se_X8_ask (sh_k hs27 38 8 (by decide) rfl) (by decide) rfl rfl ⟨(Nat.le_of_ble_eq_true rfl), (Nat.le_of_ble_eq_true rfl), (Nat.le_of_ble_eq_true rfl), (Nat.le_of_ble_eq_true rfl)⟩ dX4_weighSites_165 ?_
        rintro _ h32 ⟨v34, rfl, hs33, ht⟩
        refine ab_if_eq (tgt := 199) dX4_weighSites_168 (by decide) (fun c35 => ?_) (fun c35 => ?_)
        · have ht := ht.1 c35
          refine ab_iinc (i := 9) (x := x9) (v := (x9 + 1)) (L' := [some (.ref 74), some (.int x1), some (.int x2), some (.int x3), some (.int x4), some (.int x5), some (.int x6), some (.int x7), some (.int x8), some (.int (x9 + 1)), some (.int v25), some (.int (f_X6_sight h26 x7 v28))]) dX4_weighSites_199 rfl rfl (by exact (Nat.le_of_ble_eq_true rfl)) rfl rfl ?_
          refine ab_goto (tgt := 99) dX4_weighSites_202 (by decide) ?_
          exact Wp.fewer (L' := [some (.ref 74), some (.int x1), some (.int x2), some (.int x3), some (.int x4), some (.int x5), some (.int x6), some (.int x7), some (.int x8), some (.int (x9 + 1)), none, none]) (show ab_leL _ _ from ⟨rfl, ⟨rfl, ⟨rfl, ⟨rfl, ⟨rfl, ⟨rfl, ⟨rfl, ⟨rfl, ⟨rfl, ⟨rfl, trivial⟩⟩⟩⟩⟩⟩⟩⟩⟩⟩) ht
        · have ht := ht.2 c35
          refine ab_aload_n (i := 0) dX4_weighSites_171 rfl rfl ?_
          refine ab_getR (b := 78) f_X4_34 rfl (sh_k hs33 74 4 (by decide) rfl) (sh_r hs33 95 rfl) dX4_weighSites_172 ?_
          refine ab_iload (i := 5) dX4_weighSites_175 rfl ?_
          refine ab_dup2 dX4_weighSites_177 rfl rfl ?_
          obtain ⟨hc36, ht⟩ := ht
          refine ab_iald (sh_k hs33 78 14 (by decide) rfl) hc36 dX4_weighSites_178 ?_
          refine ab_iconst (v := 1) dX4_weighSites_179 (by decide) ?_
          refine ab_iload (i := 9) dX4_weighSites_180 rfl ?_
          refine ab_ishl dX4_weighSites_182 ?_
          refine ab_ior dX4_weighSites_183 ?_
          obtain ⟨hc37, ht⟩ := ht
          refine ab_iast (sh_k hs33 78 14 (by decide) rfl) hc37 dX4_weighSites_184 ?_
          refine Wp.nm fun h38 e39 => ?_
          have ht := ht h38 e39
          have hs40 : Sh h38 := by rw [e39]; exact sh_si hs33
          refine ab_aload_n (i := 0) dX4_weighSites_185 rfl rfl ?_
          refine ab_getR (b := 78) f_X4_34 rfl (sh_k hs40 74 4 (by decide) rfl) (sh_r hs40 95 rfl) dX4_weighSites_186 ?_
          refine ab_iload (i := 9) dX4_weighSites_189 rfl ?_
          refine ab_dup2 dX4_weighSites_191 rfl rfl ?_
          obtain ⟨hc41, ht⟩ := ht
          refine ab_iald (sh_k hs40 78 14 (by decide) rfl) hc41 dX4_weighSites_192 ?_
          refine ab_iconst (v := 1) dX4_weighSites_193 (by decide) ?_
          refine ab_iload (i := 5) dX4_weighSites_194 rfl ?_
          refine ab_ishl dX4_weighSites_196 ?_
          refine ab_ior dX4_weighSites_197 ?_
          obtain ⟨hc42, ht⟩ := ht
          refine ab_iast (sh_k hs40 78 14 (by decide) rfl) hc42 dX4_weighSites_198 ?_
          refine Wp.nm fun h43 e44 => ?_
          have ht := ht h43 e44
          have hs45 : Sh h43 := by rw [e44]; exact sh_si hs40
          refine ab_iinc (i := 9) (x := x9) (v := (x9 + 1)) (L' := [some (.ref 74), some (.int x1), some (.int x2), some (.int x3), some (.int x4), some (.int x5), some (.int x6), some (.int x7), some (.int x8), some (.int (x9 + 1)), some (.int v25), some (.int (f_X6_sight h26 x7 v28))]) dX4_weighSites_199 rfl rfl (by exact (Nat.le_of_ble_eq_true rfl)) rfl rfl ?_
          refine ab_goto (tgt := 99) dX4_weighSites_202 (by decide) ?_
          exact Wp.fewer (L' := [some (.ref 74), some (.int x1), some (.int x2), some (.int x3), some (.int x4), some (.int x5), some (.int x6), some (.int x7), some (.int x8), some (.int (x9 + 1)), none, none]) (show ab_leL _ _ from ⟨rfl, ⟨rfl, ⟨rfl, ⟨rfl, ⟨rfl, ⟨rfl, ⟨rfl, ⟨rfl, ⟨rfl, ⟨rfl, trivial⟩⟩⟩⟩⟩⟩⟩⟩⟩⟩) ht
set_option maxRecDepth 20000 in
theorem T_X4_weighSites {Q : Option Value → ah_T → Prop} {h : ah_T} (hs : Sh h) (x1 : Int32) (x2 : Int32) (x3 : Int32) (ht : (Mt mJ7_fill_53178 [.ref 78, .int 0] h (ab_qv fun h1 => Sh h1 ∧ Wp mX4_weighSites Q 0 0 24 [some (.ref 74), some (.int x1), some (.int x2), some (.int x3), some (.int ((if (f_J6_bitCount_0f7a4 x1) < 6 then (f_J6_bitCount_0f7a4 x1) else 6) * 3)), some (.int 0), none, none, none, none, none, none] [] h1))) : Mt mX4_weighSites [.ref 74, .int x1, .int x2, .int x3] h Q := by
  refine Mt.ofWp rfl (by exact (Nat.le_of_ble_eq_true rfl)) (Wp.fewer (L' := [some (.ref 74), some (.int x1), some (.int x2), some (.int x3), none, none, none, none, none, none, none, none]) (show ab_leL _ _ from ⟨rfl, ⟨rfl, ⟨rfl, ⟨rfl, trivial⟩⟩⟩⟩) ?_)
  refine ab_bipush (v := 6) dX4_weighSites_0 (by decide) ?_
  refine ab_iload_n (i := 1) dX4_weighSites_2 rfl rfl ?_
  refine ab_callS (Q' := fun r h' => r = some (.int (f_J6_bitCount_0f7a4 x1)) ∧ h = h') (As := [.int x1]) (c_J6_bitCount_0f7a4 hs x1 ⟨rfl, rfl⟩) (Y_J6_bitCount_0f7a4) l_X4_66 st_J6_bitCount_0f7a4 rfl ⟨(Nat.le_of_ble_eq_true rfl), (Nat.le_of_ble_eq_true rfl), (Nat.le_of_ble_eq_true rfl), (Nat.le_of_ble_eq_true rfl)⟩ dX4_weighSites_3 ?_
  rintro _ _ ⟨rfl, rfl⟩
  refine ab_mmin (tb_6 (List.mem_of_getElem? (i := 28) (by decide +kernel)) rfl) st_mmin in_m co_mmin (Nat.le_of_ble_eq_true rfl) (Nat.le_of_ble_eq_true rfl) (Nat.le_of_ble_eq_true rfl) (Nat.le_of_ble_eq_true rfl) dX4_weighSites_6 ?_
  refine ab_iconst (v := 3) dX4_weighSites_9 (by decide) ?_
  refine ab_imul dX4_weighSites_10 ?_
  refine ab_istore (i := 4) (L' := [some (.ref 74), some (.int x1), some (.int x2), some (.int x3), some (.int ((if (f_J6_bitCount_0f7a4 x1) < 6 then (f_J6_bitCount_0f7a4 x1) else 6) * 3)), none, none, none, none, none, none, none]) dX4_weighSites_11 (by exact (Nat.le_of_ble_eq_true rfl)) rfl rfl ?_
  refine ab_aload_n (i := 0) dX4_weighSites_13 rfl rfl ?_
  refine ab_getR (b := 78) f_X4_34 rfl (sh_k hs 74 4 (by decide) rfl) (sh_r hs 95 rfl) dX4_weighSites_14 ?_
  refine ab_iconst (v := 0) dX4_weighSites_17 (by decide) ?_
  refine ab_callS (As := [.ref 78, .int 0]) ht (Y_J7_fill_53178) l_X4_89 st_J7_fill_53178 rfl ⟨(Nat.le_of_ble_eq_true rfl), (Nat.le_of_ble_eq_true rfl), (Nat.le_of_ble_eq_true rfl), (Nat.le_of_ble_eq_true rfl)⟩ dX4_weighSites_18 ?_
  rintro _ h1 ⟨rfl, hs2, ht⟩
  refine ab_iconst (v := 0) dX4_weighSites_21 (by decide) ?_
  refine ab_istore (i := 5) (L' := [some (.ref 74), some (.int x1), some (.int x2), some (.int x3), some (.int ((if (f_J6_bitCount_0f7a4 x1) < 6 then (f_J6_bitCount_0f7a4 x1) else 6) * 3)), some (.int 0), none, none, none, none, none, none]) dX4_weighSites_22 (by exact (Nat.le_of_ble_eq_true rfl)) rfl rfl ?_
  exact Wp.fewer (L' := [some (.ref 74), some (.int x1), some (.int x2), some (.int x3), some (.int ((if (f_J6_bitCount_0f7a4 x1) < 6 then (f_J6_bitCount_0f7a4 x1) else 6) * 3)), some (.int 0), none, none, none, none, none, none]) (show ab_leL _ _ from ⟨rfl, ⟨rfl, ⟨rfl, ⟨rfl, ⟨rfl, ⟨rfl, trivial⟩⟩⟩⟩⟩⟩) ht
theorem dX4_lampsOf_0 : decode cX4_lampsOf 0 = .ok (.iconst 0, 1) := by decide +kernel
theorem dX4_lampsOf_1 : decode cX4_lampsOf 1 = .ok (.istore 5, 2) := by decide +kernel
theorem dX4_lampsOf_3 : decode cX4_lampsOf 3 = .ok (.iload 4, 2) := by decide +kernel
theorem dX4_lampsOf_5 : decode cX4_lampsOf 5 = .ok (.istore 6, 2) := by decide +kernel
theorem dX4_lampsOf_7 : decode cX4_lampsOf 7 = .ok (.iload_n 2, 1) := by decide +kernel
theorem dX4_lampsOf_8 : decode cX4_lampsOf 8 = .ok (.iload_n 3, 1) := by decide +kernel
theorem dX4_lampsOf_9 : decode cX4_lampsOf 9 = .ok (.idiv, 1) := by decide +kernel
theorem dX4_lampsOf_10 : decode cX4_lampsOf 10 = .ok (.istore 7, 2) := by decide +kernel
theorem dX4_lampsOf_12 : decode cX4_lampsOf 12 = .ok (.iconst 0, 1) := by decide +kernel
theorem dX4_lampsOf_13 : decode cX4_lampsOf 13 = .ok (.istore 8, 2) := by decide +kernel
theorem dX4_lampsOf_15 : decode cX4_lampsOf 15 = .ok (.iload 8, 2) := by decide +kernel
theorem dX4_lampsOf_17 : decode cX4_lampsOf 17 = .ok (.bipush 6, 2) := by decide +kernel
theorem dX4_lampsOf_19 : decode cX4_lampsOf 19 = .ok (.if_icmp .ge 82, 3) := by decide +kernel
theorem dX4_lampsOf_22 : decode cX4_lampsOf 22 = .ok (.iload 7, 2) := by decide +kernel
theorem dX4_lampsOf_24 : decode cX4_lampsOf 24 = .ok (.ifCond .le 77, 3) := by decide +kernel
theorem dX4_lampsOf_27 : decode cX4_lampsOf 27 = .ok (.iload_n 1, 1) := by decide +kernel
theorem dX4_lampsOf_28 : decode cX4_lampsOf 28 = .ok (.iload 7, 2) := by decide +kernel
theorem dX4_lampsOf_30 : decode cX4_lampsOf 30 = .ok (.idiv, 1) := by decide +kernel
theorem dX4_lampsOf_31 : decode cX4_lampsOf 31 = .ok (.iload_n 3, 1) := by decide +kernel
theorem dX4_lampsOf_32 : decode cX4_lampsOf 32 = .ok (.irem, 1) := by decide +kernel
theorem dX4_lampsOf_33 : decode cX4_lampsOf 33 = .ok (.istore 9, 2) := by decide +kernel
theorem dX4_lampsOf_35 : decode cX4_lampsOf 35 = .ok (.iload 9, 2) := by decide +kernel
theorem dX4_lampsOf_37 : decode cX4_lampsOf 37 = .ok (.ifCond .le 52, 3) := by decide +kernel
theorem dX4_lampsOf_40 : decode cX4_lampsOf 40 = .ok (.iload 8, 2) := by decide +kernel
theorem dX4_lampsOf_42 : decode cX4_lampsOf 42 = .ok (.iconst 3, 1) := by decide +kernel
theorem dX4_lampsOf_43 : decode cX4_lampsOf 43 = .ok (.imul, 1) := by decide +kernel
theorem dX4_lampsOf_44 : decode cX4_lampsOf 44 = .ok (.iload 9, 2) := by decide +kernel
theorem dX4_lampsOf_46 : decode cX4_lampsOf 46 = .ok (.iadd, 1) := by decide +kernel
theorem dX4_lampsOf_47 : decode cX4_lampsOf 47 = .ok (.iconst 1, 1) := by decide +kernel
theorem dX4_lampsOf_48 : decode cX4_lampsOf 48 = .ok (.isub, 1) := by decide +kernel
theorem dX4_lampsOf_49 : decode cX4_lampsOf 49 = .ok (.istore 10, 2) := by decide +kernel
theorem dX4_lampsOf_51 : decode cX4_lampsOf 51 = .ok (.aload_n 0, 1) := by decide +kernel
theorem dX4_lampsOf_52 : decode cX4_lampsOf 52 = .ok (.getfield 34, 3) := by decide +kernel
theorem dX4_lampsOf_55 : decode cX4_lampsOf 55 = .ok (.iload 10, 2) := by decide +kernel
theorem dX4_lampsOf_57 : decode cX4_lampsOf 57 = .ok (.iaload, 1) := by decide +kernel
theorem dX4_lampsOf_58 : decode cX4_lampsOf 58 = .ok (.iload 5, 2) := by decide +kernel
theorem dX4_lampsOf_60 : decode cX4_lampsOf 60 = .ok (.iand, 1) := by decide +kernel
theorem dX4_lampsOf_61 : decode cX4_lampsOf 61 = .ok (.ifCond .eq 5, 3) := by decide +kernel
theorem dX4_lampsOf_64 : decode cX4_lampsOf 64 = .ok (.iconst (-1), 1) := by decide +kernel
theorem dX4_lampsOf_65 : decode cX4_lampsOf 65 = .ok (.ireturn, 1) := by decide +kernel
theorem dX4_lampsOf_66 : decode cX4_lampsOf 66 = .ok (.iload 5, 2) := by decide +kernel
theorem dX4_lampsOf_68 : decode cX4_lampsOf 68 = .ok (.iconst 1, 1) := by decide +kernel
theorem dX4_lampsOf_69 : decode cX4_lampsOf 69 = .ok (.iload 10, 2) := by decide +kernel
theorem dX4_lampsOf_71 : decode cX4_lampsOf 71 = .ok (.ishl, 1) := by decide +kernel
theorem dX4_lampsOf_72 : decode cX4_lampsOf 72 = .ok (.ior, 1) := by decide +kernel
theorem dX4_lampsOf_73 : decode cX4_lampsOf 73 = .ok (.istore 5, 2) := by decide +kernel
theorem dX4_lampsOf_75 : decode cX4_lampsOf 75 = .ok (.iload 6, 2) := by decide +kernel
theorem dX4_lampsOf_77 : decode cX4_lampsOf 77 = .ok (.aload_n 0, 1) := by decide +kernel
theorem dX4_lampsOf_78 : decode cX4_lampsOf 78 = .ok (.getfield 31, 3) := by decide +kernel
theorem dX4_lampsOf_81 : decode cX4_lampsOf 81 = .ok (.iload 10, 2) := by decide +kernel
theorem dX4_lampsOf_83 : decode cX4_lampsOf 83 = .ok (.iaload, 1) := by decide +kernel
theorem dX4_lampsOf_84 : decode cX4_lampsOf 84 = .ok (.iconst (-1), 1) := by decide +kernel
theorem dX4_lampsOf_85 : decode cX4_lampsOf 85 = .ok (.ixor, 1) := by decide +kernel
theorem dX4_lampsOf_86 : decode cX4_lampsOf 86 = .ok (.iand, 1) := by decide +kernel
theorem dX4_lampsOf_87 : decode cX4_lampsOf 87 = .ok (.istore 6, 2) := by decide +kernel
theorem dX4_lampsOf_89 : decode cX4_lampsOf 89 = .ok (.iload 7, 2) := by decide +kernel
theorem dX4_lampsOf_91 : decode cX4_lampsOf 91 = .ok (.iload_n 3, 1) := by decide +kernel
theorem dX4_lampsOf_92 : decode cX4_lampsOf 92 = .ok (.idiv, 1) := by decide +kernel
theorem dX4_lampsOf_93 : decode cX4_lampsOf 93 = .ok (.istore 7, 2) := by decide +kernel
theorem dX4_lampsOf_95 : decode cX4_lampsOf 95 = .ok (.iinc 8 1, 3) := by decide +kernel
theorem dX4_lampsOf_98 : decode cX4_lampsOf 98 = .ok (.goto (-83), 3) := by decide +kernel
theorem dX4_lampsOf_101 : decode cX4_lampsOf 101 = .ok (.iload 6, 2) := by decide +kernel
theorem dX4_lampsOf_103 : decode cX4_lampsOf 103 = .ok (.ifCond .ne 11, 3) := by decide +kernel
theorem dX4_lampsOf_106 : decode cX4_lampsOf 106 = .ok (.iload 5, 2) := by decide +kernel
theorem dX4_lampsOf_108 : decode cX4_lampsOf 108 = .ok (.invokestatic 66, 3) := by decide +kernel
theorem dX4_lampsOf_111 : decode cX4_lampsOf 111 = .ok (.goto 4, 3) := by decide +kernel
theorem dX4_lampsOf_114 : decode cX4_lampsOf 114 = .ok (.iconst (-1), 1) := by decide +kernel
theorem dX4_lampsOf_115 : decode cX4_lampsOf 115 = .ok (.ireturn, 1) := by decide +kernel
set_option maxRecDepth 20000 in
theorem T_X4_lampsOf_15 {Q : Option Value → ah_T → Prop} {h : ah_T} (hs : Sh h) (x1 : Int32) (x3 : Int32) (x5 : Int32) (x6 : Int32) (x7 : Int32) (x8 : Int32) (ht : ((6 ≤ x8 → ((¬ x6 = 0 → Q (some (.int (-1))) h) ∧ (x6 = 0 → Q (some (.int (f_J6_bitCount_0f7a4 x5))) h))) ∧ (¬ 6 ≤ x8 → ((x7 ≤ 0 → ((¬ x6 = 0 → Q (some (.int (-1))) h) ∧ (x6 = 0 → Q (some (.int (f_J6_bitCount_0f7a4 x5))) h))) ∧ (¬ x7 ≤ 0 → (¬ x7 = 0) ∧ (¬ x3 = 0) ∧ ((((x1 / x7) - (x1 / x7) / x3 * x3) ≤ 0 → (¬ x3 = 0) ∧ Wp mX4_lampsOf Q 0 0 15 [some (.ref 74), some (.int x1), none, some (.int x3), none, some (.int x5), some (.int x6), some (.int (x7 / x3)), some (.int (x8 + 1)), none, none] [] h) ∧ (¬ ((x1 / x7) - (x1 / x7) / x3 * x3) ≤ 0 → (vp_in (((x8 * 3) + ((x1 / x7) - (x1 / x7) / x3 * x3)) - 1) (ah_n h 78)) ∧ ((((ah_i h 78 (Int32.toNatClampNeg (((x8 * 3) + ((x1 / x7) - (x1 / x7) / x3 * x3)) - 1))) &&& x5) = 0 → (vp_in (((x8 * 3) + ((x1 / x7) - (x1 / x7) / x3 * x3)) - 1) (ah_n h 77)) ∧ (¬ x3 = 0) ∧ Wp mX4_lampsOf Q 0 0 15 [some (.ref 74), some (.int x1), none, some (.int x3), none, some (.int (x5 ||| ((1 : Int32) <<< ((((x8 * 3) + ((x1 / x7) - (x1 / x7) / x3 * x3)) - 1) &&& 31)))), some (.int (x6 &&& ((ah_i h 77 (Int32.toNatClampNeg (((x8 * 3) + ((x1 / x7) - (x1 / x7) / x3 * x3)) - 1))) ^^^ (-1)))), some (.int (x7 / x3)), some (.int (x8 + 1)), none, none] [] h) ∧ (¬ ((ah_i h 78 (Int32.toNatClampNeg (((x8 * 3) + ((x1 / x7) - (x1 / x7) / x3 * x3)) - 1))) &&& x5) = 0 → Q (some (.int (-1))) h))))))))) : Wp mX4_lampsOf Q 0 0 15 [some (.ref 74), some (.int x1), none, some (.int x3), none, some (.int x5), some (.int x6), some (.int x7), some (.int x8), none, none] [] h := by
  refine ab_iload (i := 8) dX4_lampsOf_15 rfl ?_
  refine ab_bipush (v := 6) dX4_lampsOf_17 (by decide) ?_
  refine ab_icmp_ge (tgt := 101) dX4_lampsOf_19 (by decide) (fun c2 => ?_) (fun c2 => ?_)
  · have ht := ht.1 c2
    refine ab_iload (i := 6) dX4_lampsOf_101 rfl ?_
    refine ab_if_ne (tgt := 114) dX4_lampsOf_103 (by decide) (fun c3 => ?_) (fun c3 => ?_)
    · have ht := ht.1 c3
      refine ab_iconst (v := (-1)) dX4_lampsOf_114 (by decide) ?_
      exact ab_iret rfl dX4_lampsOf_115 (Nat.le_of_ble_eq_true rfl) (Nat.le_of_ble_eq_true rfl) ht
    · have ht := ht.2 c3
      refine ab_iload (i := 5) dX4_lampsOf_106 rfl ?_
      refine ab_callS (Q' := fun r h' => r = some (.int (f_J6_bitCount_0f7a4 x5)) ∧ h = h') (As := [.int x5]) (c_J6_bitCount_0f7a4 hs x5 ⟨rfl, rfl⟩) (Y_J6_bitCount_0f7a4) l_X4_66 st_J6_bitCount_0f7a4 rfl ⟨(Nat.le_of_ble_eq_true rfl), (Nat.le_of_ble_eq_true rfl), (Nat.le_of_ble_eq_true rfl), (Nat.le_of_ble_eq_true rfl)⟩ dX4_lampsOf_108 ?_
      rintro _ _ ⟨rfl, rfl⟩
      refine ab_goto (tgt := 115) dX4_lampsOf_111 (by decide) ?_
      exact ab_iret rfl dX4_lampsOf_115 (Nat.le_of_ble_eq_true rfl) (Nat.le_of_ble_eq_true rfl) ht
  · have ht := ht.2 c2
    refine ab_iload (i := 7) dX4_lampsOf_22 rfl ?_
    refine ab_if_le (tgt := 101) dX4_lampsOf_24 (by decide) (fun c4 => ?_) (fun c4 => ?_)
    · have ht := ht.1 c4
      refine ab_iload (i := 6) dX4_lampsOf_101 rfl ?_
      refine ab_if_ne (tgt := 114) dX4_lampsOf_103 (by decide) (fun c5 => ?_) (fun c5 => ?_)
      · have ht := ht.1 c5
        refine ab_iconst (v := (-1)) dX4_lampsOf_114 (by decide) ?_
        exact ab_iret rfl dX4_lampsOf_115 (Nat.le_of_ble_eq_true rfl) (Nat.le_of_ble_eq_true rfl) ht
      · have ht := ht.2 c5
        refine ab_iload (i := 5) dX4_lampsOf_106 rfl ?_
        refine ab_callS (Q' := fun r h' => r = some (.int (f_J6_bitCount_0f7a4 x5)) ∧ h = h') (As := [.int x5]) (c_J6_bitCount_0f7a4 hs x5 ⟨rfl, rfl⟩) (Y_J6_bitCount_0f7a4) l_X4_66 st_J6_bitCount_0f7a4 rfl ⟨(Nat.le_of_ble_eq_true rfl), (Nat.le_of_ble_eq_true rfl), (Nat.le_of_ble_eq_true rfl), (Nat.le_of_ble_eq_true rfl)⟩ dX4_lampsOf_108 ?_
        rintro _ _ ⟨rfl, rfl⟩
        refine ab_goto (tgt := 115) dX4_lampsOf_111 (by decide) ?_
        exact ab_iret rfl dX4_lampsOf_115 (Nat.le_of_ble_eq_true rfl) (Nat.le_of_ble_eq_true rfl) ht
    · have ht := ht.2 c4
      refine ab_iload_n (i := 1) dX4_lampsOf_27 rfl rfl ?_
      refine ab_iload (i := 7) dX4_lampsOf_28 rfl ?_
      obtain ⟨hc6, ht⟩ := ht
      refine ab_idiv dX4_lampsOf_30 hc6 ?_
      refine ab_iload_n (i := 3) dX4_lampsOf_31 rfl rfl ?_
      obtain ⟨hc7, ht⟩ := ht
      refine ab_irem dX4_lampsOf_32 hc7 ?_
      refine ab_istore (i := 9) (L' := [some (.ref 74), some (.int x1), none, some (.int x3), none, some (.int x5), some (.int x6), some (.int x7), some (.int x8), some (.int ((x1 / x7) - (x1 / x7) / x3 * x3)), none]) dX4_lampsOf_33 (by exact (Nat.le_of_ble_eq_true rfl)) rfl rfl ?_
      refine ab_iload (i := 9) dX4_lampsOf_35 rfl ?_
      refine ab_if_le (tgt := 89) dX4_lampsOf_37 (by decide) (fun c8 => ?_) (fun c8 => ?_)
      · have ht := ht.1 c8
        refine ab_iload (i := 7) dX4_lampsOf_89 rfl ?_
        refine ab_iload_n (i := 3) dX4_lampsOf_91 rfl rfl ?_
        obtain ⟨hc9, ht⟩ := ht
        refine ab_idiv dX4_lampsOf_92 hc9 ?_
        refine ab_istore (i := 7) (L' := [some (.ref 74), some (.int x1), none, some (.int x3), none, some (.int x5), some (.int x6), some (.int (x7 / x3)), some (.int x8), some (.int ((x1 / x7) - (x1 / x7) / x3 * x3)), none]) dX4_lampsOf_93 (by exact (Nat.le_of_ble_eq_true rfl)) rfl rfl ?_
        refine ab_iinc (i := 8) (x := x8) (v := (x8 + 1)) (L' := [some (.ref 74), some (.int x1), none, some (.int x3), none, some (.int x5), some (.int x6), some (.int (x7 / x3)), some (.int (x8 + 1)), some (.int ((x1 / x7) - (x1 / x7) / x3 * x3)), none]) dX4_lampsOf_95 rfl rfl (by exact (Nat.le_of_ble_eq_true rfl)) rfl rfl ?_
        refine ab_goto (tgt := 15) dX4_lampsOf_98 (by decide) ?_
        exact Wp.fewer (L' := [some (.ref 74), some (.int x1), none, some (.int x3), none, some (.int x5), some (.int x6), some (.int (x7 / x3)), some (.int (x8 + 1)), none, none]) (show ab_leL _ _ from ⟨rfl, ⟨rfl, ⟨rfl, ⟨rfl, ⟨rfl, ⟨rfl, ⟨rfl, trivial⟩⟩⟩⟩⟩⟩⟩) ht
      · have ht := ht.2 c8
        refine ab_iload (i := 8) dX4_lampsOf_40 rfl ?_
        refine ab_iconst (v := 3) dX4_lampsOf_42 (by decide) ?_
        refine ab_imul dX4_lampsOf_43 ?_
        refine ab_iload (i := 9) dX4_lampsOf_44 rfl ?_
        refine ab_iadd dX4_lampsOf_46 ?_
        refine ab_iconst (v := 1) dX4_lampsOf_47 (by decide) ?_
        refine ab_isub dX4_lampsOf_48 ?_
        refine ab_istore (i := 10) (L' := [some (.ref 74), some (.int x1), none, some (.int x3), none, some (.int x5), some (.int x6), some (.int x7), some (.int x8), some (.int ((x1 / x7) - (x1 / x7) / x3 * x3)), some (.int (((x8 * 3) + ((x1 / x7) - (x1 / x7) / x3 * x3)) - 1))]) dX4_lampsOf_49 (by exact (Nat.le_of_ble_eq_true rfl)) rfl rfl ?_
        refine ab_aload_n (i := 0) dX4_lampsOf_51 rfl rfl ?_
        refine ab_getR (b := 78) f_X4_34 rfl (sh_k hs 74 4 (by decide) rfl) (sh_r hs 95 rfl) dX4_lampsOf_52 ?_
        refine ab_iload (i := 10) dX4_lampsOf_55 rfl ?_
        obtain ⟨hc10, ht⟩ := ht
        refine ab_iald (sh_k hs 78 14 (by decide) rfl) hc10 dX4_lampsOf_57 ?_
        refine ab_iload (i := 5) dX4_lampsOf_58 rfl ?_
        refine ab_iand dX4_lampsOf_60 ?_
        refine ab_if_eq (tgt := 66) dX4_lampsOf_61 (by decide) (fun c11 => ?_) (fun c11 => ?_)
        · have ht := ht.1 c11
          refine ab_iload (i := 5) dX4_lampsOf_66 rfl ?_
          refine ab_iconst (v := 1) dX4_lampsOf_68 (by decide) ?_
          refine ab_iload (i := 10) dX4_lampsOf_69 rfl ?_
          refine ab_ishl dX4_lampsOf_71 ?_
          refine ab_ior dX4_lampsOf_72 ?_
          refine ab_istore (i := 5) (L' := [some (.ref 74), some (.int x1), none, some (.int x3), none, some (.int (x5 ||| ((1 : Int32) <<< ((((x8 * 3) + ((x1 / x7) - (x1 / x7) / x3 * x3)) - 1) &&& 31)))), some (.int x6), some (.int x7), some (.int x8), some (.int ((x1 / x7) - (x1 / x7) / x3 * x3)), some (.int (((x8 * 3) + ((x1 / x7) - (x1 / x7) / x3 * x3)) - 1))]) dX4_lampsOf_73 (by exact (Nat.le_of_ble_eq_true rfl)) rfl rfl ?_
          refine ab_iload (i := 6) dX4_lampsOf_75 rfl ?_
          refine ab_aload_n (i := 0) dX4_lampsOf_77 rfl rfl ?_
          refine ab_getR (b := 77) f_X4_31 rfl (sh_k hs 74 4 (by decide) rfl) (sh_r hs 94 rfl) dX4_lampsOf_78 ?_
          refine ab_iload (i := 10) dX4_lampsOf_81 rfl ?_
          obtain ⟨hc12, ht⟩ := ht
          refine ab_iald (sh_k hs 77 14 (by decide) rfl) hc12 dX4_lampsOf_83 ?_
          refine ab_iconst (v := (-1)) dX4_lampsOf_84 (by decide) ?_
          refine ab_ixor dX4_lampsOf_85 ?_
          refine ab_iand dX4_lampsOf_86 ?_
          refine ab_istore (i := 6) (L' := [some (.ref 74), some (.int x1), none, some (.int x3), none, some (.int (x5 ||| ((1 : Int32) <<< ((((x8 * 3) + ((x1 / x7) - (x1 / x7) / x3 * x3)) - 1) &&& 31)))), some (.int (x6 &&& ((ah_i h 77 (Int32.toNatClampNeg (((x8 * 3) + ((x1 / x7) - (x1 / x7) / x3 * x3)) - 1))) ^^^ (-1)))), some (.int x7), some (.int x8), some (.int ((x1 / x7) - (x1 / x7) / x3 * x3)), some (.int (((x8 * 3) + ((x1 / x7) - (x1 / x7) / x3 * x3)) - 1))]) dX4_lampsOf_87 (by exact (Nat.le_of_ble_eq_true rfl)) rfl rfl ?_
          refine ab_iload (i := 7) dX4_lampsOf_89 rfl ?_
          refine ab_iload_n (i := 3) dX4_lampsOf_91 rfl rfl ?_
          obtain ⟨hc13, ht⟩ := ht
          refine ab_idiv dX4_lampsOf_92 hc13 ?_
          refine ab_istore (i := 7) (L' := [some (.ref 74), some (.int x1), none, some (.int x3), none, some (.int (x5 ||| ((1 : Int32) <<< ((((x8 * 3) + ((x1 / x7) - (x1 / x7) / x3 * x3)) - 1) &&& 31)))), some (.int (x6 &&& ((ah_i h 77 (Int32.toNatClampNeg (((x8 * 3) + ((x1 / x7) - (x1 / x7) / x3 * x3)) - 1))) ^^^ (-1)))), some (.int (x7 / x3)), some (.int x8), some (.int ((x1 / x7) - (x1 / x7) / x3 * x3)), some (.int (((x8 * 3) + ((x1 / x7) - (x1 / x7) / x3 * x3)) - 1))]) dX4_lampsOf_93 (by exact (Nat.le_of_ble_eq_true rfl)) rfl rfl ?_
          refine ab_iinc (i := 8) (x := x8) (v := (x8 + 1)) (L' := [some (.ref 74), some (.int x1), none, some (.int x3), none, some (.int (x5 ||| ((1 : Int32) <<< ((((x8 * 3) + ((x1 / x7) - (x1 / x7) / x3 * x3)) - 1) &&& 31)))), some (.int (x6 &&& ((ah_i h 77 (Int32.toNatClampNeg (((x8 * 3) + ((x1 / x7) - (x1 / x7) / x3 * x3)) - 1))) ^^^ (-1)))), some (.int (x7 / x3)), some (.int (x8 + 1)), some (.int ((x1 / x7) - (x1 / x7) / x3 * x3)), some (.int (((x8 * 3) + ((x1 / x7) - (x1 / x7) / x3 * x3)) - 1))]) dX4_lampsOf_95 rfl rfl (by exact (Nat.le_of_ble_eq_true rfl)) rfl rfl ?_
          refine ab_goto (tgt := 15) dX4_lampsOf_98 (by decide) ?_
          exact Wp.fewer (L' := [some (.ref 74), some (.int x1), none, some (.int x3), none, some (.int (x5 ||| ((1 : Int32) <<< ((((x8 * 3) + ((x1 / x7) - (x1 / x7) / x3 * x3)) - 1) &&& 31)))), some (.int (x6 &&& ((ah_i h 77 (Int32.toNatClampNeg (((x8 * 3) + ((x1 / x7) - (x1 / x7) / x3 * x3)) - 1))) ^^^ (-1)))), some (.int (x7 / x3)), some (.int (x8 + 1)), none, none]) (show ab_leL _ _ from ⟨rfl, ⟨rfl, ⟨rfl, ⟨rfl, ⟨rfl, ⟨rfl, ⟨rfl, trivial⟩⟩⟩⟩⟩⟩⟩) ht
        · have ht := ht.2 c11
          refine ab_iconst (v := (-1)) dX4_lampsOf_64 (by decide) ?_
          exact ab_iret rfl dX4_lampsOf_65 (Nat.le_of_ble_eq_true rfl) (Nat.le_of_ble_eq_true rfl) ht
set_option maxRecDepth 20000 in
theorem T_X4_lampsOf {Q : Option Value → ah_T → Prop} {h : ah_T} (hs : Sh h) (x1 : Int32) (x2 : Int32) (x3 : Int32) (x4 : Int32) (ht : (¬ x3 = 0) ∧ Wp mX4_lampsOf Q 0 0 15 [some (.ref 74), some (.int x1), none, some (.int x3), none, some (.int 0), some (.int x4), some (.int (x2 / x3)), some (.int 0), none, none] [] h) : Mt mX4_lampsOf [.ref 74, .int x1, .int x2, .int x3, .int x4] h Q := by
  refine Mt.ofWp rfl (by exact (Nat.le_of_ble_eq_true rfl)) (Wp.fewer (L' := [some (.ref 74), some (.int x1), some (.int x2), some (.int x3), some (.int x4), none, none, none, none, none, none]) (show ab_leL _ _ from ⟨rfl, ⟨rfl, ⟨rfl, ⟨rfl, ⟨rfl, trivial⟩⟩⟩⟩⟩) ?_)
  refine ab_iconst (v := 0) dX4_lampsOf_0 (by decide) ?_
  refine ab_istore (i := 5) (L' := [some (.ref 74), some (.int x1), some (.int x2), some (.int x3), some (.int x4), some (.int 0), none, none, none, none, none]) dX4_lampsOf_1 (by exact (Nat.le_of_ble_eq_true rfl)) rfl rfl ?_
  refine ab_iload (i := 4) dX4_lampsOf_3 rfl ?_
  refine ab_istore (i := 6) (L' := [some (.ref 74), some (.int x1), some (.int x2), some (.int x3), some (.int x4), some (.int 0), some (.int x4), none, none, none, none]) dX4_lampsOf_5 (by exact (Nat.le_of_ble_eq_true rfl)) rfl rfl ?_
  refine ab_iload_n (i := 2) dX4_lampsOf_7 rfl rfl ?_
  refine ab_iload_n (i := 3) dX4_lampsOf_8 rfl rfl ?_
  obtain ⟨hc1, ht⟩ := ht
  refine ab_idiv dX4_lampsOf_9 hc1 ?_
  refine ab_istore (i := 7) (L' := [some (.ref 74), some (.int x1), some (.int x2), some (.int x3), some (.int x4), some (.int 0), some (.int x4), some (.int (x2 / x3)), none, none, none]) dX4_lampsOf_10 (by exact (Nat.le_of_ble_eq_true rfl)) rfl rfl ?_
  refine ab_iconst (v := 0) dX4_lampsOf_12 (by decide) ?_
  refine ab_istore (i := 8) (L' := [some (.ref 74), some (.int x1), some (.int x2), some (.int x3), some (.int x4), some (.int 0), some (.int x4), some (.int (x2 / x3)), some (.int 0), none, none]) dX4_lampsOf_13 (by exact (Nat.le_of_ble_eq_true rfl)) rfl rfl ?_
  exact Wp.fewer (L' := [some (.ref 74), some (.int x1), none, some (.int x3), none, some (.int 0), some (.int x4), some (.int (x2 / x3)), some (.int 0), none, none]) (show ab_leL _ _ from ⟨rfl, ⟨rfl, ⟨rfl, ⟨rfl, ⟨rfl, ⟨rfl, ⟨rfl, trivial⟩⟩⟩⟩⟩⟩⟩) ht
theorem dX4_findPeace_0 : decode cX4_findPeace 0 = .ok (.aload_n 0, 1) := by decide +kernel
theorem dX4_findPeace_1 : decode cX4_findPeace 1 = .ok (.getfield 37, 3) := by decide +kernel
theorem dX4_findPeace_4 : decode cX4_findPeace 4 = .ok (.ifCond .eq 4, 3) := by decide +kernel
theorem dX4_findPeace_7 : decode cX4_findPeace 7 = .ok (.return_, 1) := by decide +kernel
theorem dX4_findPeace_8 : decode cX4_findPeace 8 = .ok (.aload_n 0, 1) := by decide +kernel
theorem dX4_findPeace_9 : decode cX4_findPeace 9 = .ok (.iconst 1, 1) := by decide +kernel
theorem dX4_findPeace_10 : decode cX4_findPeace 10 = .ok (.putfield 37, 3) := by decide +kernel
theorem dX4_findPeace_13 : decode cX4_findPeace 13 = .ok (.aload_n 0, 1) := by decide +kernel
theorem dX4_findPeace_14 : decode cX4_findPeace 14 = .ok (.iconst 0, 1) := by decide +kernel
theorem dX4_findPeace_15 : decode cX4_findPeace 15 = .ok (.putfield 22, 3) := by decide +kernel
theorem dX4_findPeace_18 : decode cX4_findPeace 18 = .ok (.aload_n 0, 1) := by decide +kernel
theorem dX4_findPeace_19 : decode cX4_findPeace 19 = .ok (.iconst 0, 1) := by decide +kernel
theorem dX4_findPeace_20 : decode cX4_findPeace 20 = .ok (.putfield 25, 3) := by decide +kernel
theorem dX4_findPeace_23 : decode cX4_findPeace 23 = .ok (.aload_n 0, 1) := by decide +kernel
theorem dX4_findPeace_24 : decode cX4_findPeace 24 = .ok (.invokevirtual 109, 3) := by decide +kernel
theorem dX4_findPeace_27 : decode cX4_findPeace 27 = .ok (.iconst 0, 1) := by decide +kernel
theorem dX4_findPeace_28 : decode cX4_findPeace 28 = .ok (.istore_n 1, 1) := by decide +kernel
theorem dX4_findPeace_29 : decode cX4_findPeace 29 = .ok (.iconst 0, 1) := by decide +kernel
theorem dX4_findPeace_30 : decode cX4_findPeace 30 = .ok (.istore_n 2, 1) := by decide +kernel
theorem dX4_findPeace_31 : decode cX4_findPeace 31 = .ok (.iload_n 2, 1) := by decide +kernel
theorem dX4_findPeace_32 : decode cX4_findPeace 32 = .ok (.aload_n 0, 1) := by decide +kernel
theorem dX4_findPeace_33 : decode cX4_findPeace 33 = .ok (.getfield 50, 3) := by decide +kernel
theorem dX4_findPeace_36 : decode cX4_findPeace 36 = .ok (.getfield 112, 3) := by decide +kernel
theorem dX4_findPeace_39 : decode cX4_findPeace 39 = .ok (.getfield 118, 3) := by decide +kernel
theorem dX4_findPeace_42 : decode cX4_findPeace 42 = .ok (.if_icmp .ge 30, 3) := by decide +kernel
theorem dX4_findPeace_45 : decode cX4_findPeace 45 = .ok (.aload_n 0, 1) := by decide +kernel
theorem dX4_findPeace_46 : decode cX4_findPeace 46 = .ok (.getfield 50, 3) := by decide +kernel
theorem dX4_findPeace_49 : decode cX4_findPeace 49 = .ok (.getfield 112, 3) := by decide +kernel
theorem dX4_findPeace_52 : decode cX4_findPeace 52 = .ok (.iload_n 2, 1) := by decide +kernel
theorem dX4_findPeace_53 : decode cX4_findPeace 53 = .ok (.iconst 2, 1) := by decide +kernel
theorem dX4_findPeace_54 : decode cX4_findPeace 54 = .ok (.invokevirtual 123, 3) := by decide +kernel
theorem dX4_findPeace_57 : decode cX4_findPeace 57 = .ok (.ifCond .ne 9, 3) := by decide +kernel
theorem dX4_findPeace_60 : decode cX4_findPeace 60 = .ok (.iload_n 1, 1) := by decide +kernel
theorem dX4_findPeace_61 : decode cX4_findPeace 61 = .ok (.iconst 1, 1) := by decide +kernel
theorem dX4_findPeace_62 : decode cX4_findPeace 62 = .ok (.iload_n 2, 1) := by decide +kernel
theorem dX4_findPeace_63 : decode cX4_findPeace 63 = .ok (.ishl, 1) := by decide +kernel
theorem dX4_findPeace_64 : decode cX4_findPeace 64 = .ok (.ior, 1) := by decide +kernel
theorem dX4_findPeace_65 : decode cX4_findPeace 65 = .ok (.istore_n 1, 1) := by decide +kernel
theorem dX4_findPeace_66 : decode cX4_findPeace 66 = .ok (.iinc 2 1, 3) := by decide +kernel
theorem dX4_findPeace_69 : decode cX4_findPeace 69 = .ok (.goto (-38), 3) := by decide +kernel
theorem dX4_findPeace_72 : decode cX4_findPeace 72 = .ok (.aload_n 0, 1) := by decide +kernel
theorem dX4_findPeace_73 : decode cX4_findPeace 73 = .ok (.invokevirtual 126, 3) := by decide +kernel
theorem dX4_findPeace_76 : decode cX4_findPeace 76 = .ok (.ifCond .eq 7, 3) := by decide +kernel
theorem dX4_findPeace_79 : decode cX4_findPeace 79 = .ok (.iconst (-1), 1) := by decide +kernel
theorem dX4_findPeace_80 : decode cX4_findPeace 80 = .ok (.goto 11, 3) := by decide +kernel
theorem dX4_findPeace_83 : decode cX4_findPeace 83 = .ok (.iconst 3, 1) := by decide +kernel
theorem dX4_findPeace_84 : decode cX4_findPeace 84 = .ok (.iload_n 1, 1) := by decide +kernel
theorem dX4_findPeace_85 : decode cX4_findPeace 85 = .ok (.invokestatic 66, 3) := by decide +kernel
theorem dX4_findPeace_88 : decode cX4_findPeace 88 = .ok (.invokestatic 72, 3) := by decide +kernel
theorem dX4_findPeace_91 : decode cX4_findPeace 91 = .ok (.istore_n 2, 1) := by decide +kernel
theorem dX4_findPeace_92 : decode cX4_findPeace 92 = .ok (.iconst 0, 1) := by decide +kernel
theorem dX4_findPeace_93 : decode cX4_findPeace 93 = .ok (.istore_n 3, 1) := by decide +kernel
theorem dX4_findPeace_94 : decode cX4_findPeace 94 = .ok (.iload_n 3, 1) := by decide +kernel
theorem dX4_findPeace_95 : decode cX4_findPeace 95 = .ok (.iload_n 2, 1) := by decide +kernel
theorem dX4_findPeace_96 : decode cX4_findPeace 96 = .ok (.if_icmp .gt 22, 3) := by decide +kernel
theorem dX4_findPeace_99 : decode cX4_findPeace 99 = .ok (.aload_n 0, 1) := by decide +kernel
theorem dX4_findPeace_100 : decode cX4_findPeace 100 = .ok (.getfield 25, 3) := by decide +kernel
theorem dX4_findPeace_103 : decode cX4_findPeace 103 = .ok (.ifCond .ne 15, 3) := by decide +kernel
theorem dX4_findPeace_106 : decode cX4_findPeace 106 = .ok (.aload_n 0, 1) := by decide +kernel
theorem dX4_findPeace_107 : decode cX4_findPeace 107 = .ok (.iload_n 3, 1) := by decide +kernel
theorem dX4_findPeace_108 : decode cX4_findPeace 108 = .ok (.iload_n 1, 1) := by decide +kernel
theorem dX4_findPeace_109 : decode cX4_findPeace 109 = .ok (.invokevirtual 130, 3) := by decide +kernel
theorem dX4_findPeace_112 : decode cX4_findPeace 112 = .ok (.iinc 3 1, 3) := by decide +kernel
theorem dX4_findPeace_115 : decode cX4_findPeace 115 = .ok (.goto (-21), 3) := by decide +kernel
theorem dX4_findPeace_118 : decode cX4_findPeace 118 = .ok (.return_, 1) := by decide +kernel
set_option maxRecDepth 20000 in
theorem T_X4_findPeace_31 {Q : Option Value → ah_T → Prop} {h : ah_T} (hs : Sh h) (x1 : Int32) (x2 : Int32) (ht : (((ah_i h 2 3) ≤ x2 → (Mt mX4_isHopeless [.ref 74] h (ab_qi fun v17 h15 => Sh h15 ∧ ((v17 = 0 → Wp mX4_findPeace Q 0 0 94 [some (.ref 74), some (.int x1), some (.int (if (f_J6_bitCount_0f7a4 x1) < 3 then (f_J6_bitCount_0f7a4 x1) else 3)), some (.int 0)] [] h15) ∧ (¬ v17 = 0 → Wp mX4_findPeace Q 0 0 94 [some (.ref 74), some (.int x1), some (.int (-1)), some (.int 0)] [] h15))))) ∧ (¬ (ah_i h 2 3) ≤ x2 → (Mt mX7_get [.ref 2, .int x2, .int 2] h (ab_qi fun v21 h19 => Sh h19 ∧ ((¬ v21 = 0 → Wp mX4_findPeace Q 0 0 31 [some (.ref 74), some (.int x1), some (.int (x2 + 1)), none] [] h19) ∧ (v21 = 0 → Wp mX4_findPeace Q 0 0 31 [some (.ref 74), some (.int (x1 ||| ((1 : Int32) <<< (x2 &&& 31)))), some (.int (x2 + 1)), none] [] h19))))))) : Wp mX4_findPeace Q 0 0 31 [some (.ref 74), some (.int x1), some (.int x2), none] [] h := by
  refine ab_iload_n (i := 2) dX4_findPeace_31 rfl rfl ?_
  refine ab_aload_n (i := 0) dX4_findPeace_32 rfl rfl ?_
  refine ab_getR (b := 1) f_X4_50 rfl (sh_k hs 74 4 (by decide) rfl) (sh_r hs 89 rfl) dX4_findPeace_33 ?_
  refine ab_getR (b := 2) f_X4_112 rfl (sh_k hs 1 10 (by decide) rfl) (sh_r hs 13 rfl) dX4_findPeace_36 ?_
  refine ab_getI f_X4_118 rfl (sh_k hs 2 7 (by decide) rfl) dX4_findPeace_39 ?_
  refine ab_icmp_ge (tgt := 72) dX4_findPeace_42 (by decide) (fun c14 => ?_) (fun c14 => ?_)
  · have ht := ht.1 c14
    refine ab_aload_n (i := 0) dX4_findPeace_72 rfl rfl ?_
    refine ab_callV (b := 74) (As := []) ht (Y_X4_isHopeless) l_X4_126 in_X4_isHopeless se_X4_isHopeless (sh_k hs 74 4 (by decide) rfl) (by decide) rfl rfl ⟨(Nat.le_of_ble_eq_true rfl), (Nat.le_of_ble_eq_true rfl), (Nat.le_of_ble_eq_true rfl), (Nat.le_of_ble_eq_true rfl)⟩ dX4_findPeace_73 ?_
    rintro _ h15 ⟨v17, rfl, hs16, ht⟩
    refine ab_if_eq (tgt := 83) dX4_findPeace_76 (by decide) (fun c18 => ?_) (fun c18 => ?_)
    · have ht := ht.1 c18
      refine ab_iconst (v := 3) dX4_findPeace_83 (by decide) ?_
      refine ab_iload_n (i := 1) dX4_findPeace_84 rfl rfl ?_
      refine ab_callS (Q' := fun r h' => r = some (.int (f_J6_bitCount_0f7a4 x1)) ∧ h15 = h') (As := [.int x1]) (c_J6_bitCount_0f7a4 hs16 x1 ⟨rfl, rfl⟩) (Y_J6_bitCount_0f7a4) l_X4_66 st_J6_bitCount_0f7a4 rfl ⟨(Nat.le_of_ble_eq_true rfl), (Nat.le_of_ble_eq_true rfl), (Nat.le_of_ble_eq_true rfl), (Nat.le_of_ble_eq_true rfl)⟩ dX4_findPeace_85 ?_
      rintro _ _ ⟨rfl, rfl⟩
      refine ab_mmin (tb_6 (List.mem_of_getElem? (i := 28) (by decide +kernel)) rfl) st_mmin in_m co_mmin (Nat.le_of_ble_eq_true rfl) (Nat.le_of_ble_eq_true rfl) (Nat.le_of_ble_eq_true rfl) (Nat.le_of_ble_eq_true rfl) dX4_findPeace_88 ?_
      refine ab_istore_n (i := 2) (L' := [some (.ref 74), some (.int x1), some (.int (if (f_J6_bitCount_0f7a4 x1) < 3 then (f_J6_bitCount_0f7a4 x1) else 3)), none]) dX4_findPeace_91 rfl (by exact (Nat.le_of_ble_eq_true rfl)) rfl rfl ?_
      refine ab_iconst (v := 0) dX4_findPeace_92 (by decide) ?_
      refine ab_istore_n (i := 3) (L' := [some (.ref 74), some (.int x1), some (.int (if (f_J6_bitCount_0f7a4 x1) < 3 then (f_J6_bitCount_0f7a4 x1) else 3)), some (.int 0)]) dX4_findPeace_93 rfl (by exact (Nat.le_of_ble_eq_true rfl)) rfl rfl ?_
      exact Wp.fewer (L' := [some (.ref 74), some (.int x1), some (.int (if (f_J6_bitCount_0f7a4 x1) < 3 then (f_J6_bitCount_0f7a4 x1) else 3)), some (.int 0)]) (show ab_leL _ _ from ⟨rfl, ⟨rfl, ⟨rfl, ⟨rfl, trivial⟩⟩⟩⟩) ht
    · have ht := ht.2 c18
      refine ab_iconst (v := (-1)) dX4_findPeace_79 (by decide) ?_
      refine ab_goto (tgt := 91) dX4_findPeace_80 (by decide) ?_
      refine ab_istore_n (i := 2) (L' := [some (.ref 74), some (.int x1), some (.int (-1)), none]) dX4_findPeace_91 rfl (by exact (Nat.le_of_ble_eq_true rfl)) rfl rfl ?_
      refine ab_iconst (v := 0) dX4_findPeace_92 (by decide) ?_
      refine ab_istore_n (i := 3) (L' := [some (.ref 74), some (.int x1), some (.int (-1)), some (.int 0)]) dX4_findPeace_93 rfl (by exact (Nat.le_of_ble_eq_true rfl)) rfl rfl ?_
      exact Wp.fewer (L' := [some (.ref 74), some (.int x1), some (.int (-1)), some (.int 0)]) (show ab_leL _ _ from ⟨rfl, ⟨rfl, ⟨rfl, ⟨rfl, trivial⟩⟩⟩⟩) ht
  · have ht := ht.2 c14
    refine ab_aload_n (i := 0) dX4_findPeace_45 rfl rfl ?_
    refine ab_getR (b := 1) f_X4_50 rfl (sh_k hs 74 4 (by decide) rfl) (sh_r hs 89 rfl) dX4_findPeace_46 ?_
    refine ab_getR (b := 2) f_X4_112 rfl (sh_k hs 1 10 (by decide) rfl) (sh_r hs 13 rfl) dX4_findPeace_49 ?_
    refine ab_iload_n (i := 2) dX4_findPeace_52 rfl rfl ?_
    refine ab_iconst (v := 2) dX4_findPeace_53 (by decide) ?_
    refine ab_callV (b := 2) (As := [.int x2, .int 2]) ht (Y_X7_get) l_X4_123 in_X7_get se_X7_get (sh_k hs 2 7 (by decide) rfl) (by decide) rfl rfl ⟨(Nat.le_of_ble_eq_true rfl), (Nat.le_of_ble_eq_true rfl), (Nat.le_of_ble_eq_true rfl), (Nat.le_of_ble_eq_true rfl)⟩ dX4_findPeace_54 ?_
    rintro _ h19 ⟨v21, rfl, hs20, ht⟩
    refine ab_if_ne (tgt := 66) dX4_findPeace_57 (by decide) (fun c22 => ?_) (fun c22 => ?_)
    · have ht := ht.1 c22
      refine ab_iinc (i := 2) (x := x2) (v := (x2 + 1)) (L' := [some (.ref 74), some (.int x1), some (.int (x2 + 1)), none]) dX4_findPeace_66 rfl rfl (by exact (Nat.le_of_ble_eq_true rfl)) rfl rfl ?_
      refine ab_goto (tgt := 31) dX4_findPeace_69 (by decide) ?_
      exact Wp.fewer (L' := [some (.ref 74), some (.int x1), some (.int (x2 + 1)), none]) (show ab_leL _ _ from ⟨rfl, ⟨rfl, ⟨rfl, trivial⟩⟩⟩) ht
    · have ht := ht.2 c22
      refine ab_iload_n (i := 1) dX4_findPeace_60 rfl rfl ?_
      refine ab_iconst (v := 1) dX4_findPeace_61 (by decide) ?_
      refine ab_iload_n (i := 2) dX4_findPeace_62 rfl rfl ?_
      refine ab_ishl dX4_findPeace_63 ?_
      refine ab_ior dX4_findPeace_64 ?_
      refine ab_istore_n (i := 1) (L' := [some (.ref 74), some (.int (x1 ||| ((1 : Int32) <<< (x2 &&& 31)))), some (.int x2), none]) dX4_findPeace_65 rfl (by exact (Nat.le_of_ble_eq_true rfl)) rfl rfl ?_
      refine ab_iinc (i := 2) (x := x2) (v := (x2 + 1)) (L' := [some (.ref 74), some (.int (x1 ||| ((1 : Int32) <<< (x2 &&& 31)))), some (.int (x2 + 1)), none]) dX4_findPeace_66 rfl rfl (by exact (Nat.le_of_ble_eq_true rfl)) rfl rfl ?_
      refine ab_goto (tgt := 31) dX4_findPeace_69 (by decide) ?_
      exact Wp.fewer (L' := [some (.ref 74), some (.int (x1 ||| ((1 : Int32) <<< (x2 &&& 31)))), some (.int (x2 + 1)), none]) (show ab_leL _ _ from ⟨rfl, ⟨rfl, ⟨rfl, trivial⟩⟩⟩) ht
set_option maxRecDepth 20000 in
theorem T_X4_findPeace_94 {Q : Option Value → ah_T → Prop} {h : ah_T} (hs : Sh h) (x1 : Int32) (x2 : Int32) (x3 : Int32) (ht : ((x2 < x3 → Q none h) ∧ (¬ x2 < x3 → ((¬ (ah_i h 74 4) = 0 → Q none h) ∧ ((ah_i h 74 4) = 0 → (Mt mX4_tryShutters [.ref 74, .int x3, .int x1] h (ab_qv fun h25 => Sh h25 ∧ Wp mX4_findPeace Q 0 0 94 [some (.ref 74), some (.int x1), some (.int x2), some (.int (x3 + 1))] [] h25))))))) : Wp mX4_findPeace Q 0 0 94 [some (.ref 74), some (.int x1), some (.int x2), some (.int x3)] [] h := by
  refine ab_iload_n (i := 3) dX4_findPeace_94 rfl rfl ?_
  refine ab_iload_n (i := 2) dX4_findPeace_95 rfl rfl ?_
  refine ab_icmp_gt (tgt := 118) dX4_findPeace_96 (by decide) (fun c23 => ?_) (fun c23 => ?_)
  · have ht := ht.1 c23
    exact ab_vret rfl dX4_findPeace_118 (Nat.le_of_ble_eq_true rfl) (Nat.le_of_ble_eq_true rfl) ht
  · have ht := ht.2 c23
    refine ab_aload_n (i := 0) dX4_findPeace_99 rfl rfl ?_
    refine ab_getI f_X4_25 rfl (sh_k hs 74 4 (by decide) rfl) dX4_findPeace_100 ?_
    refine ab_if_ne (tgt := 118) dX4_findPeace_103 (by decide) (fun c24 => ?_) (fun c24 => ?_)
    · have ht := ht.1 c24
      exact ab_vret rfl dX4_findPeace_118 (Nat.le_of_ble_eq_true rfl) (Nat.le_of_ble_eq_true rfl) ht
    · have ht := ht.2 c24
      refine ab_aload_n (i := 0) dX4_findPeace_106 rfl rfl ?_
      refine ab_iload_n (i := 3) dX4_findPeace_107 rfl rfl ?_
      refine ab_iload_n (i := 1) dX4_findPeace_108 rfl rfl ?_
      refine ab_callV (b := 74) (As := [.int x3, .int x1]) ht (Y_X4_tryShutters) l_X4_130 in_X4_tryShutters se_X4_tryShutters (sh_k hs 74 4 (by decide) rfl) (by decide) rfl rfl ⟨(Nat.le_of_ble_eq_true rfl), (Nat.le_of_ble_eq_true rfl), (Nat.le_of_ble_eq_true rfl), (Nat.le_of_ble_eq_true rfl)⟩ dX4_findPeace_109 ?_
      rintro _ h25 ⟨rfl, hs26, ht⟩
      refine ab_iinc (i := 3) (x := x3) (v := (x3 + 1)) (L' := [some (.ref 74), some (.int x1), some (.int x2), some (.int (x3 + 1))]) dX4_findPeace_112 rfl rfl (by exact (Nat.le_of_ble_eq_true rfl)) rfl rfl ?_
      refine ab_goto (tgt := 94) dX4_findPeace_115 (by decide) ?_
      exact Wp.fewer (L' := [some (.ref 74), some (.int x1), some (.int x2), some (.int (x3 + 1))]) (show ab_leL _ _ from ⟨rfl, ⟨rfl, ⟨rfl, ⟨rfl, trivial⟩⟩⟩⟩) ht
set_option maxRecDepth 20000 in
theorem T_X4_findPeace {Q : Option Value → ah_T → Prop} {h : ah_T} (hs : Sh h)  (ht : (((ah_i h 74 12) = 0 → (∀ h2, h2 = ah_si h 74 12 1 → (∀ h5, h5 = ah_si h2 74 3 0 → (∀ h8, h8 = ah_si h5 74 4 0 → (Mt mX4_gatherQuarrels [.ref 74] h8 (ab_qv fun h11 => Sh h11 ∧ Wp mX4_findPeace Q 0 0 31 [some (.ref 74), some (.int 0), some (.int 0), none] [] h11)))))) ∧ (¬ (ah_i h 74 12) = 0 → Q none h))) : Mt mX4_findPeace [.ref 74] h Q := by
  refine Mt.ofWp rfl (by exact (Nat.le_of_ble_eq_true rfl)) (Wp.fewer (L' := [some (.ref 74), none, none, none]) (show ab_leL _ _ from ⟨rfl, trivial⟩) ?_)
  refine ab_aload_n (i := 0) dX4_findPeace_0 rfl rfl ?_
  refine ab_getI f_X4_37 rfl (sh_k hs 74 4 (by decide) rfl) dX4_findPeace_1 ?_
  refine ab_if_eq (tgt := 8) dX4_findPeace_4 (by decide) (fun c1 => ?_) (fun c1 => ?_)
  · have ht := ht.1 c1
    refine ab_aload_n (i := 0) dX4_findPeace_8 rfl rfl ?_
    refine ab_iconst (v := 1) dX4_findPeace_9 (by decide) ?_
    refine ab_putI f_X4_37 (Or.inl rfl) rfl (sh_k hs 74 4 (by decide) rfl) rfl rfl dX4_findPeace_10 ?_
    refine Wp.nm fun h2 e3 => ?_
    have ht := ht h2 e3
    have hs4 : Sh h2 := by rw [e3]; exact sh_si hs
    refine ab_aload_n (i := 0) dX4_findPeace_13 rfl rfl ?_
    refine ab_iconst (v := 0) dX4_findPeace_14 (by decide) ?_
    refine ab_putI f_X4_22 (Or.inl rfl) rfl (sh_k hs4 74 4 (by decide) rfl) rfl rfl dX4_findPeace_15 ?_
    refine Wp.nm fun h5 e6 => ?_
    have ht := ht h5 e6
    have hs7 : Sh h5 := by rw [e6]; exact sh_si hs4
    refine ab_aload_n (i := 0) dX4_findPeace_18 rfl rfl ?_
    refine ab_iconst (v := 0) dX4_findPeace_19 (by decide) ?_
    refine ab_putI f_X4_25 (Or.inl rfl) rfl (sh_k hs7 74 4 (by decide) rfl) rfl rfl dX4_findPeace_20 ?_
    refine Wp.nm fun h8 e9 => ?_
    have ht := ht h8 e9
    have hs10 : Sh h8 := by rw [e9]; exact sh_si hs7
    refine ab_aload_n (i := 0) dX4_findPeace_23 rfl rfl ?_
    refine ab_callV (b := 74) (As := []) ht (Y_X4_gatherQuarrels) l_X4_109 in_X4_gatherQuarrels se_X4_gatherQuarrels (sh_k hs10 74 4 (by decide) rfl) (by decide) rfl rfl ⟨(Nat.le_of_ble_eq_true rfl), (Nat.le_of_ble_eq_true rfl), (Nat.le_of_ble_eq_true rfl), (Nat.le_of_ble_eq_true rfl)⟩ dX4_findPeace_24 ?_
    rintro _ h11 ⟨rfl, hs12, ht⟩
    refine ab_iconst (v := 0) dX4_findPeace_27 (by decide) ?_
    refine ab_istore_n (i := 1) (L' := [some (.ref 74), some (.int 0), none, none]) dX4_findPeace_28 rfl (by exact (Nat.le_of_ble_eq_true rfl)) rfl rfl ?_
    refine ab_iconst (v := 0) dX4_findPeace_29 (by decide) ?_
    refine ab_istore_n (i := 2) (L' := [some (.ref 74), some (.int 0), some (.int 0), none]) dX4_findPeace_30 rfl (by exact (Nat.le_of_ble_eq_true rfl)) rfl rfl ?_
    exact Wp.fewer (L' := [some (.ref 74), some (.int 0), some (.int 0), none]) (show ab_leL _ _ from ⟨rfl, ⟨rfl, ⟨rfl, trivial⟩⟩⟩) ht
  · have ht := ht.2 c1
    exact ab_vret rfl dX4_findPeace_7 (Nat.le_of_ble_eq_true rfl) (Nat.le_of_ble_eq_true rfl) ht
theorem dX4_gatherQuarrels_0 : decode cX4_gatherQuarrels 0 = .ok (.aload_n 0, 1) := by decide +kernel
theorem dX4_gatherQuarrels_1 : decode cX4_gatherQuarrels 1 = .ok (.getfield 41, 3) := by decide +kernel
theorem dX4_gatherQuarrels_4 : decode cX4_gatherQuarrels 4 = .ok (.iconst 0, 1) := by decide +kernel
theorem dX4_gatherQuarrels_5 : decode cX4_gatherQuarrels 5 = .ok (.invokestatic 89, 3) := by decide +kernel
theorem dX4_gatherQuarrels_8 : decode cX4_gatherQuarrels 8 = .ok (.aload_n 0, 1) := by decide +kernel
theorem dX4_gatherQuarrels_9 : decode cX4_gatherQuarrels 9 = .ok (.getfield 62, 3) := by decide +kernel
theorem dX4_gatherQuarrels_12 : decode cX4_gatherQuarrels 12 = .ok (.invokevirtual 134, 3) := by decide +kernel
theorem dX4_gatherQuarrels_15 : decode cX4_gatherQuarrels 15 = .ok (.iconst 0, 1) := by decide +kernel
theorem dX4_gatherQuarrels_16 : decode cX4_gatherQuarrels 16 = .ok (.istore_n 1, 1) := by decide +kernel
theorem dX4_gatherQuarrels_17 : decode cX4_gatherQuarrels 17 = .ok (.iload_n 1, 1) := by decide +kernel
theorem dX4_gatherQuarrels_18 : decode cX4_gatherQuarrels 18 = .ok (.bipush 120, 2) := by decide +kernel
theorem dX4_gatherQuarrels_20 : decode cX4_gatherQuarrels 20 = .ok (.if_icmp .ge 142, 3) := by decide +kernel
theorem dX4_gatherQuarrels_23 : decode cX4_gatherQuarrels 23 = .ok (.aload_n 0, 1) := by decide +kernel
theorem dX4_gatherQuarrels_24 : decode cX4_gatherQuarrels 24 = .ok (.getfield 62, 3) := by decide +kernel
theorem dX4_gatherQuarrels_27 : decode cX4_gatherQuarrels 27 = .ok (.iload_n 1, 1) := by decide +kernel
theorem dX4_gatherQuarrels_28 : decode cX4_gatherQuarrels 28 = .ok (.invokevirtual 139, 3) := by decide +kernel
theorem dX4_gatherQuarrels_31 : decode cX4_gatherQuarrels 31 = .ok (.aload_n 0, 1) := by decide +kernel
theorem dX4_gatherQuarrels_32 : decode cX4_gatherQuarrels 32 = .ok (.getfield 62, 3) := by decide +kernel
theorem dX4_gatherQuarrels_35 : decode cX4_gatherQuarrels 35 = .ok (.invokevirtual 143, 3) := by decide +kernel
theorem dX4_gatherQuarrels_38 : decode cX4_gatherQuarrels 38 = .ok (.istore_n 2, 1) := by decide +kernel
theorem dX4_gatherQuarrels_39 : decode cX4_gatherQuarrels 39 = .ok (.aload_n 0, 1) := by decide +kernel
theorem dX4_gatherQuarrels_40 : decode cX4_gatherQuarrels 40 = .ok (.getfield 62, 3) := by decide +kernel
theorem dX4_gatherQuarrels_43 : decode cX4_gatherQuarrels 43 = .ok (.iload_n 1, 1) := by decide +kernel
theorem dX4_gatherQuarrels_44 : decode cX4_gatherQuarrels 44 = .ok (.invokevirtual 147, 3) := by decide +kernel
theorem dX4_gatherQuarrels_47 : decode cX4_gatherQuarrels 47 = .ok (.istore_n 3, 1) := by decide +kernel
theorem dX4_gatherQuarrels_48 : decode cX4_gatherQuarrels 48 = .ok (.iconst 0, 1) := by decide +kernel
theorem dX4_gatherQuarrels_49 : decode cX4_gatherQuarrels 49 = .ok (.istore 4, 2) := by decide +kernel
theorem dX4_gatherQuarrels_51 : decode cX4_gatherQuarrels 51 = .ok (.iload 4, 2) := by decide +kernel
theorem dX4_gatherQuarrels_53 : decode cX4_gatherQuarrels 53 = .ok (.aload_n 0, 1) := by decide +kernel
theorem dX4_gatherQuarrels_54 : decode cX4_gatherQuarrels 54 = .ok (.getfield 62, 3) := by decide +kernel
theorem dX4_gatherQuarrels_57 : decode cX4_gatherQuarrels 57 = .ok (.getfield 150, 3) := by decide +kernel
theorem dX4_gatherQuarrels_60 : decode cX4_gatherQuarrels 60 = .ok (.if_icmp .ge 86, 3) := by decide +kernel
theorem dX4_gatherQuarrels_63 : decode cX4_gatherQuarrels 63 = .ok (.iload_n 2, 1) := by decide +kernel
theorem dX4_gatherQuarrels_64 : decode cX4_gatherQuarrels 64 = .ok (.iload_n 3, 1) := by decide +kernel
theorem dX4_gatherQuarrels_65 : decode cX4_gatherQuarrels 65 = .ok (.ior, 1) := by decide +kernel
theorem dX4_gatherQuarrels_66 : decode cX4_gatherQuarrels 66 = .ok (.ifCond .eq 80, 3) := by decide +kernel
theorem dX4_gatherQuarrels_69 : decode cX4_gatherQuarrels 69 = .ok (.aload_n 0, 1) := by decide +kernel
theorem dX4_gatherQuarrels_70 : decode cX4_gatherQuarrels 70 = .ok (.getfield 62, 3) := by decide +kernel
theorem dX4_gatherQuarrels_73 : decode cX4_gatherQuarrels 73 = .ok (.getfield 153, 3) := by decide +kernel
theorem dX4_gatherQuarrels_76 : decode cX4_gatherQuarrels 76 = .ok (.iload 4, 2) := by decide +kernel
theorem dX4_gatherQuarrels_78 : decode cX4_gatherQuarrels 78 = .ok (.ishr, 1) := by decide +kernel
theorem dX4_gatherQuarrels_79 : decode cX4_gatherQuarrels 79 = .ok (.iconst 1, 1) := by decide +kernel
theorem dX4_gatherQuarrels_80 : decode cX4_gatherQuarrels 80 = .ok (.iand, 1) := by decide +kernel
theorem dX4_gatherQuarrels_81 : decode cX4_gatherQuarrels 81 = .ok (.ifCond .eq 59, 3) := by decide +kernel
theorem dX4_gatherQuarrels_84 : decode cX4_gatherQuarrels 84 = .ok (.iload_n 2, 1) := by decide +kernel
theorem dX4_gatherQuarrels_85 : decode cX4_gatherQuarrels 85 = .ok (.iload 4, 2) := by decide +kernel
theorem dX4_gatherQuarrels_87 : decode cX4_gatherQuarrels 87 = .ok (.ishr, 1) := by decide +kernel
theorem dX4_gatherQuarrels_88 : decode cX4_gatherQuarrels 88 = .ok (.iconst 1, 1) := by decide +kernel
theorem dX4_gatherQuarrels_89 : decode cX4_gatherQuarrels 89 = .ok (.iand, 1) := by decide +kernel
theorem dX4_gatherQuarrels_90 : decode cX4_gatherQuarrels 90 = .ok (.ifCond .eq 7, 3) := by decide +kernel
theorem dX4_gatherQuarrels_93 : decode cX4_gatherQuarrels 93 = .ok (.iconst 1, 1) := by decide +kernel
theorem dX4_gatherQuarrels_94 : decode cX4_gatherQuarrels 94 = .ok (.goto 4, 3) := by decide +kernel
theorem dX4_gatherQuarrels_97 : decode cX4_gatherQuarrels 97 = .ok (.iconst 0, 1) := by decide +kernel
theorem dX4_gatherQuarrels_98 : decode cX4_gatherQuarrels 98 = .ok (.istore 5, 2) := by decide +kernel
theorem dX4_gatherQuarrels_100 : decode cX4_gatherQuarrels 100 = .ok (.aload_n 0, 1) := by decide +kernel
theorem dX4_gatherQuarrels_101 : decode cX4_gatherQuarrels 101 = .ok (.iload 4, 2) := by decide +kernel
theorem dX4_gatherQuarrels_103 : decode cX4_gatherQuarrels 103 = .ok (.iload 5, 2) := by decide +kernel
theorem dX4_gatherQuarrels_105 : decode cX4_gatherQuarrels 105 = .ok (.ifCond .eq 13, 3) := by decide +kernel
theorem dX4_gatherQuarrels_108 : decode cX4_gatherQuarrels 108 = .ok (.aload_n 0, 1) := by decide +kernel
theorem dX4_gatherQuarrels_109 : decode cX4_gatherQuarrels 109 = .ok (.getfield 62, 3) := by decide +kernel
theorem dX4_gatherQuarrels_112 : decode cX4_gatherQuarrels 112 = .ok (.getfield 153, 3) := by decide +kernel
theorem dX4_gatherQuarrels_115 : decode cX4_gatherQuarrels 115 = .ok (.goto 4, 3) := by decide +kernel
theorem dX4_gatherQuarrels_118 : decode cX4_gatherQuarrels 118 = .ok (.iload_n 2, 1) := by decide +kernel
theorem dX4_gatherQuarrels_119 : decode cX4_gatherQuarrels 119 = .ok (.iload_n 1, 1) := by decide +kernel
theorem dX4_gatherQuarrels_120 : decode cX4_gatherQuarrels 120 = .ok (.invokevirtual 156, 3) := by decide +kernel
theorem dX4_gatherQuarrels_123 : decode cX4_gatherQuarrels 123 = .ok (.aload_n 0, 1) := by decide +kernel
theorem dX4_gatherQuarrels_124 : decode cX4_gatherQuarrels 124 = .ok (.iload 4, 2) := by decide +kernel
theorem dX4_gatherQuarrels_126 : decode cX4_gatherQuarrels 126 = .ok (.iload 5, 2) := by decide +kernel
theorem dX4_gatherQuarrels_128 : decode cX4_gatherQuarrels 128 = .ok (.ifCond .eq 7, 3) := by decide +kernel
theorem dX4_gatherQuarrels_131 : decode cX4_gatherQuarrels 131 = .ok (.iconst (-1), 1) := by decide +kernel
theorem dX4_gatherQuarrels_132 : decode cX4_gatherQuarrels 132 = .ok (.goto 4, 3) := by decide +kernel
theorem dX4_gatherQuarrels_135 : decode cX4_gatherQuarrels 135 = .ok (.iload_n 3, 1) := by decide +kernel
theorem dX4_gatherQuarrels_136 : decode cX4_gatherQuarrels 136 = .ok (.iload_n 1, 1) := by decide +kernel
theorem dX4_gatherQuarrels_137 : decode cX4_gatherQuarrels 137 = .ok (.invokevirtual 159, 3) := by decide +kernel
theorem dX4_gatherQuarrels_140 : decode cX4_gatherQuarrels 140 = .ok (.iinc 4 1, 3) := by decide +kernel
theorem dX4_gatherQuarrels_143 : decode cX4_gatherQuarrels 143 = .ok (.goto (-92), 3) := by decide +kernel
theorem dX4_gatherQuarrels_146 : decode cX4_gatherQuarrels 146 = .ok (.aload_n 0, 1) := by decide +kernel
theorem dX4_gatherQuarrels_147 : decode cX4_gatherQuarrels 147 = .ok (.getfield 62, 3) := by decide +kernel
theorem dX4_gatherQuarrels_150 : decode cX4_gatherQuarrels 150 = .ok (.iload_n 1, 1) := by decide +kernel
theorem dX4_gatherQuarrels_151 : decode cX4_gatherQuarrels 151 = .ok (.iconst 0, 1) := by decide +kernel
theorem dX4_gatherQuarrels_152 : decode cX4_gatherQuarrels 152 = .ok (.invokevirtual 162, 3) := by decide +kernel
theorem dX4_gatherQuarrels_155 : decode cX4_gatherQuarrels 155 = .ok (.pop, 1) := by decide +kernel
theorem dX4_gatherQuarrels_156 : decode cX4_gatherQuarrels 156 = .ok (.iinc 1 1, 3) := by decide +kernel
theorem dX4_gatherQuarrels_159 : decode cX4_gatherQuarrels 159 = .ok (.goto (-142), 3) := by decide +kernel
theorem dX4_gatherQuarrels_162 : decode cX4_gatherQuarrels 162 = .ok (.return_, 1) := by decide +kernel
set_option maxRecDepth 20000 in
theorem T_X4_gatherQuarrels_17 {Q : Option Value → ah_T → Prop} {h : ah_T} (hs : Sh h) (x1 : Int32) (ht : ((120 ≤ x1 → Q none h) ∧ (¬ 120 ≤ x1 → (Mt mX3_prepare [.ref 43, .int x1] h (ab_qv fun h8 => Sh h8 ∧ (Mt mX3_stirredLamps [.ref 43] h8 (ab_qi fun v13 h11 => Sh h11 ∧ (Mt mX3_movedLanterns [.ref 43, .int x1] h11 (ab_qi fun v16 h14 => Sh h14 ∧ Wp mX4_gatherQuarrels Q 0 0 51 [some (.ref 74), some (.int x1), some (.int v13), some (.int v16), some (.int 0), none] [] h14))))))))) : Wp mX4_gatherQuarrels Q 0 0 17 [some (.ref 74), some (.int x1), none, none, none, none] [] h := by
  refine ab_iload_n (i := 1) dX4_gatherQuarrels_17 rfl rfl ?_
  refine ab_bipush (v := 120) dX4_gatherQuarrels_18 (by decide) ?_
  refine ab_icmp_ge (tgt := 162) dX4_gatherQuarrels_20 (by decide) (fun c7 => ?_) (fun c7 => ?_)
  · have ht := ht.1 c7
    exact ab_vret rfl dX4_gatherQuarrels_162 (Nat.le_of_ble_eq_true rfl) (Nat.le_of_ble_eq_true rfl) ht
  · have ht := ht.2 c7
    refine ab_aload_n (i := 0) dX4_gatherQuarrels_23 rfl rfl ?_
    refine ab_getR (b := 43) f_X4_62 rfl (sh_k hs 74 4 (by decide) rfl) (sh_r hs 92 rfl) dX4_gatherQuarrels_24 ?_
    refine ab_iload_n (i := 1) dX4_gatherQuarrels_27 rfl rfl ?_
    refine ab_callV (b := 43) (As := [.int x1]) ht (Y_X3_prepare) l_X4_139 in_X3_prepare se_X3_prepare (sh_k hs 43 3 (by decide) rfl) (by decide) rfl rfl ⟨(Nat.le_of_ble_eq_true rfl), (Nat.le_of_ble_eq_true rfl), (Nat.le_of_ble_eq_true rfl), (Nat.le_of_ble_eq_true rfl)⟩ dX4_gatherQuarrels_28 ?_
    rintro _ h8 ⟨rfl, hs9, ht⟩
    refine ab_aload_n (i := 0) dX4_gatherQuarrels_31 rfl rfl ?_
    refine ab_getR (b := 43) f_X4_62 rfl (sh_k hs9 74 4 (by decide) rfl) (sh_r hs9 92 rfl) dX4_gatherQuarrels_32 ?_
    refine ab_callV (b := 43) (As := []) ht (Y_X3_stirredLamps) l_X4_143 in_X3_stirredLamps se_X3_stirredLamps (sh_k hs9 43 3 (by decide) rfl) (by decide) rfl rfl ⟨(Nat.le_of_ble_eq_true rfl), (Nat.le_of_ble_eq_true rfl), (Nat.le_of_ble_eq_true rfl), (Nat.le_of_ble_eq_true rfl)⟩ dX4_gatherQuarrels_35 ?_
    rintro _ h11 ⟨v13, rfl, hs12, ht⟩
    refine ab_istore_n (i := 2) (L' := [some (.ref 74), some (.int x1), some (.int v13), none, none, none]) dX4_gatherQuarrels_38 rfl (by exact (Nat.le_of_ble_eq_true rfl)) rfl rfl ?_
    refine ab_aload_n (i := 0) dX4_gatherQuarrels_39 rfl rfl ?_
    refine ab_getR (b := 43) f_X4_62 rfl (sh_k hs12 74 4 (by decide) rfl) (sh_r hs12 92 rfl) dX4_gatherQuarrels_40 ?_
    refine ab_iload_n (i := 1) dX4_gatherQuarrels_43 rfl rfl ?_
    refine ab_callV (b := 43) (As := [.int x1]) ht (Y_X3_movedLanterns) l_X4_147 in_X3_movedLanterns se_X3_movedLanterns (sh_k hs12 43 3 (by decide) rfl) (by decide) rfl rfl ⟨(Nat.le_of_ble_eq_true rfl), (Nat.le_of_ble_eq_true rfl), (Nat.le_of_ble_eq_true rfl), (Nat.le_of_ble_eq_true rfl)⟩ dX4_gatherQuarrels_44 ?_
    rintro _ h14 ⟨v16, rfl, hs15, ht⟩
    refine ab_istore_n (i := 3) (L' := [some (.ref 74), some (.int x1), some (.int v13), some (.int v16), none, none]) dX4_gatherQuarrels_47 rfl (by exact (Nat.le_of_ble_eq_true rfl)) rfl rfl ?_
    refine ab_iconst (v := 0) dX4_gatherQuarrels_48 (by decide) ?_
    refine ab_istore (i := 4) (L' := [some (.ref 74), some (.int x1), some (.int v13), some (.int v16), some (.int 0), none]) dX4_gatherQuarrels_49 (by exact (Nat.le_of_ble_eq_true rfl)) rfl rfl ?_
    exact Wp.fewer (L' := [some (.ref 74), some (.int x1), some (.int v13), some (.int v16), some (.int 0), none]) (show ab_leL _ _ from ⟨rfl, ⟨rfl, ⟨rfl, ⟨rfl, ⟨rfl, trivial⟩⟩⟩⟩⟩) ht
set_option maxRecDepth 20000 in
theorem T_X4_gatherQuarrels_51 {Q : Option Value → ah_T → Prop} {h : ah_T} (hs : Sh h) (x1 : Int32) (x2 : Int32) (x3 : Int32) (x4 : Int32) (ht : (((ah_i h 43 0) ≤ x4 → (Mt mX3_finish [.ref 43, .int x1, .int 0] h (ab_qi fun v20 h18 => Sh h18 ∧ Wp mX4_gatherQuarrels Q 0 0 17 [some (.ref 74), some (.int (x1 + 1)), none, none, none, none] [] h18))) ∧ (¬ (ah_i h 43 0) ≤ x4 → (((x2 ||| x3) = 0 → (Mt mX3_finish [.ref 43, .int x1, .int 0] h (ab_qi fun v24 h22 => Sh h22 ∧ Wp mX4_gatherQuarrels Q 0 0 17 [some (.ref 74), some (.int (x1 + 1)), none, none, none, none] [] h22))) ∧ (¬ (x2 ||| x3) = 0 → (((((ah_i h 43 5) >>> (x4 &&& 31)) &&& 1) = 0 → Wp mX4_gatherQuarrels Q 0 0 51 [some (.ref 74), some (.int x1), some (.int x2), some (.int x3), some (.int (x4 + 1)), none] [] h) ∧ (¬ (((ah_i h 43 5) >>> (x4 &&& 31)) &&& 1) = 0 → ((((x2 >>> (x4 &&& 31)) &&& 1) = 0 → (Mt mX4_learnOfLamps [.ref 74, .int x4, .int x2, .int x1] h (ab_qv fun h27 => Sh h27 ∧ (Mt mX4_learnOfLanterns [.ref 74, .int x4, .int x3, .int x1] h27 (ab_qv fun h30 => Sh h30 ∧ Wp mX4_gatherQuarrels Q 0 0 51 [some (.ref 74), some (.int x1), some (.int x2), some (.int x3), some (.int (x4 + 1)), none] [] h30))))) ∧ (¬ ((x2 >>> (x4 &&& 31)) &&& 1) = 0 → (Mt mX4_learnOfLamps [.ref 74, .int x4, .int (ah_i h 43 5), .int x1] h (ab_qv fun h33 => Sh h33 ∧ (Mt mX4_learnOfLanterns [.ref 74, .int x4, .int (-1), .int x1] h33 (ab_qv fun h36 => Sh h36 ∧ Wp mX4_gatherQuarrels Q 0 0 51 [some (.ref 74), some (.int x1), some (.int x2), some (.int x3), some (.int (x4 + 1)), none] [] h36))))))))))))) : Wp mX4_gatherQuarrels Q 0 0 51 [some (.ref 74), some (.int x1), some (.int x2), some (.int x3), some (.int x4), none] [] h := by
  refine ab_iload (i := 4) dX4_gatherQuarrels_51 rfl ?_
  refine ab_aload_n (i := 0) dX4_gatherQuarrels_53 rfl rfl ?_
  refine ab_getR (b := 43) f_X4_62 rfl (sh_k hs 74 4 (by decide) rfl) (sh_r hs 92 rfl) dX4_gatherQuarrels_54 ?_
  refine ab_getI f_X4_150 rfl (sh_k hs 43 3 (by decide) rfl) dX4_gatherQuarrels_57 ?_
  refine ab_icmp_ge (tgt := 146) dX4_gatherQuarrels_60 (by decide) (fun c17 => ?_) (fun c17 => ?_)
  · have ht := ht.1 c17
    refine ab_aload_n (i := 0) dX4_gatherQuarrels_146 rfl rfl ?_
    refine ab_getR (b := 43) f_X4_62 rfl (sh_k hs 74 4 (by decide) rfl) (sh_r hs 92 rfl) dX4_gatherQuarrels_147 ?_
    refine ab_iload_n (i := 1) dX4_gatherQuarrels_150 rfl rfl ?_
    refine ab_iconst (v := 0) dX4_gatherQuarrels_151 (by decide) ?_
    refine ab_callV (b := 43) (As := [.int x1, .int 0]) ht (Y_X3_finish) l_X4_162 in_X3_finish se_X3_finish (sh_k hs 43 3 (by decide) rfl) (by decide) rfl rfl ⟨(Nat.le_of_ble_eq_true rfl), (Nat.le_of_ble_eq_true rfl), (Nat.le_of_ble_eq_true rfl), (Nat.le_of_ble_eq_true rfl)⟩ dX4_gatherQuarrels_152 ?_
    rintro _ h18 ⟨v20, rfl, hs19, ht⟩
    refine ab_pop dX4_gatherQuarrels_155 rfl ?_
    refine ab_iinc (i := 1) (x := x1) (v := (x1 + 1)) (L' := [some (.ref 74), some (.int (x1 + 1)), some (.int x2), some (.int x3), some (.int x4), none]) dX4_gatherQuarrels_156 rfl rfl (by exact (Nat.le_of_ble_eq_true rfl)) rfl rfl ?_
    refine ab_goto (tgt := 17) dX4_gatherQuarrels_159 (by decide) ?_
    exact Wp.fewer (L' := [some (.ref 74), some (.int (x1 + 1)), none, none, none, none]) (show ab_leL _ _ from ⟨rfl, ⟨rfl, trivial⟩⟩) ht
  · have ht := ht.2 c17
    refine ab_iload_n (i := 2) dX4_gatherQuarrels_63 rfl rfl ?_
    refine ab_iload_n (i := 3) dX4_gatherQuarrels_64 rfl rfl ?_
    refine ab_ior dX4_gatherQuarrels_65 ?_
    refine ab_if_eq (tgt := 146) dX4_gatherQuarrels_66 (by decide) (fun c21 => ?_) (fun c21 => ?_)
    · have ht := ht.1 c21
      refine ab_aload_n (i := 0) dX4_gatherQuarrels_146 rfl rfl ?_
      refine ab_getR (b := 43) f_X4_62 rfl (sh_k hs 74 4 (by decide) rfl) (sh_r hs 92 rfl) dX4_gatherQuarrels_147 ?_
      refine ab_iload_n (i := 1) dX4_gatherQuarrels_150 rfl rfl ?_
      refine ab_iconst (v := 0) dX4_gatherQuarrels_151 (by decide) ?_
      refine ab_callV (b := 43) (As := [.int x1, .int 0]) ht (Y_X3_finish) l_X4_162 in_X3_finish se_X3_finish (sh_k hs 43 3 (by decide) rfl) (by decide) rfl rfl ⟨(Nat.le_of_ble_eq_true rfl), (Nat.le_of_ble_eq_true rfl), (Nat.le_of_ble_eq_true rfl), (Nat.le_of_ble_eq_true rfl)⟩ dX4_gatherQuarrels_152 ?_
      rintro _ h22 ⟨v24, rfl, hs23, ht⟩
      refine ab_pop dX4_gatherQuarrels_155 rfl ?_
      refine ab_iinc (i := 1) (x := x1) (v := (x1 + 1)) (L' := [some (.ref 74), some (.int (x1 + 1)), some (.int x2), some (.int x3), some (.int x4), none]) dX4_gatherQuarrels_156 rfl rfl (by exact (Nat.le_of_ble_eq_true rfl)) rfl rfl ?_
      refine ab_goto (tgt := 17) dX4_gatherQuarrels_159 (by decide) ?_
      exact Wp.fewer (L' := [some (.ref 74), some (.int (x1 + 1)), none, none, none, none]) (show ab_leL _ _ from ⟨rfl, ⟨rfl, trivial⟩⟩) ht
    · have ht := ht.2 c21
      refine ab_aload_n (i := 0) dX4_gatherQuarrels_69 rfl rfl ?_
      refine ab_getR (b := 43) f_X4_62 rfl (sh_k hs 74 4 (by decide) rfl) (sh_r hs 92 rfl) dX4_gatherQuarrels_70 ?_
      refine ab_getI f_X4_153 rfl (sh_k hs 43 3 (by decide) rfl) dX4_gatherQuarrels_73 ?_
      refine ab_iload (i := 4) dX4_gatherQuarrels_76 rfl ?_
      refine ab_ishr dX4_gatherQuarrels_78 ?_
      refine ab_iconst (v := 1) dX4_gatherQuarrels_79 (by decide) ?_
      refine ab_iand dX4_gatherQuarrels_80 ?_
      refine ab_if_eq (tgt := 140) dX4_gatherQuarrels_81 (by decide) (fun c25 => ?_) (fun c25 => ?_)
      · have ht := ht.1 c25
        refine ab_iinc (i := 4) (x := x4) (v := (x4 + 1)) (L' := [some (.ref 74), some (.int x1), some (.int x2), some (.int x3), some (.int (x4 + 1)), none]) dX4_gatherQuarrels_140 rfl rfl (by exact (Nat.le_of_ble_eq_true rfl)) rfl rfl ?_
        refine ab_goto (tgt := 51) dX4_gatherQuarrels_143 (by decide) ?_
        exact Wp.fewer (L' := [some (.ref 74), some (.int x1), some (.int x2), some (.int x3), some (.int (x4 + 1)), none]) (show ab_leL _ _ from ⟨rfl, ⟨rfl, ⟨rfl, ⟨rfl, ⟨rfl, trivial⟩⟩⟩⟩⟩) ht
      · have ht := ht.2 c25
        refine ab_iload_n (i := 2) dX4_gatherQuarrels_84 rfl rfl ?_
        refine ab_iload (i := 4) dX4_gatherQuarrels_85 rfl ?_
        refine ab_ishr dX4_gatherQuarrels_87 ?_
        refine ab_iconst (v := 1) dX4_gatherQuarrels_88 (by decide) ?_
        refine ab_iand dX4_gatherQuarrels_89 ?_
        refine ab_if_eq (tgt := 97) dX4_gatherQuarrels_90 (by decide) (fun c26 => ?_) (fun c26 => ?_)
        · have ht := ht.1 c26
          refine ab_iconst (v := 0) dX4_gatherQuarrels_97 (by decide) ?_
          refine ab_istore (i := 5) (L' := [some (.ref 74), some (.int x1), some (.int x2), some (.int x3), some (.int x4), some (.int 0)]) dX4_gatherQuarrels_98 (by exact (Nat.le_of_ble_eq_true rfl)) rfl rfl ?_
          refine ab_aload_n (i := 0) dX4_gatherQuarrels_100 rfl rfl ?_
          refine ab_iload (i := 4) dX4_gatherQuarrels_101 rfl ?_
          refine ab_iload (i := 5) dX4_gatherQuarrels_103 rfl ?_
          refine ab_if_eq (tgt := 118) dX4_gatherQuarrels_105 (by decide) (fun _ => ?_) (fun q => absurd (by decide) q)
          refine ab_iload_n (i := 2) dX4_gatherQuarrels_118 rfl rfl ?_
          refine ab_iload_n (i := 1) dX4_gatherQuarrels_119 rfl rfl ?_
          refine ab_callV (b := 74) (As := [.int x4, .int x2, .int x1]) ht (Y_X4_learnOfLamps) l_X4_156 in_X4_learnOfLamps se_X4_learnOfLamps (sh_k hs 74 4 (by decide) rfl) (by decide) rfl rfl ⟨(Nat.le_of_ble_eq_true rfl), (Nat.le_of_ble_eq_true rfl), (Nat.le_of_ble_eq_true rfl), (Nat.le_of_ble_eq_true rfl)⟩ dX4_gatherQuarrels_120 ?_
          rintro _ h27 ⟨rfl, hs28, ht⟩
          refine ab_aload_n (i := 0) dX4_gatherQuarrels_123 rfl rfl ?_
          refine ab_iload (i := 4) dX4_gatherQuarrels_124 rfl ?_
          refine ab_iload (i := 5) dX4_gatherQuarrels_126 rfl ?_
          refine ab_if_eq (tgt := 135) dX4_gatherQuarrels_128 (by decide) (fun _ => ?_) (fun q => absurd (by decide) q)
          refine ab_iload_n (i := 3) dX4_gatherQuarrels_135 rfl rfl ?_
          refine ab_iload_n (i := 1) dX4_gatherQuarrels_136 rfl rfl ?_
          refine ab_callV (b := 74) (As := [.int x4, .int x3, .int x1]) ht (Y_X4_learnOfLanterns) l_X4_159 in_X4_learnOfLanterns se_X4_learnOfLanterns (sh_k hs28 74 4 (by decide) rfl) (by decide) rfl rfl ⟨(Nat.le_of_ble_eq_true rfl), (Nat.le_of_ble_eq_true rfl), (Nat.le_of_ble_eq_true rfl), (Nat.le_of_ble_eq_true rfl)⟩ dX4_gatherQuarrels_137 ?_
          rintro _ h30 ⟨rfl, hs31, ht⟩
          refine ab_iinc (i := 4) (x := x4) (v := (x4 + 1)) (L' := [some (.ref 74), some (.int x1), some (.int x2), some (.int x3), some (.int (x4 + 1)), some (.int 0)]) dX4_gatherQuarrels_140 rfl rfl (by exact (Nat.le_of_ble_eq_true rfl)) rfl rfl ?_
          refine ab_goto (tgt := 51) dX4_gatherQuarrels_143 (by decide) ?_
          exact Wp.fewer (L' := [some (.ref 74), some (.int x1), some (.int x2), some (.int x3), some (.int (x4 + 1)), none]) (show ab_leL _ _ from ⟨rfl, ⟨rfl, ⟨rfl, ⟨rfl, ⟨rfl, trivial⟩⟩⟩⟩⟩) ht
        · have ht := ht.2 c26
          refine ab_iconst (v := 1) dX4_gatherQuarrels_93 (by decide) ?_
          refine ab_goto (tgt := 98) dX4_gatherQuarrels_94 (by decide) ?_
          refine ab_istore (i := 5) (L' := [some (.ref 74), some (.int x1), some (.int x2), some (.int x3), some (.int x4), some (.int 1)]) dX4_gatherQuarrels_98 (by exact (Nat.le_of_ble_eq_true rfl)) rfl rfl ?_
          refine ab_aload_n (i := 0) dX4_gatherQuarrels_100 rfl rfl ?_
          refine ab_iload (i := 4) dX4_gatherQuarrels_101 rfl ?_
          refine ab_iload (i := 5) dX4_gatherQuarrels_103 rfl ?_
          refine ab_if_eq (tgt := 118) dX4_gatherQuarrels_105 (by decide) (fun q => absurd q (by decide)) (fun _ => ?_)
          refine ab_aload_n (i := 0) dX4_gatherQuarrels_108 rfl rfl ?_
          refine ab_getR (b := 43) f_X4_62 rfl (sh_k hs 74 4 (by decide) rfl) (sh_r hs 92 rfl) dX4_gatherQuarrels_109 ?_
          refine ab_getI f_X4_153 rfl (sh_k hs 43 3 (by decide) rfl) dX4_gatherQuarrels_112 ?_
          refine ab_goto (tgt := 119) dX4_gatherQuarrels_115 (by decide) ?_
          refine ab_iload_n (i := 1) dX4_gatherQuarrels_119 rfl rfl ?_
          refine ab_callV (b := 74) (As := [.int x4, .int (ah_i h 43 5), .int x1]) ht (Y_X4_learnOfLamps) l_X4_156 in_X4_learnOfLamps se_X4_learnOfLamps (sh_k hs 74 4 (by decide) rfl) (by decide) rfl rfl ⟨(Nat.le_of_ble_eq_true rfl), (Nat.le_of_ble_eq_true rfl), (Nat.le_of_ble_eq_true rfl), (Nat.le_of_ble_eq_true rfl)⟩ dX4_gatherQuarrels_120 ?_
          rintro _ h33 ⟨rfl, hs34, ht⟩
          refine ab_aload_n (i := 0) dX4_gatherQuarrels_123 rfl rfl ?_
          refine ab_iload (i := 4) dX4_gatherQuarrels_124 rfl ?_
          refine ab_iload (i := 5) dX4_gatherQuarrels_126 rfl ?_
          refine ab_if_eq (tgt := 135) dX4_gatherQuarrels_128 (by decide) (fun q => absurd q (by decide)) (fun _ => ?_)
          refine ab_iconst (v := (-1)) dX4_gatherQuarrels_131 (by decide) ?_
          refine ab_goto (tgt := 136) dX4_gatherQuarrels_132 (by decide) ?_
          refine ab_iload_n (i := 1) dX4_gatherQuarrels_136 rfl rfl ?_
          refine ab_callV (b := 74) (As := [.int x4, .int (-1), .int x1]) ht (Y_X4_learnOfLanterns) l_X4_159 in_X4_learnOfLanterns se_X4_learnOfLanterns (sh_k hs34 74 4 (by decide) rfl) (by decide) rfl rfl ⟨(Nat.le_of_ble_eq_true rfl), (Nat.le_of_ble_eq_true rfl), (Nat.le_of_ble_eq_true rfl), (Nat.le_of_ble_eq_true rfl)⟩ dX4_gatherQuarrels_137 ?_
          rintro _ h36 ⟨rfl, hs37, ht⟩
          refine ab_iinc (i := 4) (x := x4) (v := (x4 + 1)) (L' := [some (.ref 74), some (.int x1), some (.int x2), some (.int x3), some (.int (x4 + 1)), some (.int 1)]) dX4_gatherQuarrels_140 rfl rfl (by exact (Nat.le_of_ble_eq_true rfl)) rfl rfl ?_
          refine ab_goto (tgt := 51) dX4_gatherQuarrels_143 (by decide) ?_
          exact Wp.fewer (L' := [some (.ref 74), some (.int x1), some (.int x2), some (.int x3), some (.int (x4 + 1)), none]) (show ab_leL _ _ from ⟨rfl, ⟨rfl, ⟨rfl, ⟨rfl, ⟨rfl, trivial⟩⟩⟩⟩⟩) ht
set_option maxRecDepth 20000 in
theorem T_X4_gatherQuarrels {Q : Option Value → ah_T → Prop} {h : ah_T} (hs : Sh h)  (ht : (Mt mJ7_fill_53178 [.ref 79, .int 0] h (ab_qv fun h1 => Sh h1 ∧ (Mt mX3_restart [.ref 43] h1 (ab_qv fun h4 => Sh h4 ∧ Wp mX4_gatherQuarrels Q 0 0 17 [some (.ref 74), some (.int 0), none, none, none, none] [] h4))))) : Mt mX4_gatherQuarrels [.ref 74] h Q := by
  refine Mt.ofWp rfl (by exact (Nat.le_of_ble_eq_true rfl)) (Wp.fewer (L' := [some (.ref 74), none, none, none, none, none]) (show ab_leL _ _ from ⟨rfl, trivial⟩) ?_)
  refine ab_aload_n (i := 0) dX4_gatherQuarrels_0 rfl rfl ?_
  refine ab_getR (b := 79) f_X4_41 rfl (sh_k hs 74 4 (by decide) rfl) (sh_r hs 96 rfl) dX4_gatherQuarrels_1 ?_
  refine ab_iconst (v := 0) dX4_gatherQuarrels_4 (by decide) ?_
  refine ab_callS (As := [.ref 79, .int 0]) ht (Y_J7_fill_53178) l_X4_89 st_J7_fill_53178 rfl ⟨(Nat.le_of_ble_eq_true rfl), (Nat.le_of_ble_eq_true rfl), (Nat.le_of_ble_eq_true rfl), (Nat.le_of_ble_eq_true rfl)⟩ dX4_gatherQuarrels_5 ?_
  rintro _ h1 ⟨rfl, hs2, ht⟩
  refine ab_aload_n (i := 0) dX4_gatherQuarrels_8 rfl rfl ?_
  refine ab_getR (b := 43) f_X4_62 rfl (sh_k hs2 74 4 (by decide) rfl) (sh_r hs2 92 rfl) dX4_gatherQuarrels_9 ?_
  refine ab_callV (b := 43) (As := []) ht (Y_X3_restart) l_X4_134 in_X3_restart se_X3_restart (sh_k hs2 43 3 (by decide) rfl) (by decide) rfl rfl ⟨(Nat.le_of_ble_eq_true rfl), (Nat.le_of_ble_eq_true rfl), (Nat.le_of_ble_eq_true rfl), (Nat.le_of_ble_eq_true rfl)⟩ dX4_gatherQuarrels_12 ?_
  rintro _ h4 ⟨rfl, hs5, ht⟩
  refine ab_iconst (v := 0) dX4_gatherQuarrels_15 (by decide) ?_
  refine ab_istore_n (i := 1) (L' := [some (.ref 74), some (.int 0), none, none, none, none]) dX4_gatherQuarrels_16 rfl (by exact (Nat.le_of_ble_eq_true rfl)) rfl rfl ?_
  exact Wp.fewer (L' := [some (.ref 74), some (.int 0), none, none, none, none]) (show ab_leL _ _ from ⟨rfl, ⟨rfl, trivial⟩⟩) ht
theorem dX4_learnOfLamps_0 : decode cX4_learnOfLamps 0 = .ok (.iconst 0, 1) := by decide +kernel
theorem dX4_learnOfLamps_1 : decode cX4_learnOfLamps 1 = .ok (.istore 4, 2) := by decide +kernel
theorem dX4_learnOfLamps_3 : decode cX4_learnOfLamps 3 = .ok (.iload 4, 2) := by decide +kernel
theorem dX4_learnOfLamps_5 : decode cX4_learnOfLamps 5 = .ok (.aload_n 0, 1) := by decide +kernel
theorem dX4_learnOfLamps_6 : decode cX4_learnOfLamps 6 = .ok (.getfield 62, 3) := by decide +kernel
theorem dX4_learnOfLamps_9 : decode cX4_learnOfLamps 9 = .ok (.getfield 150, 3) := by decide +kernel
theorem dX4_learnOfLamps_12 : decode cX4_learnOfLamps 12 = .ok (.if_icmp .ge 52, 3) := by decide +kernel
theorem dX4_learnOfLamps_15 : decode cX4_learnOfLamps 15 = .ok (.iload 4, 2) := by decide +kernel
theorem dX4_learnOfLamps_17 : decode cX4_learnOfLamps 17 = .ok (.iload_n 1, 1) := by decide +kernel
theorem dX4_learnOfLamps_18 : decode cX4_learnOfLamps 18 = .ok (.if_icmp .eq 40, 3) := by decide +kernel
theorem dX4_learnOfLamps_21 : decode cX4_learnOfLamps 21 = .ok (.iload_n 2, 1) := by decide +kernel
theorem dX4_learnOfLamps_22 : decode cX4_learnOfLamps 22 = .ok (.iload 4, 2) := by decide +kernel
theorem dX4_learnOfLamps_24 : decode cX4_learnOfLamps 24 = .ok (.ishr, 1) := by decide +kernel
theorem dX4_learnOfLamps_25 : decode cX4_learnOfLamps 25 = .ok (.iconst 1, 1) := by decide +kernel
theorem dX4_learnOfLamps_26 : decode cX4_learnOfLamps 26 = .ok (.iand, 1) := by decide +kernel
theorem dX4_learnOfLamps_27 : decode cX4_learnOfLamps 27 = .ok (.ifCond .eq 31, 3) := by decide +kernel
theorem dX4_learnOfLamps_30 : decode cX4_learnOfLamps 30 = .ok (.aload_n 0, 1) := by decide +kernel
theorem dX4_learnOfLamps_31 : decode cX4_learnOfLamps 31 = .ok (.iload_n 1, 1) := by decide +kernel
theorem dX4_learnOfLamps_32 : decode cX4_learnOfLamps 32 = .ok (.iload 4, 2) := by decide +kernel
theorem dX4_learnOfLamps_34 : decode cX4_learnOfLamps 34 = .ok (.aload_n 0, 1) := by decide +kernel
theorem dX4_learnOfLamps_35 : decode cX4_learnOfLamps 35 = .ok (.getfield 62, 3) := by decide +kernel
theorem dX4_learnOfLamps_38 : decode cX4_learnOfLamps 38 = .ok (.getfield 165, 3) := by decide +kernel
theorem dX4_learnOfLamps_41 : decode cX4_learnOfLamps 41 = .ok (.iload 4, 2) := by decide +kernel
theorem dX4_learnOfLamps_43 : decode cX4_learnOfLamps 43 = .ok (.iaload, 1) := by decide +kernel
theorem dX4_learnOfLamps_44 : decode cX4_learnOfLamps 44 = .ok (.aload_n 0, 1) := by decide +kernel
theorem dX4_learnOfLamps_45 : decode cX4_learnOfLamps 45 = .ok (.getfield 62, 3) := by decide +kernel
theorem dX4_learnOfLamps_48 : decode cX4_learnOfLamps 48 = .ok (.getfield 168, 3) := by decide +kernel
theorem dX4_learnOfLamps_51 : decode cX4_learnOfLamps 51 = .ok (.iload 4, 2) := by decide +kernel
theorem dX4_learnOfLamps_53 : decode cX4_learnOfLamps 53 = .ok (.iaload, 1) := by decide +kernel
theorem dX4_learnOfLamps_54 : decode cX4_learnOfLamps 54 = .ok (.iload_n 3, 1) := by decide +kernel
theorem dX4_learnOfLamps_55 : decode cX4_learnOfLamps 55 = .ok (.invokevirtual 171, 3) := by decide +kernel
theorem dX4_learnOfLamps_58 : decode cX4_learnOfLamps 58 = .ok (.iinc 4 1, 3) := by decide +kernel
theorem dX4_learnOfLamps_61 : decode cX4_learnOfLamps 61 = .ok (.goto (-58), 3) := by decide +kernel
theorem dX4_learnOfLamps_64 : decode cX4_learnOfLamps 64 = .ok (.return_, 1) := by decide +kernel
set_option maxRecDepth 20000 in
theorem T_X4_learnOfLamps_3 {Q : Option Value → ah_T → Prop} {h : ah_T} (hs : Sh h) (x1 : Int32) (x2 : Int32) (x3 : Int32) (x4 : Int32) (ht : (((ah_i h 43 0) ≤ x4 → Q none h) ∧ (¬ (ah_i h 43 0) ≤ x4 → ((x4 = x1 → Wp mX4_learnOfLamps Q 0 0 3 [some (.ref 74), some (.int x1), some (.int x2), some (.int x3), some (.int (x4 + 1))] [] h) ∧ (¬ x4 = x1 → ((((x2 >>> (x4 &&& 31)) &&& 1) = 0 → Wp mX4_learnOfLamps Q 0 0 3 [some (.ref 74), some (.int x1), some (.int x2), some (.int x3), some (.int (x4 + 1))] [] h) ∧ (¬ ((x2 >>> (x4 &&& 31)) &&& 1) = 0 → (vp_in x4 (ah_n h 45)) ∧ (vp_in x4 (ah_n h 44)) ∧ (Mt mX4_learn [.ref 74, .int x1, .int x4, .int (ah_i h 45 (Int32.toNatClampNeg x4)), .int (ah_i h 44 (Int32.toNatClampNeg x4)), .int x3] h (ab_qv fun h6 => Sh h6 ∧ Wp mX4_learnOfLamps Q 0 0 3 [some (.ref 74), some (.int x1), some (.int x2), some (.int x3), some (.int (x4 + 1))] [] h6))))))))) : Wp mX4_learnOfLamps Q 0 0 3 [some (.ref 74), some (.int x1), some (.int x2), some (.int x3), some (.int x4)] [] h := by
  refine ab_iload (i := 4) dX4_learnOfLamps_3 rfl ?_
  refine ab_aload_n (i := 0) dX4_learnOfLamps_5 rfl rfl ?_
  refine ab_getR (b := 43) f_X4_62 rfl (sh_k hs 74 4 (by decide) rfl) (sh_r hs 92 rfl) dX4_learnOfLamps_6 ?_
  refine ab_getI f_X4_150 rfl (sh_k hs 43 3 (by decide) rfl) dX4_learnOfLamps_9 ?_
  refine ab_icmp_ge (tgt := 64) dX4_learnOfLamps_12 (by decide) (fun c1 => ?_) (fun c1 => ?_)
  · have ht := ht.1 c1
    exact ab_vret rfl dX4_learnOfLamps_64 (Nat.le_of_ble_eq_true rfl) (Nat.le_of_ble_eq_true rfl) ht
  · have ht := ht.2 c1
    refine ab_iload (i := 4) dX4_learnOfLamps_15 rfl ?_
    refine ab_iload_n (i := 1) dX4_learnOfLamps_17 rfl rfl ?_
    refine ab_icmp_eq (tgt := 58) dX4_learnOfLamps_18 (by decide) (fun c2 => ?_) (fun c2 => ?_)
    · have ht := ht.1 c2
      refine ab_iinc (i := 4) (x := x4) (v := (x4 + 1)) (L' := [some (.ref 74), some (.int x1), some (.int x2), some (.int x3), some (.int (x4 + 1))]) dX4_learnOfLamps_58 rfl rfl (by exact (Nat.le_of_ble_eq_true rfl)) rfl rfl ?_
      refine ab_goto (tgt := 3) dX4_learnOfLamps_61 (by decide) ?_
      exact Wp.fewer (L' := [some (.ref 74), some (.int x1), some (.int x2), some (.int x3), some (.int (x4 + 1))]) (show ab_leL _ _ from ⟨rfl, ⟨rfl, ⟨rfl, ⟨rfl, ⟨rfl, trivial⟩⟩⟩⟩⟩) ht
    · have ht := ht.2 c2
      refine ab_iload_n (i := 2) dX4_learnOfLamps_21 rfl rfl ?_
      refine ab_iload (i := 4) dX4_learnOfLamps_22 rfl ?_
      refine ab_ishr dX4_learnOfLamps_24 ?_
      refine ab_iconst (v := 1) dX4_learnOfLamps_25 (by decide) ?_
      refine ab_iand dX4_learnOfLamps_26 ?_
      refine ab_if_eq (tgt := 58) dX4_learnOfLamps_27 (by decide) (fun c3 => ?_) (fun c3 => ?_)
      · have ht := ht.1 c3
        refine ab_iinc (i := 4) (x := x4) (v := (x4 + 1)) (L' := [some (.ref 74), some (.int x1), some (.int x2), some (.int x3), some (.int (x4 + 1))]) dX4_learnOfLamps_58 rfl rfl (by exact (Nat.le_of_ble_eq_true rfl)) rfl rfl ?_
        refine ab_goto (tgt := 3) dX4_learnOfLamps_61 (by decide) ?_
        exact Wp.fewer (L' := [some (.ref 74), some (.int x1), some (.int x2), some (.int x3), some (.int (x4 + 1))]) (show ab_leL _ _ from ⟨rfl, ⟨rfl, ⟨rfl, ⟨rfl, ⟨rfl, trivial⟩⟩⟩⟩⟩) ht
      · have ht := ht.2 c3
        refine ab_aload_n (i := 0) dX4_learnOfLamps_30 rfl rfl ?_
        refine ab_iload_n (i := 1) dX4_learnOfLamps_31 rfl rfl ?_
        refine ab_iload (i := 4) dX4_learnOfLamps_32 rfl ?_
        refine ab_aload_n (i := 0) dX4_learnOfLamps_34 rfl rfl ?_
        refine ab_getR (b := 43) f_X4_62 rfl (sh_k hs 74 4 (by decide) rfl) (sh_r hs 92 rfl) dX4_learnOfLamps_35 ?_
        refine ab_getR (b := 45) f_X4_165 rfl (sh_k hs 43 3 (by decide) rfl) (sh_r hs 51 rfl) dX4_learnOfLamps_38 ?_
        refine ab_iload (i := 4) dX4_learnOfLamps_41 rfl ?_
        obtain ⟨hc4, ht⟩ := ht
        refine ab_iald (sh_k hs 45 14 (by decide) rfl) hc4 dX4_learnOfLamps_43 ?_
        refine ab_aload_n (i := 0) dX4_learnOfLamps_44 rfl rfl ?_
        refine ab_getR (b := 43) f_X4_62 rfl (sh_k hs 74 4 (by decide) rfl) (sh_r hs 92 rfl) dX4_learnOfLamps_45 ?_
        refine ab_getR (b := 44) f_X4_168 rfl (sh_k hs 43 3 (by decide) rfl) (sh_r hs 50 rfl) dX4_learnOfLamps_48 ?_
        refine ab_iload (i := 4) dX4_learnOfLamps_51 rfl ?_
        obtain ⟨hc5, ht⟩ := ht
        refine ab_iald (sh_k hs 44 14 (by decide) rfl) hc5 dX4_learnOfLamps_53 ?_
        refine ab_iload_n (i := 3) dX4_learnOfLamps_54 rfl rfl ?_
        refine ab_callV (b := 74) (As := [.int x1, .int x4, .int (ah_i h 45 (Int32.toNatClampNeg x4)), .int (ah_i h 44 (Int32.toNatClampNeg x4)), .int x3]) ht (Y_X4_learn) l_X4_171 in_X4_learn se_X4_learn (sh_k hs 74 4 (by decide) rfl) (by decide) rfl rfl ⟨(Nat.le_of_ble_eq_true rfl), (Nat.le_of_ble_eq_true rfl), (Nat.le_of_ble_eq_true rfl), (Nat.le_of_ble_eq_true rfl)⟩ dX4_learnOfLamps_55 ?_
        rintro _ h6 ⟨rfl, hs7, ht⟩
        refine ab_iinc (i := 4) (x := x4) (v := (x4 + 1)) (L' := [some (.ref 74), some (.int x1), some (.int x2), some (.int x3), some (.int (x4 + 1))]) dX4_learnOfLamps_58 rfl rfl (by exact (Nat.le_of_ble_eq_true rfl)) rfl rfl ?_
        refine ab_goto (tgt := 3) dX4_learnOfLamps_61 (by decide) ?_
        exact Wp.fewer (L' := [some (.ref 74), some (.int x1), some (.int x2), some (.int x3), some (.int (x4 + 1))]) (show ab_leL _ _ from ⟨rfl, ⟨rfl, ⟨rfl, ⟨rfl, ⟨rfl, trivial⟩⟩⟩⟩⟩) ht
set_option maxRecDepth 20000 in
theorem T_X4_learnOfLamps {Q : Option Value → ah_T → Prop} {h : ah_T} (hs : Sh h) (x1 : Int32) (x2 : Int32) (x3 : Int32) (ht : Wp mX4_learnOfLamps Q 0 0 3 [some (.ref 74), some (.int x1), some (.int x2), some (.int x3), some (.int 0)] [] h) : Mt mX4_learnOfLamps [.ref 74, .int x1, .int x2, .int x3] h Q := by
  refine Mt.ofWp rfl (by exact (Nat.le_of_ble_eq_true rfl)) (Wp.fewer (L' := [some (.ref 74), some (.int x1), some (.int x2), some (.int x3), none]) (show ab_leL _ _ from ⟨rfl, ⟨rfl, ⟨rfl, ⟨rfl, trivial⟩⟩⟩⟩) ?_)
  refine ab_iconst (v := 0) dX4_learnOfLamps_0 (by decide) ?_
  refine ab_istore (i := 4) (L' := [some (.ref 74), some (.int x1), some (.int x2), some (.int x3), some (.int 0)]) dX4_learnOfLamps_1 (by exact (Nat.le_of_ble_eq_true rfl)) rfl rfl ?_
  exact Wp.fewer (L' := [some (.ref 74), some (.int x1), some (.int x2), some (.int x3), some (.int 0)]) (show ab_leL _ _ from ⟨rfl, ⟨rfl, ⟨rfl, ⟨rfl, ⟨rfl, trivial⟩⟩⟩⟩⟩) ht
theorem dX4_learnOfLanterns_0 : decode cX4_learnOfLanterns 0 = .ok (.iconst 0, 1) := by decide +kernel
theorem dX4_learnOfLanterns_1 : decode cX4_learnOfLanterns 1 = .ok (.istore 4, 2) := by decide +kernel
theorem dX4_learnOfLanterns_3 : decode cX4_learnOfLanterns 3 = .ok (.iload 4, 2) := by decide +kernel
theorem dX4_learnOfLanterns_5 : decode cX4_learnOfLanterns 5 = .ok (.aload_n 0, 1) := by decide +kernel
theorem dX4_learnOfLanterns_6 : decode cX4_learnOfLanterns 6 = .ok (.getfield 62, 3) := by decide +kernel
theorem dX4_learnOfLanterns_9 : decode cX4_learnOfLanterns 9 = .ok (.getfield 175, 3) := by decide +kernel
theorem dX4_learnOfLanterns_12 : decode cX4_learnOfLanterns 12 = .ok (.if_icmp .ge 60, 3) := by decide +kernel
theorem dX4_learnOfLanterns_15 : decode cX4_learnOfLanterns 15 = .ok (.aload_n 0, 1) := by decide +kernel
theorem dX4_learnOfLanterns_16 : decode cX4_learnOfLanterns 16 = .ok (.getfield 62, 3) := by decide +kernel
theorem dX4_learnOfLanterns_19 : decode cX4_learnOfLanterns 19 = .ok (.getfield 178, 3) := by decide +kernel
theorem dX4_learnOfLanterns_22 : decode cX4_learnOfLanterns 22 = .ok (.iload 4, 2) := by decide +kernel
theorem dX4_learnOfLanterns_24 : decode cX4_learnOfLanterns 24 = .ok (.bipush 120, 2) := by decide +kernel
theorem dX4_learnOfLanterns_26 : decode cX4_learnOfLanterns 26 = .ok (.imul, 1) := by decide +kernel
theorem dX4_learnOfLanterns_27 : decode cX4_learnOfLanterns 27 = .ok (.iload_n 3, 1) := by decide +kernel
theorem dX4_learnOfLanterns_28 : decode cX4_learnOfLanterns 28 = .ok (.iadd, 1) := by decide +kernel
theorem dX4_learnOfLanterns_29 : decode cX4_learnOfLanterns 29 = .ok (.iaload, 1) := by decide +kernel
theorem dX4_learnOfLanterns_30 : decode cX4_learnOfLanterns 30 = .ok (.istore 5, 2) := by decide +kernel
theorem dX4_learnOfLanterns_32 : decode cX4_learnOfLanterns 32 = .ok (.iload 5, 2) := by decide +kernel
theorem dX4_learnOfLanterns_34 : decode cX4_learnOfLanterns 34 = .ok (.iconst (-1), 1) := by decide +kernel
theorem dX4_learnOfLanterns_35 : decode cX4_learnOfLanterns 35 = .ok (.if_icmp .eq 31, 3) := by decide +kernel
theorem dX4_learnOfLanterns_38 : decode cX4_learnOfLanterns 38 = .ok (.iload_n 2, 1) := by decide +kernel
theorem dX4_learnOfLanterns_39 : decode cX4_learnOfLanterns 39 = .ok (.iload 4, 2) := by decide +kernel
theorem dX4_learnOfLanterns_41 : decode cX4_learnOfLanterns 41 = .ok (.ishr, 1) := by decide +kernel
theorem dX4_learnOfLanterns_42 : decode cX4_learnOfLanterns 42 = .ok (.iconst 1, 1) := by decide +kernel
theorem dX4_learnOfLanterns_43 : decode cX4_learnOfLanterns 43 = .ok (.iand, 1) := by decide +kernel
theorem dX4_learnOfLanterns_44 : decode cX4_learnOfLanterns 44 = .ok (.ifCond .eq 22, 3) := by decide +kernel
theorem dX4_learnOfLanterns_47 : decode cX4_learnOfLanterns 47 = .ok (.aload_n 0, 1) := by decide +kernel
theorem dX4_learnOfLanterns_48 : decode cX4_learnOfLanterns 48 = .ok (.iload_n 1, 1) := by decide +kernel
theorem dX4_learnOfLanterns_49 : decode cX4_learnOfLanterns 49 = .ok (.iconst (-1), 1) := by decide +kernel
theorem dX4_learnOfLanterns_50 : decode cX4_learnOfLanterns 50 = .ok (.aload_n 0, 1) := by decide +kernel
theorem dX4_learnOfLanterns_51 : decode cX4_learnOfLanterns 51 = .ok (.getfield 62, 3) := by decide +kernel
theorem dX4_learnOfLanterns_54 : decode cX4_learnOfLanterns 54 = .ok (.getfield 181, 3) := by decide +kernel
theorem dX4_learnOfLanterns_57 : decode cX4_learnOfLanterns 57 = .ok (.iload 4, 2) := by decide +kernel
theorem dX4_learnOfLanterns_59 : decode cX4_learnOfLanterns 59 = .ok (.iaload, 1) := by decide +kernel
theorem dX4_learnOfLanterns_60 : decode cX4_learnOfLanterns 60 = .ok (.iload 5, 2) := by decide +kernel
theorem dX4_learnOfLanterns_62 : decode cX4_learnOfLanterns 62 = .ok (.iload_n 3, 1) := by decide +kernel
theorem dX4_learnOfLanterns_63 : decode cX4_learnOfLanterns 63 = .ok (.invokevirtual 171, 3) := by decide +kernel
theorem dX4_learnOfLanterns_66 : decode cX4_learnOfLanterns 66 = .ok (.iinc 4 1, 3) := by decide +kernel
theorem dX4_learnOfLanterns_69 : decode cX4_learnOfLanterns 69 = .ok (.goto (-66), 3) := by decide +kernel
theorem dX4_learnOfLanterns_72 : decode cX4_learnOfLanterns 72 = .ok (.return_, 1) := by decide +kernel
set_option maxRecDepth 20000 in
theorem T_X4_learnOfLanterns_3 {Q : Option Value → ah_T → Prop} {h : ah_T} (hs : Sh h) (x1 : Int32) (x2 : Int32) (x3 : Int32) (x4 : Int32) (ht : (((ah_i h 43 8) ≤ x4 → Q none h) ∧ (¬ (ah_i h 43 8) ≤ x4 → (vp_in ((x4 * 120) + x3) (ah_n h 49)) ∧ (((ah_i h 49 (Int32.toNatClampNeg ((x4 * 120) + x3))) = (-1) → Wp mX4_learnOfLanterns Q 0 0 3 [some (.ref 74), some (.int x1), some (.int x2), some (.int x3), some (.int (x4 + 1)), none] [] h) ∧ (¬ (ah_i h 49 (Int32.toNatClampNeg ((x4 * 120) + x3))) = (-1) → ((((x2 >>> (x4 &&& 31)) &&& 1) = 0 → Wp mX4_learnOfLanterns Q 0 0 3 [some (.ref 74), some (.int x1), some (.int x2), some (.int x3), some (.int (x4 + 1)), none] [] h) ∧ (¬ ((x2 >>> (x4 &&& 31)) &&& 1) = 0 → (vp_in x4 (ah_n h 48)) ∧ (Mt mX4_learn [.ref 74, .int x1, .int (-1), .int (ah_i h 48 (Int32.toNatClampNeg x4)), .int (ah_i h 49 (Int32.toNatClampNeg ((x4 * 120) + x3))), .int x3] h (ab_qv fun h6 => Sh h6 ∧ Wp mX4_learnOfLanterns Q 0 0 3 [some (.ref 74), some (.int x1), some (.int x2), some (.int x3), some (.int (x4 + 1)), none] [] h6))))))))) : Wp mX4_learnOfLanterns Q 0 0 3 [some (.ref 74), some (.int x1), some (.int x2), some (.int x3), some (.int x4), none] [] h := by
  refine ab_iload (i := 4) dX4_learnOfLanterns_3 rfl ?_
  refine ab_aload_n (i := 0) dX4_learnOfLanterns_5 rfl rfl ?_
  refine ab_getR (b := 43) f_X4_62 rfl (sh_k hs 74 4 (by decide) rfl) (sh_r hs 92 rfl) dX4_learnOfLanterns_6 ?_
  refine ab_getI f_X4_175 rfl (sh_k hs 43 3 (by decide) rfl) dX4_learnOfLanterns_9 ?_
  refine ab_icmp_ge (tgt := 72) dX4_learnOfLanterns_12 (by decide) (fun c1 => ?_) (fun c1 => ?_)
  · have ht := ht.1 c1
    exact ab_vret rfl dX4_learnOfLanterns_72 (Nat.le_of_ble_eq_true rfl) (Nat.le_of_ble_eq_true rfl) ht
  · have ht := ht.2 c1
    refine ab_aload_n (i := 0) dX4_learnOfLanterns_15 rfl rfl ?_
    refine ab_getR (b := 43) f_X4_62 rfl (sh_k hs 74 4 (by decide) rfl) (sh_r hs 92 rfl) dX4_learnOfLanterns_16 ?_
    refine ab_getR (b := 49) f_X4_178 rfl (sh_k hs 43 3 (by decide) rfl) (sh_r hs 55 rfl) dX4_learnOfLanterns_19 ?_
    refine ab_iload (i := 4) dX4_learnOfLanterns_22 rfl ?_
    refine ab_bipush (v := 120) dX4_learnOfLanterns_24 (by decide) ?_
    refine ab_imul dX4_learnOfLanterns_26 ?_
    refine ab_iload_n (i := 3) dX4_learnOfLanterns_27 rfl rfl ?_
    refine ab_iadd dX4_learnOfLanterns_28 ?_
    obtain ⟨hc2, ht⟩ := ht
    refine ab_iald (sh_k hs 49 14 (by decide) rfl) hc2 dX4_learnOfLanterns_29 ?_
    refine ab_istore (i := 5) (L' := [some (.ref 74), some (.int x1), some (.int x2), some (.int x3), some (.int x4), some (.int (ah_i h 49 (Int32.toNatClampNeg ((x4 * 120) + x3))))]) dX4_learnOfLanterns_30 (by exact (Nat.le_of_ble_eq_true rfl)) rfl rfl ?_
    refine ab_iload (i := 5) dX4_learnOfLanterns_32 rfl ?_
    refine ab_iconst (v := (-1)) dX4_learnOfLanterns_34 (by decide) ?_
    refine ab_icmp_eq (tgt := 66) dX4_learnOfLanterns_35 (by decide) (fun c3 => ?_) (fun c3 => ?_)
    · have ht := ht.1 c3
      refine ab_iinc (i := 4) (x := x4) (v := (x4 + 1)) (L' := [some (.ref 74), some (.int x1), some (.int x2), some (.int x3), some (.int (x4 + 1)), some (.int (ah_i h 49 (Int32.toNatClampNeg ((x4 * 120) + x3))))]) dX4_learnOfLanterns_66 rfl rfl (by exact (Nat.le_of_ble_eq_true rfl)) rfl rfl ?_
      refine ab_goto (tgt := 3) dX4_learnOfLanterns_69 (by decide) ?_
      exact Wp.fewer (L' := [some (.ref 74), some (.int x1), some (.int x2), some (.int x3), some (.int (x4 + 1)), none]) (show ab_leL _ _ from ⟨rfl, ⟨rfl, ⟨rfl, ⟨rfl, ⟨rfl, trivial⟩⟩⟩⟩⟩) ht
    · have ht := ht.2 c3
      refine ab_iload_n (i := 2) dX4_learnOfLanterns_38 rfl rfl ?_
      refine ab_iload (i := 4) dX4_learnOfLanterns_39 rfl ?_
      refine ab_ishr dX4_learnOfLanterns_41 ?_
      refine ab_iconst (v := 1) dX4_learnOfLanterns_42 (by decide) ?_
      refine ab_iand dX4_learnOfLanterns_43 ?_
      refine ab_if_eq (tgt := 66) dX4_learnOfLanterns_44 (by decide) (fun c4 => ?_) (fun c4 => ?_)
      · have ht := ht.1 c4
        refine ab_iinc (i := 4) (x := x4) (v := (x4 + 1)) (L' := [some (.ref 74), some (.int x1), some (.int x2), some (.int x3), some (.int (x4 + 1)), some (.int (ah_i h 49 (Int32.toNatClampNeg ((x4 * 120) + x3))))]) dX4_learnOfLanterns_66 rfl rfl (by exact (Nat.le_of_ble_eq_true rfl)) rfl rfl ?_
        refine ab_goto (tgt := 3) dX4_learnOfLanterns_69 (by decide) ?_
        exact Wp.fewer (L' := [some (.ref 74), some (.int x1), some (.int x2), some (.int x3), some (.int (x4 + 1)), none]) (show ab_leL _ _ from ⟨rfl, ⟨rfl, ⟨rfl, ⟨rfl, ⟨rfl, trivial⟩⟩⟩⟩⟩) ht
      · have ht := ht.2 c4
        refine ab_aload_n (i := 0) dX4_learnOfLanterns_47 rfl rfl ?_
        refine ab_iload_n (i := 1) dX4_learnOfLanterns_48 rfl rfl ?_
        refine ab_iconst (v := (-1)) dX4_learnOfLanterns_49 (by decide) ?_
        refine ab_aload_n (i := 0) dX4_learnOfLanterns_50 rfl rfl ?_
        refine ab_getR (b := 43) f_X4_62 rfl (sh_k hs 74 4 (by decide) rfl) (sh_r hs 92 rfl) dX4_learnOfLanterns_51 ?_
        refine ab_getR (b := 48) f_X4_181 rfl (sh_k hs 43 3 (by decide) rfl) (sh_r hs 54 rfl) dX4_learnOfLanterns_54 ?_
        refine ab_iload (i := 4) dX4_learnOfLanterns_57 rfl ?_
        obtain ⟨hc5, ht⟩ := ht
        refine ab_iald (sh_k hs 48 14 (by decide) rfl) hc5 dX4_learnOfLanterns_59 ?_
        refine ab_iload (i := 5) dX4_learnOfLanterns_60 rfl ?_
        refine ab_iload_n (i := 3) dX4_learnOfLanterns_62 rfl rfl ?_
        refine ab_callV (b := 74) (As := [.int x1, .int (-1), .int (ah_i h 48 (Int32.toNatClampNeg x4)), .int (ah_i h 49 (Int32.toNatClampNeg ((x4 * 120) + x3))), .int x3]) ht (Y_X4_learn) l_X4_171 in_X4_learn se_X4_learn (sh_k hs 74 4 (by decide) rfl) (by decide) rfl rfl ⟨(Nat.le_of_ble_eq_true rfl), (Nat.le_of_ble_eq_true rfl), (Nat.le_of_ble_eq_true rfl), (Nat.le_of_ble_eq_true rfl)⟩ dX4_learnOfLanterns_63 ?_
        rintro _ h6 ⟨rfl, hs7, ht⟩
        refine ab_iinc (i := 4) (x := x4) (v := (x4 + 1)) (L' := [some (.ref 74), some (.int x1), some (.int x2), some (.int x3), some (.int (x4 + 1)), some (.int (ah_i h 49 (Int32.toNatClampNeg ((x4 * 120) + x3))))]) dX4_learnOfLanterns_66 rfl rfl (by exact (Nat.le_of_ble_eq_true rfl)) rfl rfl ?_
        refine ab_goto (tgt := 3) dX4_learnOfLanterns_69 (by decide) ?_
        exact Wp.fewer (L' := [some (.ref 74), some (.int x1), some (.int x2), some (.int x3), some (.int (x4 + 1)), none]) (show ab_leL _ _ from ⟨rfl, ⟨rfl, ⟨rfl, ⟨rfl, ⟨rfl, trivial⟩⟩⟩⟩⟩) ht
set_option maxRecDepth 20000 in
theorem T_X4_learnOfLanterns {Q : Option Value → ah_T → Prop} {h : ah_T} (hs : Sh h) (x1 : Int32) (x2 : Int32) (x3 : Int32) (ht : Wp mX4_learnOfLanterns Q 0 0 3 [some (.ref 74), some (.int x1), some (.int x2), some (.int x3), some (.int 0), none] [] h) : Mt mX4_learnOfLanterns [.ref 74, .int x1, .int x2, .int x3] h Q := by
  refine Mt.ofWp rfl (by exact (Nat.le_of_ble_eq_true rfl)) (Wp.fewer (L' := [some (.ref 74), some (.int x1), some (.int x2), some (.int x3), none, none]) (show ab_leL _ _ from ⟨rfl, ⟨rfl, ⟨rfl, ⟨rfl, trivial⟩⟩⟩⟩) ?_)
  refine ab_iconst (v := 0) dX4_learnOfLanterns_0 (by decide) ?_
  refine ab_istore (i := 4) (L' := [some (.ref 74), some (.int x1), some (.int x2), some (.int x3), some (.int 0), none]) dX4_learnOfLanterns_1 (by exact (Nat.le_of_ble_eq_true rfl)) rfl rfl ?_
  exact Wp.fewer (L' := [some (.ref 74), some (.int x1), some (.int x2), some (.int x3), some (.int 0), none]) (show ab_leL _ _ from ⟨rfl, ⟨rfl, ⟨rfl, ⟨rfl, ⟨rfl, trivial⟩⟩⟩⟩⟩) ht
theorem dX4_learn_0 : decode cX4_learn 0 = .ok (.aload_n 0, 1) := by decide +kernel
theorem dX4_learn_1 : decode cX4_learn 1 = .ok (.getfield 62, 3) := by decide +kernel
theorem dX4_learn_4 : decode cX4_learn 4 = .ok (.getfield 168, 3) := by decide +kernel
theorem dX4_learn_7 : decode cX4_learn 7 = .ok (.iload_n 1, 1) := by decide +kernel
theorem dX4_learn_8 : decode cX4_learn 8 = .ok (.iaload, 1) := by decide +kernel
theorem dX4_learn_9 : decode cX4_learn 9 = .ok (.bipush 12, 2) := by decide +kernel
theorem dX4_learn_11 : decode cX4_learn 11 = .ok (.imul, 1) := by decide +kernel
theorem dX4_learn_12 : decode cX4_learn 12 = .ok (.iload 4, 2) := by decide +kernel
theorem dX4_learn_14 : decode cX4_learn 14 = .ok (.iadd, 1) := by decide +kernel
theorem dX4_learn_15 : decode cX4_learn 15 = .ok (.istore 6, 2) := by decide +kernel
theorem dX4_learn_17 : decode cX4_learn 17 = .ok (.iload_n 2, 1) := by decide +kernel
theorem dX4_learn_18 : decode cX4_learn 18 = .ok (.iconst (-1), 1) := by decide +kernel
theorem dX4_learn_19 : decode cX4_learn 19 = .ok (.if_icmp .eq 24, 3) := by decide +kernel
theorem dX4_learn_22 : decode cX4_learn 22 = .ok (.aload_n 0, 1) := by decide +kernel
theorem dX4_learn_23 : decode cX4_learn 23 = .ok (.getfield 62, 3) := by decide +kernel
theorem dX4_learn_26 : decode cX4_learn 26 = .ok (.getfield 184, 3) := by decide +kernel
theorem dX4_learn_29 : decode cX4_learn 29 = .ok (.iload_n 1, 1) := by decide +kernel
theorem dX4_learn_30 : decode cX4_learn 30 = .ok (.iaload, 1) := by decide +kernel
theorem dX4_learn_31 : decode cX4_learn 31 = .ok (.aload_n 0, 1) := by decide +kernel
theorem dX4_learn_32 : decode cX4_learn 32 = .ok (.getfield 62, 3) := by decide +kernel
theorem dX4_learn_35 : decode cX4_learn 35 = .ok (.getfield 184, 3) := by decide +kernel
theorem dX4_learn_38 : decode cX4_learn 38 = .ok (.iload_n 2, 1) := by decide +kernel
theorem dX4_learn_39 : decode cX4_learn 39 = .ok (.iaload, 1) := by decide +kernel
theorem dX4_learn_40 : decode cX4_learn 40 = .ok (.if_icmp .le 7, 3) := by decide +kernel
theorem dX4_learn_43 : decode cX4_learn 43 = .ok (.iconst 1, 1) := by decide +kernel
theorem dX4_learn_44 : decode cX4_learn 44 = .ok (.goto 4, 3) := by decide +kernel
theorem dX4_learn_47 : decode cX4_learn 47 = .ok (.iconst 0, 1) := by decide +kernel
theorem dX4_learn_48 : decode cX4_learn 48 = .ok (.istore 7, 2) := by decide +kernel
theorem dX4_learn_50 : decode cX4_learn 50 = .ok (.aload_n 0, 1) := by decide +kernel
theorem dX4_learn_51 : decode cX4_learn 51 = .ok (.iload 6, 2) := by decide +kernel
theorem dX4_learn_53 : decode cX4_learn 53 = .ok (.invokevirtual 187, 3) := by decide +kernel
theorem dX4_learn_56 : decode cX4_learn 56 = .ok (.aload_n 0, 1) := by decide +kernel
theorem dX4_learn_57 : decode cX4_learn 57 = .ok (.getfield 41, 3) := by decide +kernel
theorem dX4_learn_60 : decode cX4_learn 60 = .ok (.iload 6, 2) := by decide +kernel
theorem dX4_learn_62 : decode cX4_learn 62 = .ok (.iaload, 1) := by decide +kernel
theorem dX4_learn_63 : decode cX4_learn 63 = .ok (.iconst (-1), 1) := by decide +kernel
theorem dX4_learn_64 : decode cX4_learn 64 = .ok (.ixor, 1) := by decide +kernel
theorem dX4_learn_65 : decode cX4_learn 65 = .ok (.iand, 1) := by decide +kernel
theorem dX4_learn_66 : decode cX4_learn 66 = .ok (.istore 8, 2) := by decide +kernel
theorem dX4_learn_68 : decode cX4_learn 68 = .ok (.iconst (-1), 1) := by decide +kernel
theorem dX4_learn_69 : decode cX4_learn 69 = .ok (.istore 9, 2) := by decide +kernel
theorem dX4_learn_71 : decode cX4_learn 71 = .ok (.iload 9, 2) := by decide +kernel
theorem dX4_learn_73 : decode cX4_learn 73 = .ok (.bipush 12, 2) := by decide +kernel
theorem dX4_learn_75 : decode cX4_learn 75 = .ok (.if_icmp .ge 70, 3) := by decide +kernel
theorem dX4_learn_78 : decode cX4_learn 78 = .ok (.iload 8, 2) := by decide +kernel
theorem dX4_learn_80 : decode cX4_learn 80 = .ok (.ifCond .eq 65, 3) := by decide +kernel
theorem dX4_learn_83 : decode cX4_learn 83 = .ok (.iload 8, 2) := by decide +kernel
theorem dX4_learn_85 : decode cX4_learn 85 = .ok (.iload 9, 2) := by decide +kernel
theorem dX4_learn_87 : decode cX4_learn 87 = .ok (.iconst 1, 1) := by decide +kernel
theorem dX4_learn_88 : decode cX4_learn 88 = .ok (.iadd, 1) := by decide +kernel
theorem dX4_learn_89 : decode cX4_learn 89 = .ok (.ishr, 1) := by decide +kernel
theorem dX4_learn_90 : decode cX4_learn 90 = .ok (.iconst 1, 1) := by decide +kernel
theorem dX4_learn_91 : decode cX4_learn 91 = .ok (.iand, 1) := by decide +kernel
theorem dX4_learn_92 : decode cX4_learn 92 = .ok (.ifCond .eq 47, 3) := by decide +kernel
theorem dX4_learn_95 : decode cX4_learn 95 = .ok (.aload_n 0, 1) := by decide +kernel
theorem dX4_learn_96 : decode cX4_learn 96 = .ok (.getfield 58, 3) := by decide +kernel
theorem dX4_learn_99 : decode cX4_learn 99 = .ok (.iconst 0, 1) := by decide +kernel
theorem dX4_learn_100 : decode cX4_learn 100 = .ok (.iload_n 1, 1) := by decide +kernel
theorem dX4_learn_101 : decode cX4_learn 101 = .ok (.aload_n 0, 1) := by decide +kernel
theorem dX4_learn_102 : decode cX4_learn 102 = .ok (.getfield 62, 3) := by decide +kernel
theorem dX4_learn_105 : decode cX4_learn 105 = .ok (.getfield 165, 3) := by decide +kernel
theorem dX4_learn_108 : decode cX4_learn 108 = .ok (.iload_n 1, 1) := by decide +kernel
theorem dX4_learn_109 : decode cX4_learn 109 = .ok (.iaload, 1) := by decide +kernel
theorem dX4_learn_110 : decode cX4_learn 110 = .ok (.iload_n 3, 1) := by decide +kernel
theorem dX4_learn_111 : decode cX4_learn 111 = .ok (.iload 9, 2) := by decide +kernel
theorem dX4_learn_113 : decode cX4_learn 113 = .ok (.iload 7, 2) := by decide +kernel
theorem dX4_learn_115 : decode cX4_learn 115 = .ok (.iload 5, 2) := by decide +kernel
theorem dX4_learn_117 : decode cX4_learn 117 = .ok (.invokevirtual 95, 3) := by decide +kernel
theorem dX4_learn_120 : decode cX4_learn 120 = .ok (.ifCond .eq 19, 3) := by decide +kernel
theorem dX4_learn_123 : decode cX4_learn 123 = .ok (.aload_n 0, 1) := by decide +kernel
theorem dX4_learn_124 : decode cX4_learn 124 = .ok (.getfield 41, 3) := by decide +kernel
theorem dX4_learn_127 : decode cX4_learn 127 = .ok (.iload 6, 2) := by decide +kernel
theorem dX4_learn_129 : decode cX4_learn 129 = .ok (.dup2, 1) := by decide +kernel
theorem dX4_learn_130 : decode cX4_learn 130 = .ok (.iaload, 1) := by decide +kernel
theorem dX4_learn_131 : decode cX4_learn 131 = .ok (.iconst 1, 1) := by decide +kernel
theorem dX4_learn_132 : decode cX4_learn 132 = .ok (.iload 9, 2) := by decide +kernel
theorem dX4_learn_134 : decode cX4_learn 134 = .ok (.iconst 1, 1) := by decide +kernel
theorem dX4_learn_135 : decode cX4_learn 135 = .ok (.iadd, 1) := by decide +kernel
theorem dX4_learn_136 : decode cX4_learn 136 = .ok (.ishl, 1) := by decide +kernel
theorem dX4_learn_137 : decode cX4_learn 137 = .ok (.ior, 1) := by decide +kernel
theorem dX4_learn_138 : decode cX4_learn 138 = .ok (.iastore, 1) := by decide +kernel
theorem dX4_learn_139 : decode cX4_learn 139 = .ok (.iinc 9 1, 3) := by decide +kernel
theorem dX4_learn_142 : decode cX4_learn 142 = .ok (.goto (-71), 3) := by decide +kernel
theorem dX4_learn_145 : decode cX4_learn 145 = .ok (.return_, 1) := by decide +kernel
set_option maxRecDepth 20000 in
theorem T_X4_learn_71 {Q : Option Value → ah_T → Prop} {h : ah_T} (hs : Sh h) (x1 : Int32) (x3 : Int32) (x5 : Int32) (x6 : Int32) (x7 : Int32) (x8 : Int32) (x9 : Int32) (ht : ((12 ≤ x9 → Q none h) ∧ (¬ 12 ≤ x9 → ((x8 = 0 → Q none h) ∧ (¬ x8 = 0 → ((((x8 >>> ((x9 + 1) &&& 31)) &&& 1) = 0 → Wp mX4_learn Q 0 0 71 [some (.ref 74), some (.int x1), none, some (.int x3), none, some (.int x5), some (.int x6), some (.int x7), some (.int x8), some (.int (x9 + 1))] [] h) ∧ (¬ ((x8 >>> ((x9 + 1) &&& 31)) &&& 1) = 0 → (vp_in x1 (ah_n h 45)) ∧ (Mt mX8_ask [.ref 38, .int 0, .int x1, .int (ah_i h 45 (Int32.toNatClampNeg x1)), .int x3, .int x9, .int x7, .int x5] h (ab_qi fun v18 h16 => Sh h16 ∧ ((v18 = 0 → Wp mX4_learn Q 0 0 71 [some (.ref 74), some (.int x1), none, some (.int x3), none, some (.int x5), some (.int x6), some (.int x7), some (.int x8), some (.int (x9 + 1))] [] h16) ∧ (¬ v18 = 0 → (vp_in x6 (ah_n h16 79)) ∧ (vp_in x6 (ah_n h16 79)) ∧ (∀ h22, h22 = ah_si h16 79 (Int32.toNatClampNeg x6) ((ah_i h16 79 (Int32.toNatClampNeg x6)) ||| ((1 : Int32) <<< ((x9 + 1) &&& 31))) → Wp mX4_learn Q 0 0 71 [some (.ref 74), some (.int x1), none, some (.int x3), none, some (.int x5), some (.int x6), some (.int x7), some (.int x8), some (.int (x9 + 1))] [] h22)))))))))))) : Wp mX4_learn Q 0 0 71 [some (.ref 74), some (.int x1), none, some (.int x3), none, some (.int x5), some (.int x6), some (.int x7), some (.int x8), some (.int x9)] [] h := by
  refine ab_iload (i := 9) dX4_learn_71 rfl ?_
  refine ab_bipush (v := 12) dX4_learn_73 (by decide) ?_
  refine ab_icmp_ge (tgt := 145) dX4_learn_75 (by decide) (fun c12 => ?_) (fun c12 => ?_)
  · have ht := ht.1 c12
    exact ab_vret rfl dX4_learn_145 (Nat.le_of_ble_eq_true rfl) (Nat.le_of_ble_eq_true rfl) ht
  · have ht := ht.2 c12
    refine ab_iload (i := 8) dX4_learn_78 rfl ?_
    refine ab_if_eq (tgt := 145) dX4_learn_80 (by decide) (fun c13 => ?_) (fun c13 => ?_)
    · have ht := ht.1 c13
      exact ab_vret rfl dX4_learn_145 (Nat.le_of_ble_eq_true rfl) (Nat.le_of_ble_eq_true rfl) ht
    · have ht := ht.2 c13
      refine ab_iload (i := 8) dX4_learn_83 rfl ?_
      refine ab_iload (i := 9) dX4_learn_85 rfl ?_
      refine ab_iconst (v := 1) dX4_learn_87 (by decide) ?_
      refine ab_iadd dX4_learn_88 ?_
      refine ab_ishr dX4_learn_89 ?_
      refine ab_iconst (v := 1) dX4_learn_90 (by decide) ?_
      refine ab_iand dX4_learn_91 ?_
      refine ab_if_eq (tgt := 139) dX4_learn_92 (by decide) (fun c14 => ?_) (fun c14 => ?_)
      · have ht := ht.1 c14
        refine ab_iinc (i := 9) (x := x9) (v := (x9 + 1)) (L' := [some (.ref 74), some (.int x1), none, some (.int x3), none, some (.int x5), some (.int x6), some (.int x7), some (.int x8), some (.int (x9 + 1))]) dX4_learn_139 rfl rfl (by exact (Nat.le_of_ble_eq_true rfl)) rfl rfl ?_
        refine ab_goto (tgt := 71) dX4_learn_142 (by decide) ?_
        exact Wp.fewer (L' := [some (.ref 74), some (.int x1), none, some (.int x3), none, some (.int x5), some (.int x6), some (.int x7), some (.int x8), some (.int (x9 + 1))]) (show ab_leL _ _ from ⟨rfl, ⟨rfl, ⟨rfl, ⟨rfl, ⟨rfl, ⟨rfl, ⟨rfl, ⟨rfl, trivial⟩⟩⟩⟩⟩⟩⟩⟩) ht
      · have ht := ht.2 c14
        refine ab_aload_n (i := 0) dX4_learn_95 rfl rfl ?_
        refine ab_getR (b := 38) f_X4_58 rfl (sh_k hs 74 4 (by decide) rfl) (sh_r hs 91 rfl) dX4_learn_96 ?_
        refine ab_iconst (v := 0) dX4_learn_99 (by decide) ?_
        refine ab_iload_n (i := 1) dX4_learn_100 rfl rfl ?_
        refine ab_aload_n (i := 0) dX4_learn_101 rfl rfl ?_
        refine ab_getR (b := 43) f_X4_62 rfl (sh_k hs 74 4 (by decide) rfl) (sh_r hs 92 rfl) dX4_learn_102 ?_
        refine ab_getR (b := 45) f_X4_165 rfl (sh_k hs 43 3 (by decide) rfl) (sh_r hs 51 rfl) dX4_learn_105 ?_
        refine ab_iload_n (i := 1) dX4_learn_108 rfl rfl ?_
        obtain ⟨hc15, ht⟩ := ht
        refine ab_iald (sh_k hs 45 14 (by decide) rfl) hc15 dX4_learn_109 ?_
        refine ab_iload_n (i := 3) dX4_learn_110 rfl rfl ?_
        refine ab_iload (i := 9) dX4_learn_111 rfl ?_
        refine ab_iload (i := 7) dX4_learn_113 rfl ?_
        refine ab_iload (i := 5) dX4_learn_115 rfl ?_
        refine ab_callV (b := 38) (As := [.int 0, .int x1, .int (ah_i h 45 (Int32.toNatClampNeg x1)), .int x3, .int x9, .int x7, .int x5]) ht (Y_X8_ask) l_X4_95 in_X8_ask se_X8_ask (sh_k hs 38 8 (by decide) rfl) (by decide) rfl rfl ⟨(Nat.le_of_ble_eq_true rfl), (Nat.le_of_ble_eq_true rfl), (Nat.le_of_ble_eq_true rfl), (Nat.le_of_ble_eq_true rfl)⟩ dX4_learn_117 ?_
        rintro _ h16 ⟨v18, rfl, hs17, ht⟩
        refine ab_if_eq (tgt := 139) dX4_learn_120 (by decide) (fun c19 => ?_) (fun c19 => ?_)
        · have ht := ht.1 c19
          refine ab_iinc (i := 9) (x := x9) (v := (x9 + 1)) (L' := [some (.ref 74), some (.int x1), none, some (.int x3), none, some (.int x5), some (.int x6), some (.int x7), some (.int x8), some (.int (x9 + 1))]) dX4_learn_139 rfl rfl (by exact (Nat.le_of_ble_eq_true rfl)) rfl rfl ?_
          refine ab_goto (tgt := 71) dX4_learn_142 (by decide) ?_
          exact Wp.fewer (L' := [some (.ref 74), some (.int x1), none, some (.int x3), none, some (.int x5), some (.int x6), some (.int x7), some (.int x8), some (.int (x9 + 1))]) (show ab_leL _ _ from ⟨rfl, ⟨rfl, ⟨rfl, ⟨rfl, ⟨rfl, ⟨rfl, ⟨rfl, ⟨rfl, trivial⟩⟩⟩⟩⟩⟩⟩⟩) ht
        · have ht := ht.2 c19
          refine ab_aload_n (i := 0) dX4_learn_123 rfl rfl ?_
          refine ab_getR (b := 79) f_X4_41 rfl (sh_k hs17 74 4 (by decide) rfl) (sh_r hs17 96 rfl) dX4_learn_124 ?_
          refine ab_iload (i := 6) dX4_learn_127 rfl ?_
          refine ab_dup2 dX4_learn_129 rfl rfl ?_
          obtain ⟨hc20, ht⟩ := ht
          refine ab_iald (sh_k hs17 79 14 (by decide) rfl) hc20 dX4_learn_130 ?_
          refine ab_iconst (v := 1) dX4_learn_131 (by decide) ?_
          refine ab_iload (i := 9) dX4_learn_132 rfl ?_
          refine ab_iconst (v := 1) dX4_learn_134 (by decide) ?_
          refine ab_iadd dX4_learn_135 ?_
          refine ab_ishl dX4_learn_136 ?_
          refine ab_ior dX4_learn_137 ?_
          obtain ⟨hc21, ht⟩ := ht
          refine ab_iast (sh_k hs17 79 14 (by decide) rfl) hc21 dX4_learn_138 ?_
          refine Wp.nm fun h22 e23 => ?_
          have ht := ht h22 e23
          have hs24 : Sh h22 := by rw [e23]; exact sh_si hs17
          refine ab_iinc (i := 9) (x := x9) (v := (x9 + 1)) (L' := [some (.ref 74), some (.int x1), none, some (.int x3), none, some (.int x5), some (.int x6), some (.int x7), some (.int x8), some (.int (x9 + 1))]) dX4_learn_139 rfl rfl (by exact (Nat.le_of_ble_eq_true rfl)) rfl rfl ?_
          refine ab_goto (tgt := 71) dX4_learn_142 (by decide) ?_
          exact Wp.fewer (L' := [some (.ref 74), some (.int x1), none, some (.int x3), none, some (.int x5), some (.int x6), some (.int x7), some (.int x8), some (.int (x9 + 1))]) (show ab_leL _ _ from ⟨rfl, ⟨rfl, ⟨rfl, ⟨rfl, ⟨rfl, ⟨rfl, ⟨rfl, ⟨rfl, trivial⟩⟩⟩⟩⟩⟩⟩⟩) ht
set_option maxRecDepth 20000 in
theorem T_X4_learn {Q : Option Value → ah_T → Prop} {h : ah_T} (hs : Sh h) (x1 : Int32) (x2 : Int32) (x3 : Int32) (x4 : Int32) (x5 : Int32) (ht : (vp_in x1 (ah_n h 44)) ∧ ((x2 = (-1) → ((¬ (f_X11_isIn ((((ah_i h 44 (Int32.toNatClampNeg x1)) * 12) + x4) / 12) 12) = 0 → (¬ (f_X11_isIn ((((ah_i h 44 (Int32.toNatClampNeg x1)) * 12) + x4) - (((ah_i h 44 (Int32.toNatClampNeg x1)) * 12) + x4) / 12 * 12) 12) = 0 → vp_in ((((((ah_i h 44 (Int32.toNatClampNeg x1)) * 12) + x4) / 12) * 12) + ((((ah_i h 44 (Int32.toNatClampNeg x1)) * 12) + x4) - (((ah_i h 44 (Int32.toNatClampNeg x1)) * 12) + x4) / 12 * 12)) (ah_n h 34)))) ∧ (vp_in (((ah_i h 44 (Int32.toNatClampNeg x1)) * 12) + x4) (ah_n h 79)) ∧ Wp mX4_learn Q 0 0 71 [some (.ref 74), some (.int x1), none, some (.int x3), none, some (.int x5), some (.int (((ah_i h 44 (Int32.toNatClampNeg x1)) * 12) + x4)), some (.int 1), some (.int ((f_X4_possibleSights h (((ah_i h 44 (Int32.toNatClampNeg x1)) * 12) + x4)) &&& ((ah_i h 79 (Int32.toNatClampNeg (((ah_i h 44 (Int32.toNatClampNeg x1)) * 12) + x4))) ^^^ (-1)))), some (.int (-1))] [] h) ∧ (¬ x2 = (-1) → (vp_in x1 (ah_n h 47)) ∧ (vp_in x2 (ah_n h 47)) ∧ (((ah_i h 47 (Int32.toNatClampNeg x1)) ≤ (ah_i h 47 (Int32.toNatClampNeg x2)) → ((¬ (f_X11_isIn ((((ah_i h 44 (Int32.toNatClampNeg x1)) * 12) + x4) / 12) 12) = 0 → (¬ (f_X11_isIn ((((ah_i h 44 (Int32.toNatClampNeg x1)) * 12) + x4) - (((ah_i h 44 (Int32.toNatClampNeg x1)) * 12) + x4) / 12 * 12) 12) = 0 → vp_in ((((((ah_i h 44 (Int32.toNatClampNeg x1)) * 12) + x4) / 12) * 12) + ((((ah_i h 44 (Int32.toNatClampNeg x1)) * 12) + x4) - (((ah_i h 44 (Int32.toNatClampNeg x1)) * 12) + x4) / 12 * 12)) (ah_n h 34)))) ∧ (vp_in (((ah_i h 44 (Int32.toNatClampNeg x1)) * 12) + x4) (ah_n h 79)) ∧ Wp mX4_learn Q 0 0 71 [some (.ref 74), some (.int x1), none, some (.int x3), none, some (.int x5), some (.int (((ah_i h 44 (Int32.toNatClampNeg x1)) * 12) + x4)), some (.int 0), some (.int ((f_X4_possibleSights h (((ah_i h 44 (Int32.toNatClampNeg x1)) * 12) + x4)) &&& ((ah_i h 79 (Int32.toNatClampNeg (((ah_i h 44 (Int32.toNatClampNeg x1)) * 12) + x4))) ^^^ (-1)))), some (.int (-1))] [] h) ∧ (¬ (ah_i h 47 (Int32.toNatClampNeg x1)) ≤ (ah_i h 47 (Int32.toNatClampNeg x2)) → ((¬ (f_X11_isIn ((((ah_i h 44 (Int32.toNatClampNeg x1)) * 12) + x4) / 12) 12) = 0 → (¬ (f_X11_isIn ((((ah_i h 44 (Int32.toNatClampNeg x1)) * 12) + x4) - (((ah_i h 44 (Int32.toNatClampNeg x1)) * 12) + x4) / 12 * 12) 12) = 0 → vp_in ((((((ah_i h 44 (Int32.toNatClampNeg x1)) * 12) + x4) / 12) * 12) + ((((ah_i h 44 (Int32.toNatClampNeg x1)) * 12) + x4) - (((ah_i h 44 (Int32.toNatClampNeg x1)) * 12) + x4) / 12 * 12)) (ah_n h 34)))) ∧ (vp_in (((ah_i h 44 (Int32.toNatClampNeg x1)) * 12) + x4) (ah_n h 79)) ∧ Wp mX4_learn Q 0 0 71 [some (.ref 74), some (.int x1), none, some (.int x3), none, some (.int x5), some (.int (((ah_i h 44 (Int32.toNatClampNeg x1)) * 12) + x4)), some (.int 1), some (.int ((f_X4_possibleSights h (((ah_i h 44 (Int32.toNatClampNeg x1)) * 12) + x4)) &&& ((ah_i h 79 (Int32.toNatClampNeg (((ah_i h 44 (Int32.toNatClampNeg x1)) * 12) + x4))) ^^^ (-1)))), some (.int (-1))] [] h))))) : Mt mX4_learn [.ref 74, .int x1, .int x2, .int x3, .int x4, .int x5] h Q := by
  refine Mt.ofWp rfl (by exact (Nat.le_of_ble_eq_true rfl)) (Wp.fewer (L' := [some (.ref 74), some (.int x1), some (.int x2), some (.int x3), some (.int x4), some (.int x5), none, none, none, none]) (show ab_leL _ _ from ⟨rfl, ⟨rfl, ⟨rfl, ⟨rfl, ⟨rfl, ⟨rfl, trivial⟩⟩⟩⟩⟩⟩) ?_)
  refine ab_aload_n (i := 0) dX4_learn_0 rfl rfl ?_
  refine ab_getR (b := 43) f_X4_62 rfl (sh_k hs 74 4 (by decide) rfl) (sh_r hs 92 rfl) dX4_learn_1 ?_
  refine ab_getR (b := 44) f_X4_168 rfl (sh_k hs 43 3 (by decide) rfl) (sh_r hs 50 rfl) dX4_learn_4 ?_
  refine ab_iload_n (i := 1) dX4_learn_7 rfl rfl ?_
  obtain ⟨hc1, ht⟩ := ht
  refine ab_iald (sh_k hs 44 14 (by decide) rfl) hc1 dX4_learn_8 ?_
  refine ab_bipush (v := 12) dX4_learn_9 (by decide) ?_
  refine ab_imul dX4_learn_11 ?_
  refine ab_iload (i := 4) dX4_learn_12 rfl ?_
  refine ab_iadd dX4_learn_14 ?_
  refine ab_istore (i := 6) (L' := [some (.ref 74), some (.int x1), some (.int x2), some (.int x3), some (.int x4), some (.int x5), some (.int (((ah_i h 44 (Int32.toNatClampNeg x1)) * 12) + x4)), none, none, none]) dX4_learn_15 (by exact (Nat.le_of_ble_eq_true rfl)) rfl rfl ?_
  refine ab_iload_n (i := 2) dX4_learn_17 rfl rfl ?_
  refine ab_iconst (v := (-1)) dX4_learn_18 (by decide) ?_
  refine ab_icmp_eq (tgt := 43) dX4_learn_19 (by decide) (fun c2 => ?_) (fun c2 => ?_)
  · have ht := ht.1 c2
    refine ab_iconst (v := 1) dX4_learn_43 (by decide) ?_
    refine ab_goto (tgt := 48) dX4_learn_44 (by decide) ?_
    refine ab_istore (i := 7) (L' := [some (.ref 74), some (.int x1), some (.int x2), some (.int x3), some (.int x4), some (.int x5), some (.int (((ah_i h 44 (Int32.toNatClampNeg x1)) * 12) + x4)), some (.int 1), none, none]) dX4_learn_48 (by exact (Nat.le_of_ble_eq_true rfl)) rfl rfl ?_
    refine ab_aload_n (i := 0) dX4_learn_50 rfl rfl ?_
    refine ab_iload (i := 6) dX4_learn_51 rfl ?_
    obtain ⟨hc3, ht⟩ := ht
    refine ab_callV (b := 74) (Q' := fun r h' => r = some (.int (f_X4_possibleSights h (((ah_i h 44 (Int32.toNatClampNeg x1)) * 12) + x4))) ∧ h = h') (As := [.int (((ah_i h 44 (Int32.toNatClampNeg x1)) * 12) + x4)]) (c_X4_possibleSights hs (((ah_i h 44 (Int32.toNatClampNeg x1)) * 12) + x4)  hc3 ⟨rfl, rfl⟩) (Y_X4_possibleSights) l_X4_187 in_X4_possibleSights se_X4_possibleSights (sh_k hs 74 4 (by decide) rfl) (by decide) rfl rfl ⟨(Nat.le_of_ble_eq_true rfl), (Nat.le_of_ble_eq_true rfl), (Nat.le_of_ble_eq_true rfl), (Nat.le_of_ble_eq_true rfl)⟩ dX4_learn_53 ?_
    rintro _ _ ⟨rfl, rfl⟩
    refine ab_aload_n (i := 0) dX4_learn_56 rfl rfl ?_
    refine ab_getR (b := 79) f_X4_41 rfl (sh_k hs 74 4 (by decide) rfl) (sh_r hs 96 rfl) dX4_learn_57 ?_
    refine ab_iload (i := 6) dX4_learn_60 rfl ?_
    obtain ⟨hc4, ht⟩ := ht
    refine ab_iald (sh_k hs 79 14 (by decide) rfl) hc4 dX4_learn_62 ?_
    refine ab_iconst (v := (-1)) dX4_learn_63 (by decide) ?_
    refine ab_ixor dX4_learn_64 ?_
    refine ab_iand dX4_learn_65 ?_
    refine ab_istore (i := 8) (L' := [some (.ref 74), some (.int x1), some (.int x2), some (.int x3), some (.int x4), some (.int x5), some (.int (((ah_i h 44 (Int32.toNatClampNeg x1)) * 12) + x4)), some (.int 1), some (.int ((f_X4_possibleSights h (((ah_i h 44 (Int32.toNatClampNeg x1)) * 12) + x4)) &&& ((ah_i h 79 (Int32.toNatClampNeg (((ah_i h 44 (Int32.toNatClampNeg x1)) * 12) + x4))) ^^^ (-1)))), none]) dX4_learn_66 (by exact (Nat.le_of_ble_eq_true rfl)) rfl rfl ?_
    refine ab_iconst (v := (-1)) dX4_learn_68 (by decide) ?_
    refine ab_istore (i := 9) (L' := [some (.ref 74), some (.int x1), some (.int x2), some (.int x3), some (.int x4), some (.int x5), some (.int (((ah_i h 44 (Int32.toNatClampNeg x1)) * 12) + x4)), some (.int 1), some (.int ((f_X4_possibleSights h (((ah_i h 44 (Int32.toNatClampNeg x1)) * 12) + x4)) &&& ((ah_i h 79 (Int32.toNatClampNeg (((ah_i h 44 (Int32.toNatClampNeg x1)) * 12) + x4))) ^^^ (-1)))), some (.int (-1))]) dX4_learn_69 (by exact (Nat.le_of_ble_eq_true rfl)) rfl rfl ?_
    exact Wp.fewer (L' := [some (.ref 74), some (.int x1), none, some (.int x3), none, some (.int x5), some (.int (((ah_i h 44 (Int32.toNatClampNeg x1)) * 12) + x4)), some (.int 1), some (.int ((f_X4_possibleSights h (((ah_i h 44 (Int32.toNatClampNeg x1)) * 12) + x4)) &&& ((ah_i h 79 (Int32.toNatClampNeg (((ah_i h 44 (Int32.toNatClampNeg x1)) * 12) + x4))) ^^^ (-1)))), some (.int (-1))]) (show ab_leL _ _ from ⟨rfl, ⟨rfl, ⟨rfl, ⟨rfl, ⟨rfl, ⟨rfl, ⟨rfl, ⟨rfl, trivial⟩⟩⟩⟩⟩⟩⟩⟩) ht
  · have ht := ht.2 c2
    refine ab_aload_n (i := 0) dX4_learn_22 rfl rfl ?_
    refine ab_getR (b := 43) f_X4_62 rfl (sh_k hs 74 4 (by decide) rfl) (sh_r hs 92 rfl) dX4_learn_23 ?_
    refine ab_getR (b := 47) f_X4_184 rfl (sh_k hs 43 3 (by decide) rfl) (sh_r hs 53 rfl) dX4_learn_26 ?_
    refine ab_iload_n (i := 1) dX4_learn_29 rfl rfl ?_
    obtain ⟨hc5, ht⟩ := ht
    refine ab_iald (sh_k hs 47 14 (by decide) rfl) hc5 dX4_learn_30 ?_
    refine ab_aload_n (i := 0) dX4_learn_31 rfl rfl ?_
    refine ab_getR (b := 43) f_X4_62 rfl (sh_k hs 74 4 (by decide) rfl) (sh_r hs 92 rfl) dX4_learn_32 ?_
    refine ab_getR (b := 47) f_X4_184 rfl (sh_k hs 43 3 (by decide) rfl) (sh_r hs 53 rfl) dX4_learn_35 ?_
    refine ab_iload_n (i := 2) dX4_learn_38 rfl rfl ?_
    obtain ⟨hc6, ht⟩ := ht
    refine ab_iald (sh_k hs 47 14 (by decide) rfl) hc6 dX4_learn_39 ?_
    refine ab_icmp_le (tgt := 47) dX4_learn_40 (by decide) (fun c7 => ?_) (fun c7 => ?_)
    · have ht := ht.1 c7
      refine ab_iconst (v := 0) dX4_learn_47 (by decide) ?_
      refine ab_istore (i := 7) (L' := [some (.ref 74), some (.int x1), some (.int x2), some (.int x3), some (.int x4), some (.int x5), some (.int (((ah_i h 44 (Int32.toNatClampNeg x1)) * 12) + x4)), some (.int 0), none, none]) dX4_learn_48 (by exact (Nat.le_of_ble_eq_true rfl)) rfl rfl ?_
      refine ab_aload_n (i := 0) dX4_learn_50 rfl rfl ?_
      refine ab_iload (i := 6) dX4_learn_51 rfl ?_
      obtain ⟨hc8, ht⟩ := ht
      refine ab_callV (b := 74) (Q' := fun r h' => r = some (.int (f_X4_possibleSights h (((ah_i h 44 (Int32.toNatClampNeg x1)) * 12) + x4))) ∧ h = h') (As := [.int (((ah_i h 44 (Int32.toNatClampNeg x1)) * 12) + x4)]) (c_X4_possibleSights hs (((ah_i h 44 (Int32.toNatClampNeg x1)) * 12) + x4)  hc8 ⟨rfl, rfl⟩) (Y_X4_possibleSights) l_X4_187 in_X4_possibleSights se_X4_possibleSights (sh_k hs 74 4 (by decide) rfl) (by decide) rfl rfl ⟨(Nat.le_of_ble_eq_true rfl), (Nat.le_of_ble_eq_true rfl), (Nat.le_of_ble_eq_true rfl), (Nat.le_of_ble_eq_true rfl)⟩ dX4_learn_53 ?_
      rintro _ _ ⟨rfl, rfl⟩
      refine ab_aload_n (i := 0) dX4_learn_56 rfl rfl ?_
      refine ab_getR (b := 79) f_X4_41 rfl (sh_k hs 74 4 (by decide) rfl) (sh_r hs 96 rfl) dX4_learn_57 ?_
      refine ab_iload (i := 6) dX4_learn_60 rfl ?_
      obtain ⟨hc9, ht⟩ := ht
      refine ab_iald (sh_k hs 79 14 (by decide) rfl) hc9 dX4_learn_62 ?_
      refine ab_iconst (v := (-1)) dX4_learn_63 (by decide) ?_
      refine ab_ixor dX4_learn_64 ?_
      refine ab_iand dX4_learn_65 ?_
      refine ab_istore (i := 8) (L' := [some (.ref 74), some (.int x1), some (.int x2), some (.int x3), some (.int x4), some (.int x5), some (.int (((ah_i h 44 (Int32.toNatClampNeg x1)) * 12) + x4)), some (.int 0), some (.int ((f_X4_possibleSights h (((ah_i h 44 (Int32.toNatClampNeg x1)) * 12) + x4)) &&& ((ah_i h 79 (Int32.toNatClampNeg (((ah_i h 44 (Int32.toNatClampNeg x1)) * 12) + x4))) ^^^ (-1)))), none]) dX4_learn_66 (by exact (Nat.le_of_ble_eq_true rfl)) rfl rfl ?_
      refine ab_iconst (v := (-1)) dX4_learn_68 (by decide) ?_
      refine ab_istore (i := 9) (L' := [some (.ref 74), some (.int x1), some (.int x2), some (.int x3), some (.int x4), some (.int x5), some (.int (((ah_i h 44 (Int32.toNatClampNeg x1)) * 12) + x4)), some (.int 0), some (.int ((f_X4_possibleSights h (((ah_i h 44 (Int32.toNatClampNeg x1)) * 12) + x4)) &&& ((ah_i h 79 (Int32.toNatClampNeg (((ah_i h 44 (Int32.toNatClampNeg x1)) * 12) + x4))) ^^^ (-1)))), some (.int (-1))]) dX4_learn_69 (by exact (Nat.le_of_ble_eq_true rfl)) rfl rfl ?_
      exact Wp.fewer (L' := [some (.ref 74), some (.int x1), none, some (.int x3), none, some (.int x5), some (.int (((ah_i h 44 (Int32.toNatClampNeg x1)) * 12) + x4)), some (.int 0), some (.int ((f_X4_possibleSights h (((ah_i h 44 (Int32.toNatClampNeg x1)) * 12) + x4)) &&& ((ah_i h 79 (Int32.toNatClampNeg (((ah_i h 44 (Int32.toNatClampNeg x1)) * 12) + x4))) ^^^ (-1)))), some (.int (-1))]) (show ab_leL _ _ from ⟨rfl, ⟨rfl, ⟨rfl, ⟨rfl, ⟨rfl, ⟨rfl, ⟨rfl, ⟨rfl, trivial⟩⟩⟩⟩⟩⟩⟩⟩) ht
    · have ht := ht.2 c7
      refine ab_iconst (v := 1) dX4_learn_43 (by decide) ?_
      refine ab_goto (tgt := 48) dX4_learn_44 (by decide) ?_
      refine ab_istore (i := 7) (L' := [some (.ref 74), some (.int x1), some (.int x2), some (.int x3), some (.int x4), some (.int x5), some (.int (((ah_i h 44 (Int32.toNatClampNeg x1)) * 12) + x4)), some (.int 1), none, none]) dX4_learn_48 (by exact (Nat.le_of_ble_eq_true rfl)) rfl rfl ?_
      refine ab_aload_n (i := 0) dX4_learn_50 rfl rfl ?_
      refine ab_iload (i := 6) dX4_learn_51 rfl ?_
      obtain ⟨hc10, ht⟩ := ht
      refine ab_callV (b := 74) (Q' := fun r h' => r = some (.int (f_X4_possibleSights h (((ah_i h 44 (Int32.toNatClampNeg x1)) * 12) + x4))) ∧ h = h') (As := [.int (((ah_i h 44 (Int32.toNatClampNeg x1)) * 12) + x4)]) (c_X4_possibleSights hs (((ah_i h 44 (Int32.toNatClampNeg x1)) * 12) + x4)  hc10 ⟨rfl, rfl⟩) (Y_X4_possibleSights) l_X4_187 in_X4_possibleSights se_X4_possibleSights (sh_k hs 74 4 (by decide) rfl) (by decide) rfl rfl ⟨(Nat.le_of_ble_eq_true rfl), (Nat.le_of_ble_eq_true rfl), (Nat.le_of_ble_eq_true rfl), (Nat.le_of_ble_eq_true rfl)⟩ dX4_learn_53 ?_
      rintro _ _ ⟨rfl, rfl⟩
      refine ab_aload_n (i := 0) dX4_learn_56 rfl rfl ?_
      refine ab_getR (b := 79) f_X4_41 rfl (sh_k hs 74 4 (by decide) rfl) (sh_r hs 96 rfl) dX4_learn_57 ?_
      refine ab_iload (i := 6) dX4_learn_60 rfl ?_
      obtain ⟨hc11, ht⟩ := ht
      refine ab_iald (sh_k hs 79 14 (by decide) rfl) hc11 dX4_learn_62 ?_
      refine ab_iconst (v := (-1)) dX4_learn_63 (by decide) ?_
      refine ab_ixor dX4_learn_64 ?_
      refine ab_iand dX4_learn_65 ?_
      refine ab_istore (i := 8) (L' := [some (.ref 74), some (.int x1), some (.int x2), some (.int x3), some (.int x4), some (.int x5), some (.int (((ah_i h 44 (Int32.toNatClampNeg x1)) * 12) + x4)), some (.int 1), some (.int ((f_X4_possibleSights h (((ah_i h 44 (Int32.toNatClampNeg x1)) * 12) + x4)) &&& ((ah_i h 79 (Int32.toNatClampNeg (((ah_i h 44 (Int32.toNatClampNeg x1)) * 12) + x4))) ^^^ (-1)))), none]) dX4_learn_66 (by exact (Nat.le_of_ble_eq_true rfl)) rfl rfl ?_
      refine ab_iconst (v := (-1)) dX4_learn_68 (by decide) ?_
      refine ab_istore (i := 9) (L' := [some (.ref 74), some (.int x1), some (.int x2), some (.int x3), some (.int x4), some (.int x5), some (.int (((ah_i h 44 (Int32.toNatClampNeg x1)) * 12) + x4)), some (.int 1), some (.int ((f_X4_possibleSights h (((ah_i h 44 (Int32.toNatClampNeg x1)) * 12) + x4)) &&& ((ah_i h 79 (Int32.toNatClampNeg (((ah_i h 44 (Int32.toNatClampNeg x1)) * 12) + x4))) ^^^ (-1)))), some (.int (-1))]) dX4_learn_69 (by exact (Nat.le_of_ble_eq_true rfl)) rfl rfl ?_
      exact Wp.fewer (L' := [some (.ref 74), some (.int x1), none, some (.int x3), none, some (.int x5), some (.int (((ah_i h 44 (Int32.toNatClampNeg x1)) * 12) + x4)), some (.int 1), some (.int ((f_X4_possibleSights h (((ah_i h 44 (Int32.toNatClampNeg x1)) * 12) + x4)) &&& ((ah_i h 79 (Int32.toNatClampNeg (((ah_i h 44 (Int32.toNatClampNeg x1)) * 12) + x4))) ^^^ (-1)))), some (.int (-1))]) (show ab_leL _ _ from ⟨rfl, ⟨rfl, ⟨rfl, ⟨rfl, ⟨rfl, ⟨rfl, ⟨rfl, ⟨rfl, trivial⟩⟩⟩⟩⟩⟩⟩⟩) ht
theorem dX4_isHopeless_0 : decode cX4_isHopeless 0 = .ok (.iconst 0, 1) := by decide +kernel
theorem dX4_isHopeless_1 : decode cX4_isHopeless 1 = .ok (.istore_n 1, 1) := by decide +kernel
theorem dX4_isHopeless_2 : decode cX4_isHopeless 2 = .ok (.iload_n 1, 1) := by decide +kernel
theorem dX4_isHopeless_3 : decode cX4_isHopeless 3 = .ok (.aload_n 0, 1) := by decide +kernel
theorem dX4_isHopeless_4 : decode cX4_isHopeless 4 = .ok (.getfield 41, 3) := by decide +kernel
theorem dX4_isHopeless_7 : decode cX4_isHopeless 7 = .ok (.arraylength, 1) := by decide +kernel
theorem dX4_isHopeless_8 : decode cX4_isHopeless 8 = .ok (.if_icmp .ge 34, 3) := by decide +kernel
theorem dX4_isHopeless_11 : decode cX4_isHopeless 11 = .ok (.aload_n 0, 1) := by decide +kernel
theorem dX4_isHopeless_12 : decode cX4_isHopeless 12 = .ok (.getfield 41, 3) := by decide +kernel
theorem dX4_isHopeless_15 : decode cX4_isHopeless 15 = .ok (.iload_n 1, 1) := by decide +kernel
theorem dX4_isHopeless_16 : decode cX4_isHopeless 16 = .ok (.iaload, 1) := by decide +kernel
theorem dX4_isHopeless_17 : decode cX4_isHopeless 17 = .ok (.ifCond .eq 19, 3) := by decide +kernel
theorem dX4_isHopeless_20 : decode cX4_isHopeless 20 = .ok (.aload_n 0, 1) := by decide +kernel
theorem dX4_isHopeless_21 : decode cX4_isHopeless 21 = .ok (.getfield 41, 3) := by decide +kernel
theorem dX4_isHopeless_24 : decode cX4_isHopeless 24 = .ok (.iload_n 1, 1) := by decide +kernel
theorem dX4_isHopeless_25 : decode cX4_isHopeless 25 = .ok (.iaload, 1) := by decide +kernel
theorem dX4_isHopeless_26 : decode cX4_isHopeless 26 = .ok (.aload_n 0, 1) := by decide +kernel
theorem dX4_isHopeless_27 : decode cX4_isHopeless 27 = .ok (.iload_n 1, 1) := by decide +kernel
theorem dX4_isHopeless_28 : decode cX4_isHopeless 28 = .ok (.invokevirtual 187, 3) := by decide +kernel
theorem dX4_isHopeless_31 : decode cX4_isHopeless 31 = .ok (.if_icmp .ne 5, 3) := by decide +kernel
theorem dX4_isHopeless_34 : decode cX4_isHopeless 34 = .ok (.iconst 1, 1) := by decide +kernel
theorem dX4_isHopeless_35 : decode cX4_isHopeless 35 = .ok (.ireturn, 1) := by decide +kernel
theorem dX4_isHopeless_36 : decode cX4_isHopeless 36 = .ok (.iinc 1 1, 3) := by decide +kernel
theorem dX4_isHopeless_39 : decode cX4_isHopeless 39 = .ok (.goto (-37), 3) := by decide +kernel
theorem dX4_isHopeless_42 : decode cX4_isHopeless 42 = .ok (.iconst 0, 1) := by decide +kernel
theorem dX4_isHopeless_43 : decode cX4_isHopeless 43 = .ok (.ireturn, 1) := by decide +kernel
set_option maxRecDepth 20000 in
theorem T_X4_isHopeless_2 {Q : Option Value → ah_T → Prop} {h : ah_T} (hs : Sh h) (x1 : Int32) (ht : (((Int32.ofNat (ah_n h 79)) ≤ x1 → Q (some (.int 0)) h) ∧ (¬ (Int32.ofNat (ah_n h 79)) ≤ x1 → (vp_in x1 (ah_n h 79)) ∧ (((ah_i h 79 (Int32.toNatClampNeg x1)) = 0 → Wp mX4_isHopeless Q 0 0 2 [some (.ref 74), some (.int (x1 + 1))] [] h) ∧ (¬ (ah_i h 79 (Int32.toNatClampNeg x1)) = 0 → (vp_in x1 (ah_n h 79)) ∧ ((¬ (f_X11_isIn (x1 / 12) 12) = 0 → (¬ (f_X11_isIn (x1 - x1 / 12 * 12) 12) = 0 → vp_in (((x1 / 12) * 12) + (x1 - x1 / 12 * 12)) (ah_n h 34)))) ∧ ((¬ (ah_i h 79 (Int32.toNatClampNeg x1)) = (f_X4_possibleSights h x1) → Wp mX4_isHopeless Q 0 0 2 [some (.ref 74), some (.int (x1 + 1))] [] h) ∧ ((ah_i h 79 (Int32.toNatClampNeg x1)) = (f_X4_possibleSights h x1) → Q (some (.int 1)) h))))))) : Wp mX4_isHopeless Q 0 0 2 [some (.ref 74), some (.int x1)] [] h := by
  refine ab_iload_n (i := 1) dX4_isHopeless_2 rfl rfl ?_
  refine ab_aload_n (i := 0) dX4_isHopeless_3 rfl rfl ?_
  refine ab_getR (b := 79) f_X4_41 rfl (sh_k hs 74 4 (by decide) rfl) (sh_r hs 96 rfl) dX4_isHopeless_4 ?_
  refine ab_alen 14 (by decide) (sh_k hs 79 14 (by decide) rfl) rfl dX4_isHopeless_7 ?_
  refine ab_icmp_ge (tgt := 42) dX4_isHopeless_8 (by decide) (fun c1 => ?_) (fun c1 => ?_)
  · have ht := ht.1 c1
    refine ab_iconst (v := 0) dX4_isHopeless_42 (by decide) ?_
    exact ab_zret rfl rfl dX4_isHopeless_43 (Nat.le_of_ble_eq_true rfl) (Nat.le_of_ble_eq_true rfl) ht
  · have ht := ht.2 c1
    refine ab_aload_n (i := 0) dX4_isHopeless_11 rfl rfl ?_
    refine ab_getR (b := 79) f_X4_41 rfl (sh_k hs 74 4 (by decide) rfl) (sh_r hs 96 rfl) dX4_isHopeless_12 ?_
    refine ab_iload_n (i := 1) dX4_isHopeless_15 rfl rfl ?_
    obtain ⟨hc2, ht⟩ := ht
    refine ab_iald (sh_k hs 79 14 (by decide) rfl) hc2 dX4_isHopeless_16 ?_
    refine ab_if_eq (tgt := 36) dX4_isHopeless_17 (by decide) (fun c3 => ?_) (fun c3 => ?_)
    · have ht := ht.1 c3
      refine ab_iinc (i := 1) (x := x1) (v := (x1 + 1)) (L' := [some (.ref 74), some (.int (x1 + 1))]) dX4_isHopeless_36 rfl rfl (by exact (Nat.le_of_ble_eq_true rfl)) rfl rfl ?_
      refine ab_goto (tgt := 2) dX4_isHopeless_39 (by decide) ?_
      exact Wp.fewer (L' := [some (.ref 74), some (.int (x1 + 1))]) (show ab_leL _ _ from ⟨rfl, ⟨rfl, trivial⟩⟩) ht
    · have ht := ht.2 c3
      refine ab_aload_n (i := 0) dX4_isHopeless_20 rfl rfl ?_
      refine ab_getR (b := 79) f_X4_41 rfl (sh_k hs 74 4 (by decide) rfl) (sh_r hs 96 rfl) dX4_isHopeless_21 ?_
      refine ab_iload_n (i := 1) dX4_isHopeless_24 rfl rfl ?_
      obtain ⟨hc4, ht⟩ := ht
      refine ab_iald (sh_k hs 79 14 (by decide) rfl) hc4 dX4_isHopeless_25 ?_
      refine ab_aload_n (i := 0) dX4_isHopeless_26 rfl rfl ?_
      refine ab_iload_n (i := 1) dX4_isHopeless_27 rfl rfl ?_
      obtain ⟨hc5, ht⟩ := ht
      refine ab_callV (b := 74) (Q' := fun r h' => r = some (.int (f_X4_possibleSights h x1)) ∧ h = h') (As := [.int x1]) (c_X4_possibleSights hs x1  hc5 ⟨rfl, rfl⟩) (Y_X4_possibleSights) l_X4_187 in_X4_possibleSights se_X4_possibleSights (sh_k hs 74 4 (by decide) rfl) (by decide) rfl rfl ⟨(Nat.le_of_ble_eq_true rfl), (Nat.le_of_ble_eq_true rfl), (Nat.le_of_ble_eq_true rfl), (Nat.le_of_ble_eq_true rfl)⟩ dX4_isHopeless_28 ?_
      rintro _ _ ⟨rfl, rfl⟩
      refine ab_icmp_ne (tgt := 36) dX4_isHopeless_31 (by decide) (fun c6 => ?_) (fun c6 => ?_)
      · have ht := ht.1 c6
        refine ab_iinc (i := 1) (x := x1) (v := (x1 + 1)) (L' := [some (.ref 74), some (.int (x1 + 1))]) dX4_isHopeless_36 rfl rfl (by exact (Nat.le_of_ble_eq_true rfl)) rfl rfl ?_
        refine ab_goto (tgt := 2) dX4_isHopeless_39 (by decide) ?_
        exact Wp.fewer (L' := [some (.ref 74), some (.int (x1 + 1))]) (show ab_leL _ _ from ⟨rfl, ⟨rfl, trivial⟩⟩) ht
      · have ht := ht.2 c6
        refine ab_iconst (v := 1) dX4_isHopeless_34 (by decide) ?_
        exact ab_zret rfl rfl dX4_isHopeless_35 (Nat.le_of_ble_eq_true rfl) (Nat.le_of_ble_eq_true rfl) ht
set_option maxRecDepth 20000 in
theorem T_X4_isHopeless {Q : Option Value → ah_T → Prop} {h : ah_T} (hs : Sh h)  (ht : Wp mX4_isHopeless Q 0 0 2 [some (.ref 74), some (.int 0)] [] h) : Mt mX4_isHopeless [.ref 74] h Q := by
  refine Mt.ofWp rfl (by exact (Nat.le_of_ble_eq_true rfl)) (Wp.fewer (L' := [some (.ref 74), none]) (show ab_leL _ _ from ⟨rfl, trivial⟩) ?_)
  refine ab_iconst (v := 0) dX4_isHopeless_0 (by decide) ?_
  refine ab_istore_n (i := 1) (L' := [some (.ref 74), some (.int 0)]) dX4_isHopeless_1 rfl (by exact (Nat.le_of_ble_eq_true rfl)) rfl rfl ?_
  exact Wp.fewer (L' := [some (.ref 74), some (.int 0)]) (show ab_leL _ _ from ⟨rfl, ⟨rfl, trivial⟩⟩) ht
theorem dX4_tryShutters_0 : decode cX4_tryShutters 0 = .ok (.iconst 1, 1) := by decide +kernel
theorem dX4_tryShutters_1 : decode cX4_tryShutters 1 = .ok (.iload_n 2, 1) := by decide +kernel
theorem dX4_tryShutters_2 : decode cX4_tryShutters 2 = .ok (.invokestatic 66, 3) := by decide +kernel
theorem dX4_tryShutters_5 : decode cX4_tryShutters 5 = .ok (.ishl, 1) := by decide +kernel
theorem dX4_tryShutters_6 : decode cX4_tryShutters 6 = .ok (.istore_n 3, 1) := by decide +kernel
theorem dX4_tryShutters_7 : decode cX4_tryShutters 7 = .ok (.iconst 1, 1) := by decide +kernel
theorem dX4_tryShutters_8 : decode cX4_tryShutters 8 = .ok (.iload_n 1, 1) := by decide +kernel
theorem dX4_tryShutters_9 : decode cX4_tryShutters 9 = .ok (.ishl, 1) := by decide +kernel
theorem dX4_tryShutters_10 : decode cX4_tryShutters 10 = .ok (.iconst 1, 1) := by decide +kernel
theorem dX4_tryShutters_11 : decode cX4_tryShutters 11 = .ok (.isub, 1) := by decide +kernel
theorem dX4_tryShutters_12 : decode cX4_tryShutters 12 = .ok (.istore 4, 2) := by decide +kernel
theorem dX4_tryShutters_14 : decode cX4_tryShutters 14 = .ok (.iconst 0, 1) := by decide +kernel
theorem dX4_tryShutters_15 : decode cX4_tryShutters 15 = .ok (.istore 5, 2) := by decide +kernel
theorem dX4_tryShutters_17 : decode cX4_tryShutters 17 = .ok (.iload 5, 2) := by decide +kernel
theorem dX4_tryShutters_19 : decode cX4_tryShutters 19 = .ok (.ldc 190, 2) := by decide +kernel
theorem dX4_tryShutters_21 : decode cX4_tryShutters 21 = .ok (.if_icmp .ge 93, 3) := by decide +kernel
theorem dX4_tryShutters_24 : decode cX4_tryShutters 24 = .ok (.iload 4, 2) := by decide +kernel
theorem dX4_tryShutters_26 : decode cX4_tryShutters 26 = .ok (.iload_n 3, 1) := by decide +kernel
theorem dX4_tryShutters_27 : decode cX4_tryShutters 27 = .ok (.if_icmp .ge 87, 3) := by decide +kernel
theorem dX4_tryShutters_30 : decode cX4_tryShutters 30 = .ok (.iload 4, 2) := by decide +kernel
theorem dX4_tryShutters_32 : decode cX4_tryShutters 32 = .ok (.iload_n 2, 1) := by decide +kernel
theorem dX4_tryShutters_33 : decode cX4_tryShutters 33 = .ok (.invokestatic 191, 3) := by decide +kernel
theorem dX4_tryShutters_36 : decode cX4_tryShutters 36 = .ok (.istore 6, 2) := by decide +kernel
theorem dX4_tryShutters_38 : decode cX4_tryShutters 38 = .ok (.aload_n 0, 1) := by decide +kernel
theorem dX4_tryShutters_39 : decode cX4_tryShutters 39 = .ok (.iload 6, 2) := by decide +kernel
theorem dX4_tryShutters_41 : decode cX4_tryShutters 41 = .ok (.invokevirtual 194, 3) := by decide +kernel
theorem dX4_tryShutters_44 : decode cX4_tryShutters 44 = .ok (.ifCond .eq 26, 3) := by decide +kernel
theorem dX4_tryShutters_47 : decode cX4_tryShutters 47 = .ok (.aload_n 0, 1) := by decide +kernel
theorem dX4_tryShutters_48 : decode cX4_tryShutters 48 = .ok (.getfield 25, 3) := by decide +kernel
theorem dX4_tryShutters_51 : decode cX4_tryShutters 51 = .ok (.ifCond .ne 9, 3) := by decide +kernel
theorem dX4_tryShutters_54 : decode cX4_tryShutters 54 = .ok (.aload_n 0, 1) := by decide +kernel
theorem dX4_tryShutters_55 : decode cX4_tryShutters 55 = .ok (.iload 6, 2) := by decide +kernel
theorem dX4_tryShutters_57 : decode cX4_tryShutters 57 = .ok (.putfield 22, 3) := by decide +kernel
theorem dX4_tryShutters_60 : decode cX4_tryShutters 60 = .ok (.aload_n 0, 1) := by decide +kernel
theorem dX4_tryShutters_61 : decode cX4_tryShutters 61 = .ok (.dup, 1) := by decide +kernel
theorem dX4_tryShutters_62 : decode cX4_tryShutters 62 = .ok (.getfield 25, 3) := by decide +kernel
theorem dX4_tryShutters_65 : decode cX4_tryShutters 65 = .ok (.iconst 1, 1) := by decide +kernel
theorem dX4_tryShutters_66 : decode cX4_tryShutters 66 = .ok (.iadd, 1) := by decide +kernel
theorem dX4_tryShutters_67 : decode cX4_tryShutters 67 = .ok (.putfield 25, 3) := by decide +kernel
theorem dX4_tryShutters_70 : decode cX4_tryShutters 70 = .ok (.iload 4, 2) := by decide +kernel
theorem dX4_tryShutters_72 : decode cX4_tryShutters 72 = .ok (.iload 4, 2) := by decide +kernel
theorem dX4_tryShutters_74 : decode cX4_tryShutters 74 = .ok (.ineg, 1) := by decide +kernel
theorem dX4_tryShutters_75 : decode cX4_tryShutters 75 = .ok (.iand, 1) := by decide +kernel
theorem dX4_tryShutters_76 : decode cX4_tryShutters 76 = .ok (.istore 7, 2) := by decide +kernel
theorem dX4_tryShutters_78 : decode cX4_tryShutters 78 = .ok (.iload 7, 2) := by decide +kernel
theorem dX4_tryShutters_80 : decode cX4_tryShutters 80 = .ok (.ifCond .ne 6, 3) := by decide +kernel
theorem dX4_tryShutters_83 : decode cX4_tryShutters 83 = .ok (.goto 31, 3) := by decide +kernel
theorem dX4_tryShutters_86 : decode cX4_tryShutters 86 = .ok (.iload 4, 2) := by decide +kernel
theorem dX4_tryShutters_88 : decode cX4_tryShutters 88 = .ok (.iload 7, 2) := by decide +kernel
theorem dX4_tryShutters_90 : decode cX4_tryShutters 90 = .ok (.iadd, 1) := by decide +kernel
theorem dX4_tryShutters_91 : decode cX4_tryShutters 91 = .ok (.istore 8, 2) := by decide +kernel
theorem dX4_tryShutters_93 : decode cX4_tryShutters 93 = .ok (.iload 8, 2) := by decide +kernel
theorem dX4_tryShutters_95 : decode cX4_tryShutters 95 = .ok (.iload 4, 2) := by decide +kernel
theorem dX4_tryShutters_97 : decode cX4_tryShutters 97 = .ok (.iload 8, 2) := by decide +kernel
theorem dX4_tryShutters_99 : decode cX4_tryShutters 99 = .ok (.ixor, 1) := by decide +kernel
theorem dX4_tryShutters_100 : decode cX4_tryShutters 100 = .ok (.iload 7, 2) := by decide +kernel
theorem dX4_tryShutters_102 : decode cX4_tryShutters 102 = .ok (.idiv, 1) := by decide +kernel
theorem dX4_tryShutters_103 : decode cX4_tryShutters 103 = .ok (.iconst 2, 1) := by decide +kernel
theorem dX4_tryShutters_104 : decode cX4_tryShutters 104 = .ok (.ishr, 1) := by decide +kernel
theorem dX4_tryShutters_105 : decode cX4_tryShutters 105 = .ok (.ior, 1) := by decide +kernel
theorem dX4_tryShutters_106 : decode cX4_tryShutters 106 = .ok (.istore 4, 2) := by decide +kernel
theorem dX4_tryShutters_108 : decode cX4_tryShutters 108 = .ok (.iinc 5 1, 3) := by decide +kernel
theorem dX4_tryShutters_111 : decode cX4_tryShutters 111 = .ok (.goto (-94), 3) := by decide +kernel
theorem dX4_tryShutters_114 : decode cX4_tryShutters 114 = .ok (.return_, 1) := by decide +kernel
set_option maxRecDepth 20000 in
theorem T_X4_tryShutters_17 {Q : Option Value → ah_T → Prop} {h : ah_T} (hs : Sh h) (x2 : Int32) (x3 : Int32) (x4 : Int32) (x5 : Int32) (ht : ((1048576 ≤ x5 → Q none h) ∧ (¬ 1048576 ≤ x5 → ((x3 ≤ x4 → Q none h) ∧ (¬ x3 ≤ x4 → (Mt mX4_waysOf [.int x4, .int x2] h (ab_qi fun v5 h3 => Sh h3 ∧ (Mt mX4_isPeaceful [.ref 74, .int v5] h3 (ab_qi fun v8 h6 => Sh h6 ∧ ((v8 = 0 → ((¬ (x4 &&& (-x4)) = 0 → (¬ (x4 &&& (-x4)) = 0) ∧ Wp mX4_tryShutters Q 0 0 17 [some (.ref 74), none, some (.int x2), some (.int x3), some (.int ((x4 + (x4 &&& (-x4))) ||| (((x4 ^^^ (x4 + (x4 &&& (-x4)))) / (x4 &&& (-x4))) >>> (2 &&& 31)))), some (.int (x5 + 1)), none, none, none] [] h6) ∧ ((x4 &&& (-x4)) = 0 → Q none h6))) ∧ (¬ v8 = 0 → ((¬ (ah_i h6 74 4) = 0 → (∀ h13, h13 = ah_si h6 74 4 ((ah_i h6 74 4) + 1) → ((¬ (x4 &&& (-x4)) = 0 → (¬ (x4 &&& (-x4)) = 0) ∧ Wp mX4_tryShutters Q 0 0 17 [some (.ref 74), none, some (.int x2), some (.int x3), some (.int ((x4 + (x4 &&& (-x4))) ||| (((x4 ^^^ (x4 + (x4 &&& (-x4)))) / (x4 &&& (-x4))) >>> (2 &&& 31)))), some (.int (x5 + 1)), none, none, none] [] h13) ∧ ((x4 &&& (-x4)) = 0 → Q none h13)))) ∧ ((ah_i h6 74 4) = 0 → (∀ h18, h18 = ah_si h6 74 3 v5 → (∀ h21, h21 = ah_si h18 74 4 ((ah_i h18 74 4) + 1) → ((¬ (x4 &&& (-x4)) = 0 → (¬ (x4 &&& (-x4)) = 0) ∧ Wp mX4_tryShutters Q 0 0 17 [some (.ref 74), none, some (.int x2), some (.int x3), some (.int ((x4 + (x4 &&& (-x4))) ||| (((x4 ^^^ (x4 + (x4 &&& (-x4)))) / (x4 &&& (-x4))) >>> (2 &&& 31)))), some (.int (x5 + 1)), none, none, none] [] h21) ∧ ((x4 &&& (-x4)) = 0 → Q none h21))))))))))))))))) : Wp mX4_tryShutters Q 0 0 17 [some (.ref 74), none, some (.int x2), some (.int x3), some (.int x4), some (.int x5), none, none, none] [] h := by
  refine ab_iload (i := 5) dX4_tryShutters_17 rfl ?_
  refine ab_ldc (v := 1048576) (tb_6 (List.mem_of_getElem? (i := 86) (by decide +kernel)) rfl) dX4_tryShutters_19 ?_
  refine ab_icmp_ge (tgt := 114) dX4_tryShutters_21 (by decide) (fun c1 => ?_) (fun c1 => ?_)
  · have ht := ht.1 c1
    exact ab_vret rfl dX4_tryShutters_114 (Nat.le_of_ble_eq_true rfl) (Nat.le_of_ble_eq_true rfl) ht
  · have ht := ht.2 c1
    refine ab_iload (i := 4) dX4_tryShutters_24 rfl ?_
    refine ab_iload_n (i := 3) dX4_tryShutters_26 rfl rfl ?_
    refine ab_icmp_ge (tgt := 114) dX4_tryShutters_27 (by decide) (fun c2 => ?_) (fun c2 => ?_)
    · have ht := ht.1 c2
      exact ab_vret rfl dX4_tryShutters_114 (Nat.le_of_ble_eq_true rfl) (Nat.le_of_ble_eq_true rfl) ht
    · have ht := ht.2 c2
      refine ab_iload (i := 4) dX4_tryShutters_30 rfl ?_
      refine ab_iload_n (i := 2) dX4_tryShutters_32 rfl rfl ?_
      refine ab_callS (As := [.int x4, .int x2]) ht (Y_X4_waysOf) l_X4_191 st_X4_waysOf rfl ⟨(Nat.le_of_ble_eq_true rfl), (Nat.le_of_ble_eq_true rfl), (Nat.le_of_ble_eq_true rfl), (Nat.le_of_ble_eq_true rfl)⟩ dX4_tryShutters_33 ?_
      rintro _ h3 ⟨v5, rfl, hs4, ht⟩
      refine ab_istore (i := 6) (L' := [some (.ref 74), none, some (.int x2), some (.int x3), some (.int x4), some (.int x5), some (.int v5), none, none]) dX4_tryShutters_36 (by exact (Nat.le_of_ble_eq_true rfl)) rfl rfl ?_
      refine ab_aload_n (i := 0) dX4_tryShutters_38 rfl rfl ?_
      refine ab_iload (i := 6) dX4_tryShutters_39 rfl ?_
      refine ab_callV (b := 74) (As := [.int v5]) ht (Y_X4_isPeaceful) l_X4_194 in_X4_isPeaceful se_X4_isPeaceful (sh_k hs4 74 4 (by decide) rfl) (by decide) rfl rfl ⟨(Nat.le_of_ble_eq_true rfl), (Nat.le_of_ble_eq_true rfl), (Nat.le_of_ble_eq_true rfl), (Nat.le_of_ble_eq_true rfl)⟩ dX4_tryShutters_41 ?_
      rintro _ h6 ⟨v8, rfl, hs7, ht⟩
      refine ab_if_eq (tgt := 70) dX4_tryShutters_44 (by decide) (fun c9 => ?_) (fun c9 => ?_)
      · have ht := ht.1 c9
        refine ab_iload (i := 4) dX4_tryShutters_70 rfl ?_
        refine ab_iload (i := 4) dX4_tryShutters_72 rfl ?_
        refine ab_ineg dX4_tryShutters_74 ?_
        refine ab_iand dX4_tryShutters_75 ?_
        refine ab_istore (i := 7) (L' := [some (.ref 74), none, some (.int x2), some (.int x3), some (.int x4), some (.int x5), some (.int v5), some (.int (x4 &&& (-x4))), none]) dX4_tryShutters_76 (by exact (Nat.le_of_ble_eq_true rfl)) rfl rfl ?_
        refine ab_iload (i := 7) dX4_tryShutters_78 rfl ?_
        refine ab_if_ne (tgt := 86) dX4_tryShutters_80 (by decide) (fun c10 => ?_) (fun c10 => ?_)
        · have ht := ht.1 c10
          refine ab_iload (i := 4) dX4_tryShutters_86 rfl ?_
          refine ab_iload (i := 7) dX4_tryShutters_88 rfl ?_
          refine ab_iadd dX4_tryShutters_90 ?_
          refine ab_istore (i := 8) (L' := [some (.ref 74), none, some (.int x2), some (.int x3), some (.int x4), some (.int x5), some (.int v5), some (.int (x4 &&& (-x4))), some (.int (x4 + (x4 &&& (-x4))))]) dX4_tryShutters_91 (by exact (Nat.le_of_ble_eq_true rfl)) rfl rfl ?_
          refine ab_iload (i := 8) dX4_tryShutters_93 rfl ?_
          refine ab_iload (i := 4) dX4_tryShutters_95 rfl ?_
          refine ab_iload (i := 8) dX4_tryShutters_97 rfl ?_
          refine ab_ixor dX4_tryShutters_99 ?_
          refine ab_iload (i := 7) dX4_tryShutters_100 rfl ?_
          obtain ⟨hc11, ht⟩ := ht
          refine ab_idiv dX4_tryShutters_102 hc11 ?_
          refine ab_iconst (v := 2) dX4_tryShutters_103 (by decide) ?_
          refine ab_ishr dX4_tryShutters_104 ?_
          refine ab_ior dX4_tryShutters_105 ?_
          refine ab_istore (i := 4) (L' := [some (.ref 74), none, some (.int x2), some (.int x3), some (.int ((x4 + (x4 &&& (-x4))) ||| (((x4 ^^^ (x4 + (x4 &&& (-x4)))) / (x4 &&& (-x4))) >>> (2 &&& 31)))), some (.int x5), some (.int v5), some (.int (x4 &&& (-x4))), some (.int (x4 + (x4 &&& (-x4))))]) dX4_tryShutters_106 (by exact (Nat.le_of_ble_eq_true rfl)) rfl rfl ?_
          refine ab_iinc (i := 5) (x := x5) (v := (x5 + 1)) (L' := [some (.ref 74), none, some (.int x2), some (.int x3), some (.int ((x4 + (x4 &&& (-x4))) ||| (((x4 ^^^ (x4 + (x4 &&& (-x4)))) / (x4 &&& (-x4))) >>> (2 &&& 31)))), some (.int (x5 + 1)), some (.int v5), some (.int (x4 &&& (-x4))), some (.int (x4 + (x4 &&& (-x4))))]) dX4_tryShutters_108 rfl rfl (by exact (Nat.le_of_ble_eq_true rfl)) rfl rfl ?_
          refine ab_goto (tgt := 17) dX4_tryShutters_111 (by decide) ?_
          exact Wp.fewer (L' := [some (.ref 74), none, some (.int x2), some (.int x3), some (.int ((x4 + (x4 &&& (-x4))) ||| (((x4 ^^^ (x4 + (x4 &&& (-x4)))) / (x4 &&& (-x4))) >>> (2 &&& 31)))), some (.int (x5 + 1)), none, none, none]) (show ab_leL _ _ from ⟨rfl, ⟨rfl, ⟨rfl, ⟨rfl, ⟨rfl, trivial⟩⟩⟩⟩⟩) ht
        · have ht := ht.2 c10
          refine ab_goto (tgt := 114) dX4_tryShutters_83 (by decide) ?_
          exact ab_vret rfl dX4_tryShutters_114 (Nat.le_of_ble_eq_true rfl) (Nat.le_of_ble_eq_true rfl) ht
      · have ht := ht.2 c9
        refine ab_aload_n (i := 0) dX4_tryShutters_47 rfl rfl ?_
        refine ab_getI f_X4_25 rfl (sh_k hs7 74 4 (by decide) rfl) dX4_tryShutters_48 ?_
        refine ab_if_ne (tgt := 60) dX4_tryShutters_51 (by decide) (fun c12 => ?_) (fun c12 => ?_)
        · have ht := ht.1 c12
          refine ab_aload_n (i := 0) dX4_tryShutters_60 rfl rfl ?_
          refine ab_dup dX4_tryShutters_61 rfl ?_
          refine ab_getI f_X4_25 rfl (sh_k hs7 74 4 (by decide) rfl) dX4_tryShutters_62 ?_
          refine ab_iconst (v := 1) dX4_tryShutters_65 (by decide) ?_
          refine ab_iadd dX4_tryShutters_66 ?_
          refine ab_putI f_X4_25 (Or.inl rfl) rfl (sh_k hs7 74 4 (by decide) rfl) rfl rfl dX4_tryShutters_67 ?_
          refine Wp.nm fun h13 e14 => ?_
          have ht := ht h13 e14
          have hs15 : Sh h13 := by rw [e14]; exact sh_si hs7
          refine ab_iload (i := 4) dX4_tryShutters_70 rfl ?_
          refine ab_iload (i := 4) dX4_tryShutters_72 rfl ?_
          refine ab_ineg dX4_tryShutters_74 ?_
          refine ab_iand dX4_tryShutters_75 ?_
          refine ab_istore (i := 7) (L' := [some (.ref 74), none, some (.int x2), some (.int x3), some (.int x4), some (.int x5), some (.int v5), some (.int (x4 &&& (-x4))), none]) dX4_tryShutters_76 (by exact (Nat.le_of_ble_eq_true rfl)) rfl rfl ?_
          refine ab_iload (i := 7) dX4_tryShutters_78 rfl ?_
          refine ab_if_ne (tgt := 86) dX4_tryShutters_80 (by decide) (fun c16 => ?_) (fun c16 => ?_)
          · have ht := ht.1 c16
            refine ab_iload (i := 4) dX4_tryShutters_86 rfl ?_
            refine ab_iload (i := 7) dX4_tryShutters_88 rfl ?_
            refine ab_iadd dX4_tryShutters_90 ?_
            refine ab_istore (i := 8) (L' := [some (.ref 74), none, some (.int x2), some (.int x3), some (.int x4), some (.int x5), some (.int v5), some (.int (x4 &&& (-x4))), some (.int (x4 + (x4 &&& (-x4))))]) dX4_tryShutters_91 (by exact (Nat.le_of_ble_eq_true rfl)) rfl rfl ?_
            refine ab_iload (i := 8) dX4_tryShutters_93 rfl ?_
            refine ab_iload (i := 4) dX4_tryShutters_95 rfl ?_
            refine ab_iload (i := 8) dX4_tryShutters_97 rfl ?_
            refine ab_ixor dX4_tryShutters_99 ?_
            refine ab_iload (i := 7) dX4_tryShutters_100 rfl ?_
            obtain ⟨hc17, ht⟩ := ht
            refine ab_idiv dX4_tryShutters_102 hc17 ?_
            refine ab_iconst (v := 2) dX4_tryShutters_103 (by decide) ?_
            refine ab_ishr dX4_tryShutters_104 ?_
            refine ab_ior dX4_tryShutters_105 ?_
            refine ab_istore (i := 4) (L' := [some (.ref 74), none, some (.int x2), some (.int x3), some (.int ((x4 + (x4 &&& (-x4))) ||| (((x4 ^^^ (x4 + (x4 &&& (-x4)))) / (x4 &&& (-x4))) >>> (2 &&& 31)))), some (.int x5), some (.int v5), some (.int (x4 &&& (-x4))), some (.int (x4 + (x4 &&& (-x4))))]) dX4_tryShutters_106 (by exact (Nat.le_of_ble_eq_true rfl)) rfl rfl ?_
            refine ab_iinc (i := 5) (x := x5) (v := (x5 + 1)) (L' := [some (.ref 74), none, some (.int x2), some (.int x3), some (.int ((x4 + (x4 &&& (-x4))) ||| (((x4 ^^^ (x4 + (x4 &&& (-x4)))) / (x4 &&& (-x4))) >>> (2 &&& 31)))), some (.int (x5 + 1)), some (.int v5), some (.int (x4 &&& (-x4))), some (.int (x4 + (x4 &&& (-x4))))]) dX4_tryShutters_108 rfl rfl (by exact (Nat.le_of_ble_eq_true rfl)) rfl rfl ?_
            refine ab_goto (tgt := 17) dX4_tryShutters_111 (by decide) ?_
            exact Wp.fewer (L' := [some (.ref 74), none, some (.int x2), some (.int x3), some (.int ((x4 + (x4 &&& (-x4))) ||| (((x4 ^^^ (x4 + (x4 &&& (-x4)))) / (x4 &&& (-x4))) >>> (2 &&& 31)))), some (.int (x5 + 1)), none, none, none]) (show ab_leL _ _ from ⟨rfl, ⟨rfl, ⟨rfl, ⟨rfl, ⟨rfl, trivial⟩⟩⟩⟩⟩) ht
          · have ht := ht.2 c16
            refine ab_goto (tgt := 114) dX4_tryShutters_83 (by decide) ?_
            exact ab_vret rfl dX4_tryShutters_114 (Nat.le_of_ble_eq_true rfl) (Nat.le_of_ble_eq_true rfl) ht
        · have ht := ht.2 c12
          refine ab_aload_n (i := 0) dX4_tryShutters_54 rfl rfl ?_
          refine ab_iload (i := 6) dX4_tryShutters_55 rfl ?_
          refine ab_putI f_X4_22 (Or.inl rfl) rfl (sh_k hs7 74 4 (by decide) rfl) rfl rfl dX4_tryShutters_57 ?_
          refine Wp.nm fun h18 e19 => ?_
          have ht := ht h18 e19
          have hs20 : Sh h18 := by rw [e19]; exact sh_si hs7
          refine ab_aload_n (i := 0) dX4_tryShutters_60 rfl rfl ?_
          refine ab_dup dX4_tryShutters_61 rfl ?_
          refine ab_getI f_X4_25 rfl (sh_k hs20 74 4 (by decide) rfl) dX4_tryShutters_62 ?_
          refine ab_iconst (v := 1) dX4_tryShutters_65 (by decide) ?_
          refine ab_iadd dX4_tryShutters_66 ?_
          refine ab_putI f_X4_25 (Or.inl rfl) rfl (sh_k hs20 74 4 (by decide) rfl) rfl rfl dX4_tryShutters_67 ?_
          refine Wp.nm fun h21 e22 => ?_
          have ht := ht h21 e22
          have hs23 : Sh h21 := by rw [e22]; exact sh_si hs20
          refine ab_iload (i := 4) dX4_tryShutters_70 rfl ?_
          refine ab_iload (i := 4) dX4_tryShutters_72 rfl ?_
          refine ab_ineg dX4_tryShutters_74 ?_
          refine ab_iand dX4_tryShutters_75 ?_
          refine ab_istore (i := 7) (L' := [some (.ref 74), none, some (.int x2), some (.int x3), some (.int x4), some (.int x5), some (.int v5), some (.int (x4 &&& (-x4))), none]) dX4_tryShutters_76 (by exact (Nat.le_of_ble_eq_true rfl)) rfl rfl ?_
          refine ab_iload (i := 7) dX4_tryShutters_78 rfl ?_
          refine ab_if_ne (tgt := 86) dX4_tryShutters_80 (by decide) (fun c24 => ?_) (fun c24 => ?_)
          · have ht := ht.1 c24
            refine ab_iload (i := 4) dX4_tryShutters_86 rfl ?_
            refine ab_iload (i := 7) dX4_tryShutters_88 rfl ?_
            refine ab_iadd dX4_tryShutters_90 ?_
            refine ab_istore (i := 8) (L' := [some (.ref 74), none, some (.int x2), some (.int x3), some (.int x4), some (.int x5), some (.int v5), some (.int (x4 &&& (-x4))), some (.int (x4 + (x4 &&& (-x4))))]) dX4_tryShutters_91 (by exact (Nat.le_of_ble_eq_true rfl)) rfl rfl ?_
            refine ab_iload (i := 8) dX4_tryShutters_93 rfl ?_
            refine ab_iload (i := 4) dX4_tryShutters_95 rfl ?_
            refine ab_iload (i := 8) dX4_tryShutters_97 rfl ?_
            refine ab_ixor dX4_tryShutters_99 ?_
            refine ab_iload (i := 7) dX4_tryShutters_100 rfl ?_
            obtain ⟨hc25, ht⟩ := ht
            refine ab_idiv dX4_tryShutters_102 hc25 ?_
            refine ab_iconst (v := 2) dX4_tryShutters_103 (by decide) ?_
            refine ab_ishr dX4_tryShutters_104 ?_
            refine ab_ior dX4_tryShutters_105 ?_
            refine ab_istore (i := 4) (L' := [some (.ref 74), none, some (.int x2), some (.int x3), some (.int ((x4 + (x4 &&& (-x4))) ||| (((x4 ^^^ (x4 + (x4 &&& (-x4)))) / (x4 &&& (-x4))) >>> (2 &&& 31)))), some (.int x5), some (.int v5), some (.int (x4 &&& (-x4))), some (.int (x4 + (x4 &&& (-x4))))]) dX4_tryShutters_106 (by exact (Nat.le_of_ble_eq_true rfl)) rfl rfl ?_
            refine ab_iinc (i := 5) (x := x5) (v := (x5 + 1)) (L' := [some (.ref 74), none, some (.int x2), some (.int x3), some (.int ((x4 + (x4 &&& (-x4))) ||| (((x4 ^^^ (x4 + (x4 &&& (-x4)))) / (x4 &&& (-x4))) >>> (2 &&& 31)))), some (.int (x5 + 1)), some (.int v5), some (.int (x4 &&& (-x4))), some (.int (x4 + (x4 &&& (-x4))))]) dX4_tryShutters_108 rfl rfl (by exact (Nat.le_of_ble_eq_true rfl)) rfl rfl ?_
            refine ab_goto (tgt := 17) dX4_tryShutters_111 (by decide) ?_
            exact Wp.fewer (L' := [some (.ref 74), none, some (.int x2), some (.int x3), some (.int ((x4 + (x4 &&& (-x4))) ||| (((x4 ^^^ (x4 + (x4 &&& (-x4)))) / (x4 &&& (-x4))) >>> (2 &&& 31)))), some (.int (x5 + 1)), none, none, none]) (show ab_leL _ _ from ⟨rfl, ⟨rfl, ⟨rfl, ⟨rfl, ⟨rfl, trivial⟩⟩⟩⟩⟩) ht
          · have ht := ht.2 c24
            refine ab_goto (tgt := 114) dX4_tryShutters_83 (by decide) ?_
            exact ab_vret rfl dX4_tryShutters_114 (Nat.le_of_ble_eq_true rfl) (Nat.le_of_ble_eq_true rfl) ht
set_option maxRecDepth 20000 in
theorem T_X4_tryShutters {Q : Option Value → ah_T → Prop} {h : ah_T} (hs : Sh h) (x1 : Int32) (x2 : Int32) (ht : Wp mX4_tryShutters Q 0 0 17 [some (.ref 74), none, some (.int x2), some (.int ((1 : Int32) <<< ((f_J6_bitCount_0f7a4 x2) &&& 31))), some (.int (((1 : Int32) <<< (x1 &&& 31)) - 1)), some (.int 0), none, none, none] [] h) : Mt mX4_tryShutters [.ref 74, .int x1, .int x2] h Q := by
  refine Mt.ofWp rfl (by exact (Nat.le_of_ble_eq_true rfl)) (Wp.fewer (L' := [some (.ref 74), some (.int x1), some (.int x2), none, none, none, none, none, none]) (show ab_leL _ _ from ⟨rfl, ⟨rfl, ⟨rfl, trivial⟩⟩⟩) ?_)
  refine ab_iconst (v := 1) dX4_tryShutters_0 (by decide) ?_
  refine ab_iload_n (i := 2) dX4_tryShutters_1 rfl rfl ?_
  refine ab_callS (Q' := fun r h' => r = some (.int (f_J6_bitCount_0f7a4 x2)) ∧ h = h') (As := [.int x2]) (c_J6_bitCount_0f7a4 hs x2 ⟨rfl, rfl⟩) (Y_J6_bitCount_0f7a4) l_X4_66 st_J6_bitCount_0f7a4 rfl ⟨(Nat.le_of_ble_eq_true rfl), (Nat.le_of_ble_eq_true rfl), (Nat.le_of_ble_eq_true rfl), (Nat.le_of_ble_eq_true rfl)⟩ dX4_tryShutters_2 ?_
  rintro _ _ ⟨rfl, rfl⟩
  refine ab_ishl dX4_tryShutters_5 ?_
  refine ab_istore_n (i := 3) (L' := [some (.ref 74), some (.int x1), some (.int x2), some (.int ((1 : Int32) <<< ((f_J6_bitCount_0f7a4 x2) &&& 31))), none, none, none, none, none]) dX4_tryShutters_6 rfl (by exact (Nat.le_of_ble_eq_true rfl)) rfl rfl ?_
  refine ab_iconst (v := 1) dX4_tryShutters_7 (by decide) ?_
  refine ab_iload_n (i := 1) dX4_tryShutters_8 rfl rfl ?_
  refine ab_ishl dX4_tryShutters_9 ?_
  refine ab_iconst (v := 1) dX4_tryShutters_10 (by decide) ?_
  refine ab_isub dX4_tryShutters_11 ?_
  refine ab_istore (i := 4) (L' := [some (.ref 74), some (.int x1), some (.int x2), some (.int ((1 : Int32) <<< ((f_J6_bitCount_0f7a4 x2) &&& 31))), some (.int (((1 : Int32) <<< (x1 &&& 31)) - 1)), none, none, none, none]) dX4_tryShutters_12 (by exact (Nat.le_of_ble_eq_true rfl)) rfl rfl ?_
  refine ab_iconst (v := 0) dX4_tryShutters_14 (by decide) ?_
  refine ab_istore (i := 5) (L' := [some (.ref 74), some (.int x1), some (.int x2), some (.int ((1 : Int32) <<< ((f_J6_bitCount_0f7a4 x2) &&& 31))), some (.int (((1 : Int32) <<< (x1 &&& 31)) - 1)), some (.int 0), none, none, none]) dX4_tryShutters_15 (by exact (Nat.le_of_ble_eq_true rfl)) rfl rfl ?_
  exact Wp.fewer (L' := [some (.ref 74), none, some (.int x2), some (.int ((1 : Int32) <<< ((f_J6_bitCount_0f7a4 x2) &&& 31))), some (.int (((1 : Int32) <<< (x1 &&& 31)) - 1)), some (.int 0), none, none, none]) (show ab_leL _ _ from ⟨rfl, ⟨rfl, ⟨rfl, ⟨rfl, ⟨rfl, trivial⟩⟩⟩⟩⟩) ht
theorem dX4_waysOf_0 : decode cX4_waysOf 0 = .ok (.iconst 0, 1) := by decide +kernel
theorem dX4_waysOf_1 : decode cX4_waysOf 1 = .ok (.istore_n 2, 1) := by decide +kernel
theorem dX4_waysOf_2 : decode cX4_waysOf 2 = .ok (.iconst 0, 1) := by decide +kernel
theorem dX4_waysOf_3 : decode cX4_waysOf 3 = .ok (.istore_n 3, 1) := by decide +kernel
theorem dX4_waysOf_4 : decode cX4_waysOf 4 = .ok (.iconst 0, 1) := by decide +kernel
theorem dX4_waysOf_5 : decode cX4_waysOf 5 = .ok (.istore 4, 2) := by decide +kernel
theorem dX4_waysOf_7 : decode cX4_waysOf 7 = .ok (.iload 4, 2) := by decide +kernel
theorem dX4_waysOf_9 : decode cX4_waysOf 9 = .ok (.bipush 20, 2) := by decide +kernel
theorem dX4_waysOf_11 : decode cX4_waysOf 11 = .ok (.if_icmp .ge 32, 3) := by decide +kernel
theorem dX4_waysOf_14 : decode cX4_waysOf 14 = .ok (.iload_n 1, 1) := by decide +kernel
theorem dX4_waysOf_15 : decode cX4_waysOf 15 = .ok (.iload 4, 2) := by decide +kernel
theorem dX4_waysOf_17 : decode cX4_waysOf 17 = .ok (.ishr, 1) := by decide +kernel
theorem dX4_waysOf_18 : decode cX4_waysOf 18 = .ok (.iconst 1, 1) := by decide +kernel
theorem dX4_waysOf_19 : decode cX4_waysOf 19 = .ok (.iand, 1) := by decide +kernel
theorem dX4_waysOf_20 : decode cX4_waysOf 20 = .ok (.ifCond .eq 17, 3) := by decide +kernel
theorem dX4_waysOf_23 : decode cX4_waysOf 23 = .ok (.iload_n 2, 1) := by decide +kernel
theorem dX4_waysOf_24 : decode cX4_waysOf 24 = .ok (.iload_n 0, 1) := by decide +kernel
theorem dX4_waysOf_25 : decode cX4_waysOf 25 = .ok (.iload_n 3, 1) := by decide +kernel
theorem dX4_waysOf_26 : decode cX4_waysOf 26 = .ok (.ishr, 1) := by decide +kernel
theorem dX4_waysOf_27 : decode cX4_waysOf 27 = .ok (.iconst 1, 1) := by decide +kernel
theorem dX4_waysOf_28 : decode cX4_waysOf 28 = .ok (.iand, 1) := by decide +kernel
theorem dX4_waysOf_29 : decode cX4_waysOf 29 = .ok (.iload 4, 2) := by decide +kernel
theorem dX4_waysOf_31 : decode cX4_waysOf 31 = .ok (.ishl, 1) := by decide +kernel
theorem dX4_waysOf_32 : decode cX4_waysOf 32 = .ok (.ior, 1) := by decide +kernel
theorem dX4_waysOf_33 : decode cX4_waysOf 33 = .ok (.istore_n 2, 1) := by decide +kernel
theorem dX4_waysOf_34 : decode cX4_waysOf 34 = .ok (.iinc 3 1, 3) := by decide +kernel
theorem dX4_waysOf_37 : decode cX4_waysOf 37 = .ok (.iinc 4 1, 3) := by decide +kernel
theorem dX4_waysOf_40 : decode cX4_waysOf 40 = .ok (.goto (-33), 3) := by decide +kernel
theorem dX4_waysOf_43 : decode cX4_waysOf 43 = .ok (.iload_n 2, 1) := by decide +kernel
theorem dX4_waysOf_44 : decode cX4_waysOf 44 = .ok (.ireturn, 1) := by decide +kernel
set_option maxRecDepth 20000 in
theorem T_X4_waysOf_7 {Q : Option Value → ah_T → Prop} {h : ah_T} (hs : Sh h) (x0 : Int32) (x1 : Int32) (x2 : Int32) (x3 : Int32) (x4 : Int32) (ht : ((20 ≤ x4 → Q (some (.int x2)) h) ∧ (¬ 20 ≤ x4 → ((((x1 >>> (x4 &&& 31)) &&& 1) = 0 → Wp mX4_waysOf Q 0 0 7 [some (.int x0), some (.int x1), some (.int x2), some (.int x3), some (.int (x4 + 1))] [] h) ∧ (¬ ((x1 >>> (x4 &&& 31)) &&& 1) = 0 → Wp mX4_waysOf Q 0 0 7 [some (.int x0), some (.int x1), some (.int (x2 ||| (((x0 >>> (x3 &&& 31)) &&& 1) <<< (x4 &&& 31)))), some (.int (x3 + 1)), some (.int (x4 + 1))] [] h))))) : Wp mX4_waysOf Q 0 0 7 [some (.int x0), some (.int x1), some (.int x2), some (.int x3), some (.int x4)] [] h := by
  refine ab_iload (i := 4) dX4_waysOf_7 rfl ?_
  refine ab_bipush (v := 20) dX4_waysOf_9 (by decide) ?_
  refine ab_icmp_ge (tgt := 43) dX4_waysOf_11 (by decide) (fun c1 => ?_) (fun c1 => ?_)
  · have ht := ht.1 c1
    refine ab_iload_n (i := 2) dX4_waysOf_43 rfl rfl ?_
    exact ab_iret rfl dX4_waysOf_44 (Nat.le_of_ble_eq_true rfl) (Nat.le_of_ble_eq_true rfl) ht
  · have ht := ht.2 c1
    refine ab_iload_n (i := 1) dX4_waysOf_14 rfl rfl ?_
    refine ab_iload (i := 4) dX4_waysOf_15 rfl ?_
    refine ab_ishr dX4_waysOf_17 ?_
    refine ab_iconst (v := 1) dX4_waysOf_18 (by decide) ?_
    refine ab_iand dX4_waysOf_19 ?_
    refine ab_if_eq (tgt := 37) dX4_waysOf_20 (by decide) (fun c2 => ?_) (fun c2 => ?_)
    · have ht := ht.1 c2
      refine ab_iinc (i := 4) (x := x4) (v := (x4 + 1)) (L' := [some (.int x0), some (.int x1), some (.int x2), some (.int x3), some (.int (x4 + 1))]) dX4_waysOf_37 rfl rfl (by exact (Nat.le_of_ble_eq_true rfl)) rfl rfl ?_
      refine ab_goto (tgt := 7) dX4_waysOf_40 (by decide) ?_
      exact Wp.fewer (L' := [some (.int x0), some (.int x1), some (.int x2), some (.int x3), some (.int (x4 + 1))]) (show ab_leL _ _ from ⟨rfl, ⟨rfl, ⟨rfl, ⟨rfl, ⟨rfl, trivial⟩⟩⟩⟩⟩) ht
    · have ht := ht.2 c2
      refine ab_iload_n (i := 2) dX4_waysOf_23 rfl rfl ?_
      refine ab_iload_n (i := 0) dX4_waysOf_24 rfl rfl ?_
      refine ab_iload_n (i := 3) dX4_waysOf_25 rfl rfl ?_
      refine ab_ishr dX4_waysOf_26 ?_
      refine ab_iconst (v := 1) dX4_waysOf_27 (by decide) ?_
      refine ab_iand dX4_waysOf_28 ?_
      refine ab_iload (i := 4) dX4_waysOf_29 rfl ?_
      refine ab_ishl dX4_waysOf_31 ?_
      refine ab_ior dX4_waysOf_32 ?_
      refine ab_istore_n (i := 2) (L' := [some (.int x0), some (.int x1), some (.int (x2 ||| (((x0 >>> (x3 &&& 31)) &&& 1) <<< (x4 &&& 31)))), some (.int x3), some (.int x4)]) dX4_waysOf_33 rfl (by exact (Nat.le_of_ble_eq_true rfl)) rfl rfl ?_
      refine ab_iinc (i := 3) (x := x3) (v := (x3 + 1)) (L' := [some (.int x0), some (.int x1), some (.int (x2 ||| (((x0 >>> (x3 &&& 31)) &&& 1) <<< (x4 &&& 31)))), some (.int (x3 + 1)), some (.int x4)]) dX4_waysOf_34 rfl rfl (by exact (Nat.le_of_ble_eq_true rfl)) rfl rfl ?_
      refine ab_iinc (i := 4) (x := x4) (v := (x4 + 1)) (L' := [some (.int x0), some (.int x1), some (.int (x2 ||| (((x0 >>> (x3 &&& 31)) &&& 1) <<< (x4 &&& 31)))), some (.int (x3 + 1)), some (.int (x4 + 1))]) dX4_waysOf_37 rfl rfl (by exact (Nat.le_of_ble_eq_true rfl)) rfl rfl ?_
      refine ab_goto (tgt := 7) dX4_waysOf_40 (by decide) ?_
      exact Wp.fewer (L' := [some (.int x0), some (.int x1), some (.int (x2 ||| (((x0 >>> (x3 &&& 31)) &&& 1) <<< (x4 &&& 31)))), some (.int (x3 + 1)), some (.int (x4 + 1))]) (show ab_leL _ _ from ⟨rfl, ⟨rfl, ⟨rfl, ⟨rfl, ⟨rfl, trivial⟩⟩⟩⟩⟩) ht
set_option maxRecDepth 20000 in
theorem T_X4_waysOf {Q : Option Value → ah_T → Prop} {h : ah_T} (hs : Sh h) (x0 : Int32) (x1 : Int32) (ht : Wp mX4_waysOf Q 0 0 7 [some (.int x0), some (.int x1), some (.int 0), some (.int 0), some (.int 0)] [] h) : Mt mX4_waysOf [.int x0, .int x1] h Q := by
  refine Mt.ofWp rfl (by exact (Nat.le_of_ble_eq_true rfl)) (Wp.fewer (L' := [some (.int x0), some (.int x1), none, none, none]) (show ab_leL _ _ from ⟨rfl, ⟨rfl, trivial⟩⟩) ?_)
  refine ab_iconst (v := 0) dX4_waysOf_0 (by decide) ?_
  refine ab_istore_n (i := 2) (L' := [some (.int x0), some (.int x1), some (.int 0), none, none]) dX4_waysOf_1 rfl (by exact (Nat.le_of_ble_eq_true rfl)) rfl rfl ?_
  refine ab_iconst (v := 0) dX4_waysOf_2 (by decide) ?_
  refine ab_istore_n (i := 3) (L' := [some (.int x0), some (.int x1), some (.int 0), some (.int 0), none]) dX4_waysOf_3 rfl (by exact (Nat.le_of_ble_eq_true rfl)) rfl rfl ?_
  refine ab_iconst (v := 0) dX4_waysOf_4 (by decide) ?_
  refine ab_istore (i := 4) (L' := [some (.int x0), some (.int x1), some (.int 0), some (.int 0), some (.int 0)]) dX4_waysOf_5 (by exact (Nat.le_of_ble_eq_true rfl)) rfl rfl ?_
  exact Wp.fewer (L' := [some (.int x0), some (.int x1), some (.int 0), some (.int 0), some (.int 0)]) (show ab_leL _ _ from ⟨rfl, ⟨rfl, ⟨rfl, ⟨rfl, ⟨rfl, trivial⟩⟩⟩⟩⟩) ht
theorem dX4_isPeaceful_0 : decode cX4_isPeaceful 0 = .ok (.aload_n 0, 1) := by decide +kernel
theorem dX4_isPeaceful_1 : decode cX4_isPeaceful 1 = .ok (.getfield 54, 3) := by decide +kernel
theorem dX4_isPeaceful_4 : decode cX4_isPeaceful 4 = .ok (.getfield 198, 3) := by decide +kernel
theorem dX4_isPeaceful_7 : decode cX4_isPeaceful 7 = .ok (.iconst 0, 1) := by decide +kernel
theorem dX4_isPeaceful_8 : decode cX4_isPeaceful 8 = .ok (.aload_n 0, 1) := by decide +kernel
theorem dX4_isPeaceful_9 : decode cX4_isPeaceful 9 = .ok (.getfield 44, 3) := by decide +kernel
theorem dX4_isPeaceful_12 : decode cX4_isPeaceful 12 = .ok (.iconst 0, 1) := by decide +kernel
theorem dX4_isPeaceful_13 : decode cX4_isPeaceful 13 = .ok (.bipush 12, 2) := by decide +kernel
theorem dX4_isPeaceful_15 : decode cX4_isPeaceful 15 = .ok (.invokestatic 199, 3) := by decide +kernel
theorem dX4_isPeaceful_18 : decode cX4_isPeaceful 18 = .ok (.iconst 0, 1) := by decide +kernel
theorem dX4_isPeaceful_19 : decode cX4_isPeaceful 19 = .ok (.istore_n 2, 1) := by decide +kernel
theorem dX4_isPeaceful_20 : decode cX4_isPeaceful 20 = .ok (.iload_n 2, 1) := by decide +kernel
theorem dX4_isPeaceful_21 : decode cX4_isPeaceful 21 = .ok (.aload_n 0, 1) := by decide +kernel
theorem dX4_isPeaceful_22 : decode cX4_isPeaceful 22 = .ok (.getfield 50, 3) := by decide +kernel
theorem dX4_isPeaceful_25 : decode cX4_isPeaceful 25 = .ok (.getfield 112, 3) := by decide +kernel
theorem dX4_isPeaceful_28 : decode cX4_isPeaceful 28 = .ok (.getfield 118, 3) := by decide +kernel
theorem dX4_isPeaceful_31 : decode cX4_isPeaceful 31 = .ok (.if_icmp .ge 83, 3) := by decide +kernel
theorem dX4_isPeaceful_34 : decode cX4_isPeaceful 34 = .ok (.iload_n 1, 1) := by decide +kernel
theorem dX4_isPeaceful_35 : decode cX4_isPeaceful 35 = .ok (.iload_n 2, 1) := by decide +kernel
theorem dX4_isPeaceful_36 : decode cX4_isPeaceful 36 = .ok (.ishr, 1) := by decide +kernel
theorem dX4_isPeaceful_37 : decode cX4_isPeaceful 37 = .ok (.ifCond .eq 77, 3) := by decide +kernel
theorem dX4_isPeaceful_40 : decode cX4_isPeaceful 40 = .ok (.iload_n 1, 1) := by decide +kernel
theorem dX4_isPeaceful_41 : decode cX4_isPeaceful 41 = .ok (.iload_n 2, 1) := by decide +kernel
theorem dX4_isPeaceful_42 : decode cX4_isPeaceful 42 = .ok (.ishr, 1) := by decide +kernel
theorem dX4_isPeaceful_43 : decode cX4_isPeaceful 43 = .ok (.iconst 1, 1) := by decide +kernel
theorem dX4_isPeaceful_44 : decode cX4_isPeaceful 44 = .ok (.iand, 1) := by decide +kernel
theorem dX4_isPeaceful_45 : decode cX4_isPeaceful 45 = .ok (.ifCond .ne 6, 3) := by decide +kernel
theorem dX4_isPeaceful_48 : decode cX4_isPeaceful 48 = .ok (.goto 60, 3) := by decide +kernel
theorem dX4_isPeaceful_51 : decode cX4_isPeaceful 51 = .ok (.aload_n 0, 1) := by decide +kernel
theorem dX4_isPeaceful_52 : decode cX4_isPeaceful 52 = .ok (.getfield 50, 3) := by decide +kernel
theorem dX4_isPeaceful_55 : decode cX4_isPeaceful 55 = .ok (.getfield 112, 3) := by decide +kernel
theorem dX4_isPeaceful_58 : decode cX4_isPeaceful 58 = .ok (.iload_n 2, 1) := by decide +kernel
theorem dX4_isPeaceful_59 : decode cX4_isPeaceful 59 = .ok (.iconst 0, 1) := by decide +kernel
theorem dX4_isPeaceful_60 : decode cX4_isPeaceful 60 = .ok (.invokevirtual 123, 3) := by decide +kernel
theorem dX4_isPeaceful_63 : decode cX4_isPeaceful 63 = .ok (.istore_n 3, 1) := by decide +kernel
theorem dX4_isPeaceful_64 : decode cX4_isPeaceful 64 = .ok (.aload_n 0, 1) := by decide +kernel
theorem dX4_isPeaceful_65 : decode cX4_isPeaceful 65 = .ok (.getfield 50, 3) := by decide +kernel
theorem dX4_isPeaceful_68 : decode cX4_isPeaceful 68 = .ok (.getfield 112, 3) := by decide +kernel
theorem dX4_isPeaceful_71 : decode cX4_isPeaceful 71 = .ok (.iload_n 2, 1) := by decide +kernel
theorem dX4_isPeaceful_72 : decode cX4_isPeaceful 72 = .ok (.iconst 1, 1) := by decide +kernel
theorem dX4_isPeaceful_73 : decode cX4_isPeaceful 73 = .ok (.invokevirtual 123, 3) := by decide +kernel
theorem dX4_isPeaceful_76 : decode cX4_isPeaceful 76 = .ok (.istore 4, 2) := by decide +kernel
theorem dX4_isPeaceful_78 : decode cX4_isPeaceful 78 = .ok (.aload_n 0, 1) := by decide +kernel
theorem dX4_isPeaceful_79 : decode cX4_isPeaceful 79 = .ok (.getfield 44, 3) := by decide +kernel
theorem dX4_isPeaceful_82 : decode cX4_isPeaceful 82 = .ok (.iload_n 3, 1) := by decide +kernel
theorem dX4_isPeaceful_83 : decode cX4_isPeaceful 83 = .ok (.dup2, 1) := by decide +kernel
theorem dX4_isPeaceful_84 : decode cX4_isPeaceful 84 = .ok (.iaload, 1) := by decide +kernel
theorem dX4_isPeaceful_85 : decode cX4_isPeaceful 85 = .ok (.iconst 1, 1) := by decide +kernel
theorem dX4_isPeaceful_86 : decode cX4_isPeaceful 86 = .ok (.iload 4, 2) := by decide +kernel
theorem dX4_isPeaceful_88 : decode cX4_isPeaceful 88 = .ok (.ishl, 1) := by decide +kernel
theorem dX4_isPeaceful_89 : decode cX4_isPeaceful 89 = .ok (.iconst (-1), 1) := by decide +kernel
theorem dX4_isPeaceful_90 : decode cX4_isPeaceful 90 = .ok (.ixor, 1) := by decide +kernel
theorem dX4_isPeaceful_91 : decode cX4_isPeaceful 91 = .ok (.iand, 1) := by decide +kernel
theorem dX4_isPeaceful_92 : decode cX4_isPeaceful 92 = .ok (.iastore, 1) := by decide +kernel
theorem dX4_isPeaceful_93 : decode cX4_isPeaceful 93 = .ok (.aload_n 0, 1) := by decide +kernel
theorem dX4_isPeaceful_94 : decode cX4_isPeaceful 94 = .ok (.getfield 44, 3) := by decide +kernel
theorem dX4_isPeaceful_97 : decode cX4_isPeaceful 97 = .ok (.iload 4, 2) := by decide +kernel
theorem dX4_isPeaceful_99 : decode cX4_isPeaceful 99 = .ok (.dup2, 1) := by decide +kernel
theorem dX4_isPeaceful_100 : decode cX4_isPeaceful 100 = .ok (.iaload, 1) := by decide +kernel
theorem dX4_isPeaceful_101 : decode cX4_isPeaceful 101 = .ok (.iconst 1, 1) := by decide +kernel
theorem dX4_isPeaceful_102 : decode cX4_isPeaceful 102 = .ok (.iload_n 3, 1) := by decide +kernel
theorem dX4_isPeaceful_103 : decode cX4_isPeaceful 103 = .ok (.ishl, 1) := by decide +kernel
theorem dX4_isPeaceful_104 : decode cX4_isPeaceful 104 = .ok (.iconst (-1), 1) := by decide +kernel
theorem dX4_isPeaceful_105 : decode cX4_isPeaceful 105 = .ok (.ixor, 1) := by decide +kernel
theorem dX4_isPeaceful_106 : decode cX4_isPeaceful 106 = .ok (.iand, 1) := by decide +kernel
theorem dX4_isPeaceful_107 : decode cX4_isPeaceful 107 = .ok (.iastore, 1) := by decide +kernel
theorem dX4_isPeaceful_108 : decode cX4_isPeaceful 108 = .ok (.iinc 2 1, 3) := by decide +kernel
theorem dX4_isPeaceful_111 : decode cX4_isPeaceful 111 = .ok (.goto (-91), 3) := by decide +kernel
theorem dX4_isPeaceful_114 : decode cX4_isPeaceful 114 = .ok (.iconst 0, 1) := by decide +kernel
theorem dX4_isPeaceful_115 : decode cX4_isPeaceful 115 = .ok (.istore_n 2, 1) := by decide +kernel
theorem dX4_isPeaceful_116 : decode cX4_isPeaceful 116 = .ok (.iload_n 2, 1) := by decide +kernel
theorem dX4_isPeaceful_117 : decode cX4_isPeaceful 117 = .ok (.bipush 12, 2) := by decide +kernel
theorem dX4_isPeaceful_119 : decode cX4_isPeaceful 119 = .ok (.if_icmp .ge 87, 3) := by decide +kernel
theorem dX4_isPeaceful_122 : decode cX4_isPeaceful 122 = .ok (.iconst 0, 1) := by decide +kernel
theorem dX4_isPeaceful_123 : decode cX4_isPeaceful 123 = .ok (.istore_n 3, 1) := by decide +kernel
theorem dX4_isPeaceful_124 : decode cX4_isPeaceful 124 = .ok (.iconst 0, 1) := by decide +kernel
theorem dX4_isPeaceful_125 : decode cX4_isPeaceful 125 = .ok (.istore 4, 2) := by decide +kernel
theorem dX4_isPeaceful_127 : decode cX4_isPeaceful 127 = .ok (.iload 4, 2) := by decide +kernel
theorem dX4_isPeaceful_129 : decode cX4_isPeaceful 129 = .ok (.bipush 12, 2) := by decide +kernel
theorem dX4_isPeaceful_131 : decode cX4_isPeaceful 131 = .ok (.if_icmp .ge 69, 3) := by decide +kernel
theorem dX4_isPeaceful_134 : decode cX4_isPeaceful 134 = .ok (.aload_n 0, 1) := by decide +kernel
theorem dX4_isPeaceful_135 : decode cX4_isPeaceful 135 = .ok (.getfield 41, 3) := by decide +kernel
theorem dX4_isPeaceful_138 : decode cX4_isPeaceful 138 = .ok (.iload_n 2, 1) := by decide +kernel
theorem dX4_isPeaceful_139 : decode cX4_isPeaceful 139 = .ok (.bipush 12, 2) := by decide +kernel
theorem dX4_isPeaceful_141 : decode cX4_isPeaceful 141 = .ok (.imul, 1) := by decide +kernel
theorem dX4_isPeaceful_142 : decode cX4_isPeaceful 142 = .ok (.iload 4, 2) := by decide +kernel
theorem dX4_isPeaceful_144 : decode cX4_isPeaceful 144 = .ok (.iadd, 1) := by decide +kernel
theorem dX4_isPeaceful_145 : decode cX4_isPeaceful 145 = .ok (.iaload, 1) := by decide +kernel
theorem dX4_isPeaceful_146 : decode cX4_isPeaceful 146 = .ok (.istore 5, 2) := by decide +kernel
theorem dX4_isPeaceful_148 : decode cX4_isPeaceful 148 = .ok (.iload 5, 2) := by decide +kernel
theorem dX4_isPeaceful_150 : decode cX4_isPeaceful 150 = .ok (.ifCond .ne 6, 3) := by decide +kernel
theorem dX4_isPeaceful_153 : decode cX4_isPeaceful 153 = .ok (.goto 41, 3) := by decide +kernel
theorem dX4_isPeaceful_156 : decode cX4_isPeaceful 156 = .ok (.iload_n 3, 1) := by decide +kernel
theorem dX4_isPeaceful_157 : decode cX4_isPeaceful 157 = .ok (.ifCond .ne 18, 3) := by decide +kernel
theorem dX4_isPeaceful_160 : decode cX4_isPeaceful 160 = .ok (.aload_n 0, 1) := by decide +kernel
theorem dX4_isPeaceful_161 : decode cX4_isPeaceful 161 = .ok (.getfield 44, 3) := by decide +kernel
theorem dX4_isPeaceful_164 : decode cX4_isPeaceful 164 = .ok (.iload_n 2, 1) := by decide +kernel
theorem dX4_isPeaceful_165 : decode cX4_isPeaceful 165 = .ok (.aload_n 0, 1) := by decide +kernel
theorem dX4_isPeaceful_166 : decode cX4_isPeaceful 166 = .ok (.getfield 47, 3) := by decide +kernel
theorem dX4_isPeaceful_169 : decode cX4_isPeaceful 169 = .ok (.iconst 0, 1) := by decide +kernel
theorem dX4_isPeaceful_170 : decode cX4_isPeaceful 170 = .ok (.invokestatic 205, 3) := by decide +kernel
theorem dX4_isPeaceful_173 : decode cX4_isPeaceful 173 = .ok (.iconst 1, 1) := by decide +kernel
theorem dX4_isPeaceful_174 : decode cX4_isPeaceful 174 = .ok (.istore_n 3, 1) := by decide +kernel
theorem dX4_isPeaceful_175 : decode cX4_isPeaceful 175 = .ok (.iload 5, 2) := by decide +kernel
theorem dX4_isPeaceful_177 : decode cX4_isPeaceful 177 = .ok (.aload_n 0, 1) := by decide +kernel
theorem dX4_isPeaceful_178 : decode cX4_isPeaceful 178 = .ok (.getfield 47, 3) := by decide +kernel
theorem dX4_isPeaceful_181 : decode cX4_isPeaceful 181 = .ok (.iload 4, 2) := by decide +kernel
theorem dX4_isPeaceful_183 : decode cX4_isPeaceful 183 = .ok (.iaload, 1) := by decide +kernel
theorem dX4_isPeaceful_184 : decode cX4_isPeaceful 184 = .ok (.iconst 1, 1) := by decide +kernel
theorem dX4_isPeaceful_185 : decode cX4_isPeaceful 185 = .ok (.iadd, 1) := by decide +kernel
theorem dX4_isPeaceful_186 : decode cX4_isPeaceful 186 = .ok (.ishr, 1) := by decide +kernel
theorem dX4_isPeaceful_187 : decode cX4_isPeaceful 187 = .ok (.iconst 1, 1) := by decide +kernel
theorem dX4_isPeaceful_188 : decode cX4_isPeaceful 188 = .ok (.iand, 1) := by decide +kernel
theorem dX4_isPeaceful_189 : decode cX4_isPeaceful 189 = .ok (.ifCond .eq 5, 3) := by decide +kernel
theorem dX4_isPeaceful_192 : decode cX4_isPeaceful 192 = .ok (.iconst 0, 1) := by decide +kernel
theorem dX4_isPeaceful_193 : decode cX4_isPeaceful 193 = .ok (.ireturn, 1) := by decide +kernel
theorem dX4_isPeaceful_194 : decode cX4_isPeaceful 194 = .ok (.iinc 4 1, 3) := by decide +kernel
theorem dX4_isPeaceful_197 : decode cX4_isPeaceful 197 = .ok (.goto (-70), 3) := by decide +kernel
theorem dX4_isPeaceful_200 : decode cX4_isPeaceful 200 = .ok (.iinc 2 1, 3) := by decide +kernel
theorem dX4_isPeaceful_203 : decode cX4_isPeaceful 203 = .ok (.goto (-87), 3) := by decide +kernel
theorem dX4_isPeaceful_206 : decode cX4_isPeaceful 206 = .ok (.iconst 1, 1) := by decide +kernel
theorem dX4_isPeaceful_207 : decode cX4_isPeaceful 207 = .ok (.ireturn, 1) := by decide +kernel
set_option maxRecDepth 20000 in
theorem T_X4_isPeaceful_20 {Q : Option Value → ah_T → Prop} {h : ah_T} (hs : Sh h) (x1 : Int32) (x2 : Int32) (ht : (((ah_i h 2 3) ≤ x2 → Wp mX4_isPeaceful Q 0 0 116 [some (.ref 74), none, some (.int 0), none, none, none] [] h) ∧ (¬ (ah_i h 2 3) ≤ x2 → (((x1 >>> (x2 &&& 31)) = 0 → Wp mX4_isPeaceful Q 0 0 116 [some (.ref 74), none, some (.int 0), none, none, none] [] h) ∧ (¬ (x1 >>> (x2 &&& 31)) = 0 → ((¬ ((x1 >>> (x2 &&& 31)) &&& 1) = 0 → (Mt mX7_get [.ref 2, .int x2, .int 0] h (ab_qi fun v11 h9 => Sh h9 ∧ (Mt mX7_get [.ref 2, .int x2, .int 1] h9 (ab_qi fun v14 h12 => Sh h12 ∧ (vp_in v11 (ah_n h12 80)) ∧ (vp_in v11 (ah_n h12 80)) ∧ (∀ h17, h17 = ah_si h12 80 (Int32.toNatClampNeg v11) ((ah_i h12 80 (Int32.toNatClampNeg v11)) &&& (((1 : Int32) <<< (v14 &&& 31)) ^^^ (-1))) → (vp_in v14 (ah_n h17 80)) ∧ (vp_in v14 (ah_n h17 80)) ∧ (∀ h22, h22 = ah_si h17 80 (Int32.toNatClampNeg v14) ((ah_i h17 80 (Int32.toNatClampNeg v14)) &&& (((1 : Int32) <<< (v11 &&& 31)) ^^^ (-1))) → Wp mX4_isPeaceful Q 0 0 20 [some (.ref 74), some (.int x1), some (.int (x2 + 1)), none, none, none] [] h22))))))) ∧ (((x1 >>> (x2 &&& 31)) &&& 1) = 0 → Wp mX4_isPeaceful Q 0 0 20 [some (.ref 74), some (.int x1), some (.int (x2 + 1)), none, none, none] [] h))))))) : Wp mX4_isPeaceful Q 0 0 20 [some (.ref 74), some (.int x1), some (.int x2), none, none, none] [] h := by
  refine ab_iload_n (i := 2) dX4_isPeaceful_20 rfl rfl ?_
  refine ab_aload_n (i := 0) dX4_isPeaceful_21 rfl rfl ?_
  refine ab_getR (b := 1) f_X4_50 rfl (sh_k hs 74 4 (by decide) rfl) (sh_r hs 89 rfl) dX4_isPeaceful_22 ?_
  refine ab_getR (b := 2) f_X4_112 rfl (sh_k hs 1 10 (by decide) rfl) (sh_r hs 13 rfl) dX4_isPeaceful_25 ?_
  refine ab_getI f_X4_118 rfl (sh_k hs 2 7 (by decide) rfl) dX4_isPeaceful_28 ?_
  refine ab_icmp_ge (tgt := 114) dX4_isPeaceful_31 (by decide) (fun c6 => ?_) (fun c6 => ?_)
  · have ht := ht.1 c6
    refine ab_iconst (v := 0) dX4_isPeaceful_114 (by decide) ?_
    refine ab_istore_n (i := 2) (L' := [some (.ref 74), some (.int x1), some (.int 0), none, none, none]) dX4_isPeaceful_115 rfl (by exact (Nat.le_of_ble_eq_true rfl)) rfl rfl ?_
    exact Wp.fewer (L' := [some (.ref 74), none, some (.int 0), none, none, none]) (show ab_leL _ _ from ⟨rfl, ⟨rfl, trivial⟩⟩) ht
  · have ht := ht.2 c6
    refine ab_iload_n (i := 1) dX4_isPeaceful_34 rfl rfl ?_
    refine ab_iload_n (i := 2) dX4_isPeaceful_35 rfl rfl ?_
    refine ab_ishr dX4_isPeaceful_36 ?_
    refine ab_if_eq (tgt := 114) dX4_isPeaceful_37 (by decide) (fun c7 => ?_) (fun c7 => ?_)
    · have ht := ht.1 c7
      refine ab_iconst (v := 0) dX4_isPeaceful_114 (by decide) ?_
      refine ab_istore_n (i := 2) (L' := [some (.ref 74), some (.int x1), some (.int 0), none, none, none]) dX4_isPeaceful_115 rfl (by exact (Nat.le_of_ble_eq_true rfl)) rfl rfl ?_
      exact Wp.fewer (L' := [some (.ref 74), none, some (.int 0), none, none, none]) (show ab_leL _ _ from ⟨rfl, ⟨rfl, trivial⟩⟩) ht
    · have ht := ht.2 c7
      refine ab_iload_n (i := 1) dX4_isPeaceful_40 rfl rfl ?_
      refine ab_iload_n (i := 2) dX4_isPeaceful_41 rfl rfl ?_
      refine ab_ishr dX4_isPeaceful_42 ?_
      refine ab_iconst (v := 1) dX4_isPeaceful_43 (by decide) ?_
      refine ab_iand dX4_isPeaceful_44 ?_
      refine ab_if_ne (tgt := 51) dX4_isPeaceful_45 (by decide) (fun c8 => ?_) (fun c8 => ?_)
      · have ht := ht.1 c8
        refine ab_aload_n (i := 0) dX4_isPeaceful_51 rfl rfl ?_
        refine ab_getR (b := 1) f_X4_50 rfl (sh_k hs 74 4 (by decide) rfl) (sh_r hs 89 rfl) dX4_isPeaceful_52 ?_
        refine ab_getR (b := 2) f_X4_112 rfl (sh_k hs 1 10 (by decide) rfl) (sh_r hs 13 rfl) dX4_isPeaceful_55 ?_
        refine ab_iload_n (i := 2) dX4_isPeaceful_58 rfl rfl ?_
        refine ab_iconst (v := 0) dX4_isPeaceful_59 (by decide) ?_
        refine ab_callV (b := 2) (As := [.int x2, .int 0]) ht (Y_X7_get) l_X4_123 in_X7_get se_X7_get (sh_k hs 2 7 (by decide) rfl) (by decide) rfl rfl ⟨(Nat.le_of_ble_eq_true rfl), (Nat.le_of_ble_eq_true rfl), (Nat.le_of_ble_eq_true rfl), (Nat.le_of_ble_eq_true rfl)⟩ dX4_isPeaceful_60 ?_
        rintro _ h9 ⟨v11, rfl, hs10, ht⟩
        refine ab_istore_n (i := 3) (L' := [some (.ref 74), some (.int x1), some (.int x2), some (.int v11), none, none]) dX4_isPeaceful_63 rfl (by exact (Nat.le_of_ble_eq_true rfl)) rfl rfl ?_
        refine ab_aload_n (i := 0) dX4_isPeaceful_64 rfl rfl ?_
        refine ab_getR (b := 1) f_X4_50 rfl (sh_k hs10 74 4 (by decide) rfl) (sh_r hs10 89 rfl) dX4_isPeaceful_65 ?_
        refine ab_getR (b := 2) f_X4_112 rfl (sh_k hs10 1 10 (by decide) rfl) (sh_r hs10 13 rfl) dX4_isPeaceful_68 ?_
        refine ab_iload_n (i := 2) dX4_isPeaceful_71 rfl rfl ?_
        refine ab_iconst (v := 1) dX4_isPeaceful_72 (by decide) ?_
        refine ab_callV (b := 2) (As := [.int x2, .int 1]) ht (Y_X7_get) l_X4_123 in_X7_get se_X7_get (sh_k hs10 2 7 (by decide) rfl) (by decide) rfl rfl ⟨(Nat.le_of_ble_eq_true rfl), (Nat.le_of_ble_eq_true rfl), (Nat.le_of_ble_eq_true rfl), (Nat.le_of_ble_eq_true rfl)⟩ dX4_isPeaceful_73 ?_
        rintro _ h12 ⟨v14, rfl, hs13, ht⟩
        refine ab_istore (i := 4) (L' := [some (.ref 74), some (.int x1), some (.int x2), some (.int v11), some (.int v14), none]) dX4_isPeaceful_76 (by exact (Nat.le_of_ble_eq_true rfl)) rfl rfl ?_
        refine ab_aload_n (i := 0) dX4_isPeaceful_78 rfl rfl ?_
        refine ab_getR (b := 80) f_X4_44 rfl (sh_k hs13 74 4 (by decide) rfl) (sh_r hs13 97 rfl) dX4_isPeaceful_79 ?_
        refine ab_iload_n (i := 3) dX4_isPeaceful_82 rfl rfl ?_
        refine ab_dup2 dX4_isPeaceful_83 rfl rfl ?_
        obtain ⟨hc15, ht⟩ := ht
        refine ab_iald (sh_k hs13 80 14 (by decide) rfl) hc15 dX4_isPeaceful_84 ?_
        refine ab_iconst (v := 1) dX4_isPeaceful_85 (by decide) ?_
        refine ab_iload (i := 4) dX4_isPeaceful_86 rfl ?_
        refine ab_ishl dX4_isPeaceful_88 ?_
        refine ab_iconst (v := (-1)) dX4_isPeaceful_89 (by decide) ?_
        refine ab_ixor dX4_isPeaceful_90 ?_
        refine ab_iand dX4_isPeaceful_91 ?_
        obtain ⟨hc16, ht⟩ := ht
        refine ab_iast (sh_k hs13 80 14 (by decide) rfl) hc16 dX4_isPeaceful_92 ?_
        refine Wp.nm fun h17 e18 => ?_
        have ht := ht h17 e18
        have hs19 : Sh h17 := by rw [e18]; exact sh_si hs13
        refine ab_aload_n (i := 0) dX4_isPeaceful_93 rfl rfl ?_
        refine ab_getR (b := 80) f_X4_44 rfl (sh_k hs19 74 4 (by decide) rfl) (sh_r hs19 97 rfl) dX4_isPeaceful_94 ?_
        refine ab_iload (i := 4) dX4_isPeaceful_97 rfl ?_
        refine ab_dup2 dX4_isPeaceful_99 rfl rfl ?_
        obtain ⟨hc20, ht⟩ := ht
        refine ab_iald (sh_k hs19 80 14 (by decide) rfl) hc20 dX4_isPeaceful_100 ?_
        refine ab_iconst (v := 1) dX4_isPeaceful_101 (by decide) ?_
        refine ab_iload_n (i := 3) dX4_isPeaceful_102 rfl rfl ?_
        refine ab_ishl dX4_isPeaceful_103 ?_
        refine ab_iconst (v := (-1)) dX4_isPeaceful_104 (by decide) ?_
        refine ab_ixor dX4_isPeaceful_105 ?_
        refine ab_iand dX4_isPeaceful_106 ?_
        obtain ⟨hc21, ht⟩ := ht
        refine ab_iast (sh_k hs19 80 14 (by decide) rfl) hc21 dX4_isPeaceful_107 ?_
        refine Wp.nm fun h22 e23 => ?_
        have ht := ht h22 e23
        have hs24 : Sh h22 := by rw [e23]; exact sh_si hs19
        refine ab_iinc (i := 2) (x := x2) (v := (x2 + 1)) (L' := [some (.ref 74), some (.int x1), some (.int (x2 + 1)), some (.int v11), some (.int v14), none]) dX4_isPeaceful_108 rfl rfl (by exact (Nat.le_of_ble_eq_true rfl)) rfl rfl ?_
        refine ab_goto (tgt := 20) dX4_isPeaceful_111 (by decide) ?_
        exact Wp.fewer (L' := [some (.ref 74), some (.int x1), some (.int (x2 + 1)), none, none, none]) (show ab_leL _ _ from ⟨rfl, ⟨rfl, ⟨rfl, trivial⟩⟩⟩) ht
      · have ht := ht.2 c8
        refine ab_goto (tgt := 108) dX4_isPeaceful_48 (by decide) ?_
        refine ab_iinc (i := 2) (x := x2) (v := (x2 + 1)) (L' := [some (.ref 74), some (.int x1), some (.int (x2 + 1)), none, none, none]) dX4_isPeaceful_108 rfl rfl (by exact (Nat.le_of_ble_eq_true rfl)) rfl rfl ?_
        refine ab_goto (tgt := 20) dX4_isPeaceful_111 (by decide) ?_
        exact Wp.fewer (L' := [some (.ref 74), some (.int x1), some (.int (x2 + 1)), none, none, none]) (show ab_leL _ _ from ⟨rfl, ⟨rfl, ⟨rfl, trivial⟩⟩⟩) ht
set_option maxRecDepth 20000 in
theorem T_X4_isPeaceful_116 {Q : Option Value → ah_T → Prop} {h : ah_T} (hs : Sh h) (x2 : Int32) (ht : ((12 ≤ x2 → Q (some (.int 1)) h) ∧ (¬ 12 ≤ x2 → Wp mX4_isPeaceful Q 0 0 127 [some (.ref 74), none, some (.int x2), some (.int 0), some (.int 0), none] [] h))) : Wp mX4_isPeaceful Q 0 0 116 [some (.ref 74), none, some (.int x2), none, none, none] [] h := by
  refine ab_iload_n (i := 2) dX4_isPeaceful_116 rfl rfl ?_
  refine ab_bipush (v := 12) dX4_isPeaceful_117 (by decide) ?_
  refine ab_icmp_ge (tgt := 206) dX4_isPeaceful_119 (by decide) (fun c25 => ?_) (fun c25 => ?_)
  · have ht := ht.1 c25
    refine ab_iconst (v := 1) dX4_isPeaceful_206 (by decide) ?_
    exact ab_zret rfl rfl dX4_isPeaceful_207 (Nat.le_of_ble_eq_true rfl) (Nat.le_of_ble_eq_true rfl) ht
  · have ht := ht.2 c25
    refine ab_iconst (v := 0) dX4_isPeaceful_122 (by decide) ?_
    refine ab_istore_n (i := 3) (L' := [some (.ref 74), none, some (.int x2), some (.int 0), none, none]) dX4_isPeaceful_123 rfl (by exact (Nat.le_of_ble_eq_true rfl)) rfl rfl ?_
    refine ab_iconst (v := 0) dX4_isPeaceful_124 (by decide) ?_
    refine ab_istore (i := 4) (L' := [some (.ref 74), none, some (.int x2), some (.int 0), some (.int 0), none]) dX4_isPeaceful_125 (by exact (Nat.le_of_ble_eq_true rfl)) rfl rfl ?_
    exact Wp.fewer (L' := [some (.ref 74), none, some (.int x2), some (.int 0), some (.int 0), none]) (show ab_leL _ _ from ⟨rfl, ⟨rfl, ⟨rfl, ⟨rfl, trivial⟩⟩⟩⟩) ht
set_option maxRecDepth 20000 in
theorem T_X4_isPeaceful_127 {Q : Option Value → ah_T → Prop} {h : ah_T} (hs : Sh h) (x2 : Int32) (x3 : Int32) (x4 : Int32) (ht : ((12 ≤ x4 → Wp mX4_isPeaceful Q 0 0 116 [some (.ref 74), none, some (.int (x2 + 1)), none, none, none] [] h) ∧ (¬ 12 ≤ x4 → (vp_in ((x2 * 12) + x4) (ah_n h 79)) ∧ ((¬ (ah_i h 79 (Int32.toNatClampNeg ((x2 * 12) + x4))) = 0 → ((¬ x3 = 0 → (vp_in x4 (ah_n h 81)) ∧ (((((ah_i h 79 (Int32.toNatClampNeg ((x2 * 12) + x4))) >>> (((ah_i h 81 (Int32.toNatClampNeg x4)) + 1) &&& 31)) &&& 1) = 0 → Wp mX4_isPeaceful Q 0 0 127 [some (.ref 74), none, some (.int x2), some (.int x3), some (.int (x4 + 1)), none] [] h) ∧ (¬ (((ah_i h 79 (Int32.toNatClampNeg ((x2 * 12) + x4))) >>> (((ah_i h 81 (Int32.toNatClampNeg x4)) + 1) &&& 31)) &&& 1) = 0 → Q (some (.int 0)) h))) ∧ (x3 = 0 → (Mt mX6_spread [.ref 80, .int x2, .ref 81, .int 0] h (ab_qv fun h32 => Sh h32 ∧ (vp_in x4 (ah_n h32 81)) ∧ (((((ah_i h 79 (Int32.toNatClampNeg ((x2 * 12) + x4))) >>> (((ah_i h32 81 (Int32.toNatClampNeg x4)) + 1) &&& 31)) &&& 1) = 0 → Wp mX4_isPeaceful Q 0 0 127 [some (.ref 74), none, some (.int x2), some (.int 1), some (.int (x4 + 1)), none] [] h32) ∧ (¬ (((ah_i h 79 (Int32.toNatClampNeg ((x2 * 12) + x4))) >>> (((ah_i h32 81 (Int32.toNatClampNeg x4)) + 1) &&& 31)) &&& 1) = 0 → Q (some (.int 0)) h32))))))) ∧ ((ah_i h 79 (Int32.toNatClampNeg ((x2 * 12) + x4))) = 0 → Wp mX4_isPeaceful Q 0 0 127 [some (.ref 74), none, some (.int x2), some (.int x3), some (.int (x4 + 1)), none] [] h))))) : Wp mX4_isPeaceful Q 0 0 127 [some (.ref 74), none, some (.int x2), some (.int x3), some (.int x4), none] [] h := by
  refine ab_iload (i := 4) dX4_isPeaceful_127 rfl ?_
  refine ab_bipush (v := 12) dX4_isPeaceful_129 (by decide) ?_
  refine ab_icmp_ge (tgt := 200) dX4_isPeaceful_131 (by decide) (fun c26 => ?_) (fun c26 => ?_)
  · have ht := ht.1 c26
    refine ab_iinc (i := 2) (x := x2) (v := (x2 + 1)) (L' := [some (.ref 74), none, some (.int (x2 + 1)), some (.int x3), some (.int x4), none]) dX4_isPeaceful_200 rfl rfl (by exact (Nat.le_of_ble_eq_true rfl)) rfl rfl ?_
    refine ab_goto (tgt := 116) dX4_isPeaceful_203 (by decide) ?_
    exact Wp.fewer (L' := [some (.ref 74), none, some (.int (x2 + 1)), none, none, none]) (show ab_leL _ _ from ⟨rfl, ⟨rfl, trivial⟩⟩) ht
  · have ht := ht.2 c26
    refine ab_aload_n (i := 0) dX4_isPeaceful_134 rfl rfl ?_
    refine ab_getR (b := 79) f_X4_41 rfl (sh_k hs 74 4 (by decide) rfl) (sh_r hs 96 rfl) dX4_isPeaceful_135 ?_
    refine ab_iload_n (i := 2) dX4_isPeaceful_138 rfl rfl ?_
    refine ab_bipush (v := 12) dX4_isPeaceful_139 (by decide) ?_
    refine ab_imul dX4_isPeaceful_141 ?_
    refine ab_iload (i := 4) dX4_isPeaceful_142 rfl ?_
    refine ab_iadd dX4_isPeaceful_144 ?_
    obtain ⟨hc27, ht⟩ := ht
    refine ab_iald (sh_k hs 79 14 (by decide) rfl) hc27 dX4_isPeaceful_145 ?_
    refine ab_istore (i := 5) (L' := [some (.ref 74), none, some (.int x2), some (.int x3), some (.int x4), some (.int (ah_i h 79 (Int32.toNatClampNeg ((x2 * 12) + x4))))]) dX4_isPeaceful_146 (by exact (Nat.le_of_ble_eq_true rfl)) rfl rfl ?_
    refine ab_iload (i := 5) dX4_isPeaceful_148 rfl ?_
    refine ab_if_ne (tgt := 156) dX4_isPeaceful_150 (by decide) (fun c28 => ?_) (fun c28 => ?_)
    · have ht := ht.1 c28
      refine ab_iload_n (i := 3) dX4_isPeaceful_156 rfl rfl ?_
      refine ab_if_ne (tgt := 175) dX4_isPeaceful_157 (by decide) (fun c29 => ?_) (fun c29 => ?_)
      · have ht := ht.1 c29
        refine ab_iload (i := 5) dX4_isPeaceful_175 rfl ?_
        refine ab_aload_n (i := 0) dX4_isPeaceful_177 rfl rfl ?_
        refine ab_getR (b := 81) f_X4_47 rfl (sh_k hs 74 4 (by decide) rfl) (sh_r hs 98 rfl) dX4_isPeaceful_178 ?_
        refine ab_iload (i := 4) dX4_isPeaceful_181 rfl ?_
        obtain ⟨hc30, ht⟩ := ht
        refine ab_iald (sh_k hs 81 14 (by decide) rfl) hc30 dX4_isPeaceful_183 ?_
        refine ab_iconst (v := 1) dX4_isPeaceful_184 (by decide) ?_
        refine ab_iadd dX4_isPeaceful_185 ?_
        refine ab_ishr dX4_isPeaceful_186 ?_
        refine ab_iconst (v := 1) dX4_isPeaceful_187 (by decide) ?_
        refine ab_iand dX4_isPeaceful_188 ?_
        refine ab_if_eq (tgt := 194) dX4_isPeaceful_189 (by decide) (fun c31 => ?_) (fun c31 => ?_)
        · have ht := ht.1 c31
          refine ab_iinc (i := 4) (x := x4) (v := (x4 + 1)) (L' := [some (.ref 74), none, some (.int x2), some (.int x3), some (.int (x4 + 1)), some (.int (ah_i h 79 (Int32.toNatClampNeg ((x2 * 12) + x4))))]) dX4_isPeaceful_194 rfl rfl (by exact (Nat.le_of_ble_eq_true rfl)) rfl rfl ?_
          refine ab_goto (tgt := 127) dX4_isPeaceful_197 (by decide) ?_
          exact Wp.fewer (L' := [some (.ref 74), none, some (.int x2), some (.int x3), some (.int (x4 + 1)), none]) (show ab_leL _ _ from ⟨rfl, ⟨rfl, ⟨rfl, ⟨rfl, trivial⟩⟩⟩⟩) ht
        · have ht := ht.2 c31
          refine ab_iconst (v := 0) dX4_isPeaceful_192 (by decide) ?_
          exact ab_zret rfl rfl dX4_isPeaceful_193 (Nat.le_of_ble_eq_true rfl) (Nat.le_of_ble_eq_true rfl) ht
      · have ht := ht.2 c29
        refine ab_aload_n (i := 0) dX4_isPeaceful_160 rfl rfl ?_
        refine ab_getR (b := 80) f_X4_44 rfl (sh_k hs 74 4 (by decide) rfl) (sh_r hs 97 rfl) dX4_isPeaceful_161 ?_
        refine ab_iload_n (i := 2) dX4_isPeaceful_164 rfl rfl ?_
        refine ab_aload_n (i := 0) dX4_isPeaceful_165 rfl rfl ?_
        refine ab_getR (b := 81) f_X4_47 rfl (sh_k hs 74 4 (by decide) rfl) (sh_r hs 98 rfl) dX4_isPeaceful_166 ?_
        refine ab_iconst (v := 0) dX4_isPeaceful_169 (by decide) ?_
        refine ab_callS (As := [.ref 80, .int x2, .ref 81, .int 0]) ht (Y_X6_spread) l_X4_205 st_X6_spread rfl ⟨(Nat.le_of_ble_eq_true rfl), (Nat.le_of_ble_eq_true rfl), (Nat.le_of_ble_eq_true rfl), (Nat.le_of_ble_eq_true rfl)⟩ dX4_isPeaceful_170 ?_
        rintro _ h32 ⟨rfl, hs33, ht⟩
        refine ab_iconst (v := 1) dX4_isPeaceful_173 (by decide) ?_
        refine ab_istore_n (i := 3) (L' := [some (.ref 74), none, some (.int x2), some (.int 1), some (.int x4), some (.int (ah_i h 79 (Int32.toNatClampNeg ((x2 * 12) + x4))))]) dX4_isPeaceful_174 rfl (by exact (Nat.le_of_ble_eq_true rfl)) rfl rfl ?_
        refine ab_iload (i := 5) dX4_isPeaceful_175 rfl ?_
        refine ab_aload_n (i := 0) dX4_isPeaceful_177 rfl rfl ?_
        refine ab_getR (b := 81) f_X4_47 rfl (sh_k hs33 74 4 (by decide) rfl) (sh_r hs33 98 rfl) dX4_isPeaceful_178 ?_
        refine ab_iload (i := 4) dX4_isPeaceful_181 rfl ?_
        obtain ⟨hc35, ht⟩ := ht
        refine ab_iald (sh_k hs33 81 14 (by decide) rfl) hc35 dX4_isPeaceful_183 ?_
        refine ab_iconst (v := 1) dX4_isPeaceful_184 (by decide) ?_
        refine ab_iadd dX4_isPeaceful_185 ?_
        refine ab_ishr dX4_isPeaceful_186 ?_
        refine ab_iconst (v := 1) dX4_isPeaceful_187 (by decide) ?_
        refine ab_iand dX4_isPeaceful_188 ?_
        refine ab_if_eq (tgt := 194) dX4_isPeaceful_189 (by decide) (fun c36 => ?_) (fun c36 => ?_)
        · have ht := ht.1 c36
          refine ab_iinc (i := 4) (x := x4) (v := (x4 + 1)) (L' := [some (.ref 74), none, some (.int x2), some (.int 1), some (.int (x4 + 1)), some (.int (ah_i h 79 (Int32.toNatClampNeg ((x2 * 12) + x4))))]) dX4_isPeaceful_194 rfl rfl (by exact (Nat.le_of_ble_eq_true rfl)) rfl rfl ?_
          refine ab_goto (tgt := 127) dX4_isPeaceful_197 (by decide) ?_
          exact Wp.fewer (L' := [some (.ref 74), none, some (.int x2), some (.int 1), some (.int (x4 + 1)), none]) (show ab_leL _ _ from ⟨rfl, ⟨rfl, ⟨rfl, ⟨rfl, trivial⟩⟩⟩⟩) ht
        · have ht := ht.2 c36
          refine ab_iconst (v := 0) dX4_isPeaceful_192 (by decide) ?_
          exact ab_zret rfl rfl dX4_isPeaceful_193 (Nat.le_of_ble_eq_true rfl) (Nat.le_of_ble_eq_true rfl) ht
    · have ht := ht.2 c28
      refine ab_goto (tgt := 194) dX4_isPeaceful_153 (by decide) ?_
      refine ab_iinc (i := 4) (x := x4) (v := (x4 + 1)) (L' := [some (.ref 74), none, some (.int x2), some (.int x3), some (.int (x4 + 1)), some (.int (ah_i h 79 (Int32.toNatClampNeg ((x2 * 12) + x4))))]) dX4_isPeaceful_194 rfl rfl (by exact (Nat.le_of_ble_eq_true rfl)) rfl rfl ?_
      refine ab_goto (tgt := 127) dX4_isPeaceful_197 (by decide) ?_
      exact Wp.fewer (L' := [some (.ref 74), none, some (.int x2), some (.int x3), some (.int (x4 + 1)), none]) (show ab_leL _ _ from ⟨rfl, ⟨rfl, ⟨rfl, ⟨rfl, trivial⟩⟩⟩⟩) ht
set_option maxRecDepth 20000 in
theorem T_X4_isPeaceful {Q : Option Value → ah_T → Prop} {h : ah_T} (hs : Sh h) (x1 : Int32) (ht : ((Int32.toNatClampNeg 0) + (Int32.toNatClampNeg 12) ≤ ah_n h 31) ∧ ((Int32.toNatClampNeg 0) + (Int32.toNatClampNeg 12) ≤ ah_n h 80) ∧ (∀ h3, h3 = ah_sa h 80 (va_cpy (ah_i h 31) (ah_i h 80) (Int32.toNatClampNeg 0) (Int32.toNatClampNeg 0) (Int32.toNatClampNeg 12)) → Wp mX4_isPeaceful Q 0 0 20 [some (.ref 74), some (.int x1), some (.int 0), none, none, none] [] h3)) : Mt mX4_isPeaceful [.ref 74, .int x1] h Q := by
  refine Mt.ofWp rfl (by exact (Nat.le_of_ble_eq_true rfl)) (Wp.fewer (L' := [some (.ref 74), some (.int x1), none, none, none, none]) (show ab_leL _ _ from ⟨rfl, ⟨rfl, trivial⟩⟩) ?_)
  refine ab_aload_n (i := 0) dX4_isPeaceful_0 rfl rfl ?_
  refine ab_getR (b := 29) f_X4_54 rfl (sh_k hs 74 4 (by decide) rfl) (sh_r hs 90 rfl) dX4_isPeaceful_1 ?_
  refine ab_getR (b := 31) f_X4_198 rfl (sh_k hs 29 6 (by decide) rfl) (sh_r hs 35 rfl) dX4_isPeaceful_4 ?_
  refine ab_iconst (v := 0) dX4_isPeaceful_7 (by decide) ?_
  refine ab_aload_n (i := 0) dX4_isPeaceful_8 rfl rfl ?_
  refine ab_getR (b := 80) f_X4_44 rfl (sh_k hs 74 4 (by decide) rfl) (sh_r hs 97 rfl) dX4_isPeaceful_9 ?_
  refine ab_iconst (v := 0) dX4_isPeaceful_12 (by decide) ?_
  refine ab_bipush (v := 12) dX4_isPeaceful_13 (by decide) ?_
  obtain ⟨hc1, ht⟩ := ht
  obtain ⟨hc2, ht⟩ := ht
  refine ab_copy (tb_6 (List.mem_of_getElem? (i := 94) (by decide +kernel)) rfl) na_copy st_copy in_sys (sh_k hs 31 14 (by decide) rfl) (sh_k hs 80 14 (by decide) rfl) (by decide) (by decide) (by decide) hc1 hc2 (Nat.le_of_ble_eq_true rfl) (Nat.le_of_ble_eq_true rfl) dX4_isPeaceful_15 ?_
  refine Wp.nm fun h3 e4 => ?_
  have ht := ht h3 e4
  have hs5 : Sh h3 := by rw [e4]; exact sh_sa hs
  refine ab_iconst (v := 0) dX4_isPeaceful_18 (by decide) ?_
  refine ab_istore_n (i := 2) (L' := [some (.ref 74), some (.int x1), some (.int 0), none, none, none]) dX4_isPeaceful_19 rfl (by exact (Nat.le_of_ble_eq_true rfl)) rfl rfl ?_
  exact Wp.fewer (L' := [some (.ref 74), some (.int x1), some (.int 0), none, none, none]) (show ab_leL _ _ from ⟨rfl, ⟨rfl, ⟨rfl, trivial⟩⟩⟩) ht
