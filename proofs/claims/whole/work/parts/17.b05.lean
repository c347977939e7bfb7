/-! ===== blocks of methods (printed by wip/whole/mkall.py) ===== -/
theorem dX5_split_0 : decode cX5_split 0 = .ok (.iconst 0, 1) := by decide +kernel
theorem dX5_split_1 : decode cX5_split 1 = .ok (.istore_n 3, 1) := by decide +kernel
theorem dX5_split_2 : decode cX5_split 2 = .ok (.iconst 0, 1) := by decide +kernel
theorem dX5_split_3 : decode cX5_split 3 = .ok (.istore 4, 2) := by decide +kernel
theorem dX5_split_5 : decode cX5_split 5 = .ok (.iconst 0, 1) := by decide +kernel
theorem dX5_split_6 : decode cX5_split 6 = .ok (.istore 5, 2) := by decide +kernel
theorem dX5_split_8 : decode cX5_split 8 = .ok (.iload 5, 2) := by decide +kernel
theorem dX5_split_10 : decode cX5_split 10 = .ok (.sipush 400, 3) := by decide +kernel
theorem dX5_split_13 : decode cX5_split 13 = .ok (.if_icmp .ge 127, 3) := by decide +kernel
theorem dX5_split_16 : decode cX5_split 16 = .ok (.iload 4, 2) := by decide +kernel
theorem dX5_split_18 : decode cX5_split 18 = .ok (.iload_n 2, 1) := by decide +kernel
theorem dX5_split_19 : decode cX5_split 19 = .ok (.if_icmp .ge 121, 3) := by decide +kernel
theorem dX5_split_22 : decode cX5_split 22 = .ok (.iload 4, 2) := by decide +kernel
theorem dX5_split_24 : decode cX5_split 24 = .ok (.istore 6, 2) := by decide +kernel
theorem dX5_split_26 : decode cX5_split 26 = .ok (.aload_n 1, 1) := by decide +kernel
theorem dX5_split_27 : decode cX5_split 27 = .ok (.iload 4, 2) := by decide +kernel
theorem dX5_split_29 : decode cX5_split 29 = .ok (.iaload, 1) := by decide +kernel
theorem dX5_split_30 : decode cX5_split 30 = .ok (.invokestatic 79, 3) := by decide +kernel
theorem dX5_split_33 : decode cX5_split 33 = .ok (.istore 7, 2) := by decide +kernel
theorem dX5_split_35 : decode cX5_split 35 = .ok (.iinc 4 1, 3) := by decide +kernel
theorem dX5_split_38 : decode cX5_split 38 = .ok (.iload 7, 2) := by decide +kernel
theorem dX5_split_40 : decode cX5_split 40 = .ok (.iconst 1, 1) := by decide +kernel
theorem dX5_split_41 : decode cX5_split 41 = .ok (.if_icmp .le 27, 3) := by decide +kernel
theorem dX5_split_44 : decode cX5_split 44 = .ok (.iload 4, 2) := by decide +kernel
theorem dX5_split_46 : decode cX5_split 46 = .ok (.iload_n 2, 1) := by decide +kernel
theorem dX5_split_47 : decode cX5_split 47 = .ok (.if_icmp .ge 21, 3) := by decide +kernel
theorem dX5_split_50 : decode cX5_split 50 = .ok (.aload_n 1, 1) := by decide +kernel
theorem dX5_split_51 : decode cX5_split 51 = .ok (.iload 4, 2) := by decide +kernel
theorem dX5_split_53 : decode cX5_split 53 = .ok (.iaload, 1) := by decide +kernel
theorem dX5_split_54 : decode cX5_split 54 = .ok (.invokestatic 79, 3) := by decide +kernel
theorem dX5_split_57 : decode cX5_split 57 = .ok (.iload 7, 2) := by decide +kernel
theorem dX5_split_59 : decode cX5_split 59 = .ok (.if_icmp .ne 9, 3) := by decide +kernel
theorem dX5_split_62 : decode cX5_split 62 = .ok (.iinc 4 1, 3) := by decide +kernel
theorem dX5_split_65 : decode cX5_split 65 = .ok (.goto (-27), 3) := by decide +kernel
theorem dX5_split_68 : decode cX5_split 68 = .ok (.iload 7, 2) := by decide +kernel
theorem dX5_split_70 : decode cX5_split 70 = .ok (.ifCond .ne 6, 3) := by decide +kernel
theorem dX5_split_73 : decode cX5_split 73 = .ok (.goto 61, 3) := by decide +kernel
theorem dX5_split_76 : decode cX5_split 76 = .ok (.aload_n 0, 1) := by decide +kernel
theorem dX5_split_77 : decode cX5_split 77 = .ok (.getfield 19, 3) := by decide +kernel
theorem dX5_split_80 : decode cX5_split 80 = .ok (.iload_n 3, 1) := by decide +kernel
theorem dX5_split_81 : decode cX5_split 81 = .ok (.iload 6, 2) := by decide +kernel
theorem dX5_split_83 : decode cX5_split 83 = .ok (.iastore, 1) := by decide +kernel
theorem dX5_split_84 : decode cX5_split 84 = .ok (.aload_n 0, 1) := by decide +kernel
theorem dX5_split_85 : decode cX5_split 85 = .ok (.getfield 15, 3) := by decide +kernel
theorem dX5_split_88 : decode cX5_split 88 = .ok (.iload_n 3, 1) := by decide +kernel
theorem dX5_split_89 : decode cX5_split 89 = .ok (.iload 7, 2) := by decide +kernel
theorem dX5_split_91 : decode cX5_split 91 = .ok (.iconst 1, 1) := by decide +kernel
theorem dX5_split_92 : decode cX5_split 92 = .ok (.if_icmp .ne 13, 3) := by decide +kernel
theorem dX5_split_95 : decode cX5_split 95 = .ok (.bipush 100, 2) := by decide +kernel
theorem dX5_split_97 : decode cX5_split 97 = .ok (.aload_n 1, 1) := by decide +kernel
theorem dX5_split_98 : decode cX5_split 98 = .ok (.iload 6, 2) := by decide +kernel
theorem dX5_split_100 : decode cX5_split 100 = .ok (.iaload, 1) := by decide +kernel
theorem dX5_split_101 : decode cX5_split 101 = .ok (.iadd, 1) := by decide +kernel
theorem dX5_split_102 : decode cX5_split 102 = .ok (.goto 28, 3) := by decide +kernel
theorem dX5_split_105 : decode cX5_split 105 = .ok (.iload 7, 2) := by decide +kernel
theorem dX5_split_107 : decode cX5_split 107 = .ok (.iconst 2, 1) := by decide +kernel
theorem dX5_split_108 : decode cX5_split 108 = .ok (.if_icmp .ne 14, 3) := by decide +kernel
theorem dX5_split_111 : decode cX5_split 111 = .ok (.aload_n 1, 1) := by decide +kernel
theorem dX5_split_112 : decode cX5_split 112 = .ok (.iload 6, 2) := by decide +kernel
theorem dX5_split_114 : decode cX5_split 114 = .ok (.iload 4, 2) := by decide +kernel
theorem dX5_split_116 : decode cX5_split 116 = .ok (.invokestatic 83, 3) := by decide +kernel
theorem dX5_split_119 : decode cX5_split 119 = .ok (.goto 11, 3) := by decide +kernel
theorem dX5_split_122 : decode cX5_split 122 = .ok (.aload_n 1, 1) := by decide +kernel
theorem dX5_split_123 : decode cX5_split 123 = .ok (.iload 6, 2) := by decide +kernel
theorem dX5_split_125 : decode cX5_split 125 = .ok (.iload 4, 2) := by decide +kernel
theorem dX5_split_127 : decode cX5_split 127 = .ok (.invokestatic 87, 3) := by decide +kernel
theorem dX5_split_130 : decode cX5_split 130 = .ok (.iastore, 1) := by decide +kernel
theorem dX5_split_131 : decode cX5_split 131 = .ok (.iinc 3 1, 3) := by decide +kernel
theorem dX5_split_134 : decode cX5_split 134 = .ok (.iinc 5 1, 3) := by decide +kernel
theorem dX5_split_137 : decode cX5_split 137 = .ok (.goto (-129), 3) := by decide +kernel
theorem dX5_split_140 : decode cX5_split 140 = .ok (.aload_n 0, 1) := by decide +kernel
theorem dX5_split_141 : decode cX5_split 141 = .ok (.getfield 15, 3) := by decide +kernel
theorem dX5_split_144 : decode cX5_split 144 = .ok (.iload_n 3, 1) := by decide +kernel
theorem dX5_split_145 : decode cX5_split 145 = .ok (.bipush 99, 2) := by decide +kernel
theorem dX5_split_147 : decode cX5_split 147 = .ok (.iastore, 1) := by decide +kernel
theorem dX5_split_148 : decode cX5_split 148 = .ok (.aload_n 0, 1) := by decide +kernel
theorem dX5_split_149 : decode cX5_split 149 = .ok (.getfield 19, 3) := by decide +kernel
theorem dX5_split_152 : decode cX5_split 152 = .ok (.iload_n 3, 1) := by decide +kernel
theorem dX5_split_153 : decode cX5_split 153 = .ok (.iload_n 2, 1) := by decide +kernel
theorem dX5_split_154 : decode cX5_split 154 = .ok (.iastore, 1) := by decide +kernel
theorem dX5_split_155 : decode cX5_split 155 = .ok (.return_, 1) := by decide +kernel
set_option maxRecDepth 20000 in
theorem T_X5_split_8 {Q : Option Value → ah_T → Prop} {h : ah_T} (hs : Sh h) (a1 : Nat) (x2 : Int32) (x3 : Int32) (x4 : Int32) (x5 : Int32) (hk_a1 : ah_k h a1 = 14) (ht : ((400 ≤ x5 → (vp_in x3 (ah_n h 21)) ∧ (∀ h3, h3 = ah_si h 21 (Int32.toNatClampNeg x3) 99 → (vp_in x3 (ah_n h3 22)) ∧ (∀ h8, h8 = ah_si h3 22 (Int32.toNatClampNeg x3) x2 → Q none h8))) ∧ (¬ 400 ≤ x5 → ((x2 ≤ x4 → (vp_in x3 (ah_n h 21)) ∧ (∀ h14, h14 = ah_si h 21 (Int32.toNatClampNeg x3) 99 → (vp_in x3 (ah_n h14 22)) ∧ (∀ h19, h19 = ah_si h14 22 (Int32.toNatClampNeg x3) x2 → Q none h19))) ∧ (¬ x2 ≤ x4 → (vp_in x4 (ah_n h a1)) ∧ Wp mX5_split Q 0 0 38 [some (.ref 20), some (.ref a1), some (.int x2), some (.int x3), some (.int (x4 + 1)), some (.int x5), some (.int x4), some (.int (f_X5_kindOf (ah_i h a1 (Int32.toNatClampNeg x4))))] [] h))))) : Wp mX5_split Q 0 0 8 [some (.ref 20), some (.ref a1), some (.int x2), some (.int x3), some (.int x4), some (.int x5), none, none] [] h := by
  refine ab_iload (i := 5) dX5_split_8 rfl ?_
  refine ab_sipush (v := 400) dX5_split_10 (by decide) ?_
  refine ab_icmp_ge (tgt := 140) dX5_split_13 (by decide) (fun c1 => ?_) (fun c1 => ?_)
  · have ht := ht.1 c1
    refine ab_aload_n (i := 0) dX5_split_140 rfl rfl ?_
    refine ab_getR (b := 21) f_X5_15 rfl (sh_k hs 20 5 (by decide) rfl) (sh_r hs 27 rfl) dX5_split_141 ?_
    refine ab_iload_n (i := 3) dX5_split_144 rfl rfl ?_
    refine ab_bipush (v := 99) dX5_split_145 (by decide) ?_
    obtain ⟨hc2, ht⟩ := ht
    refine ab_iast (sh_k hs 21 14 (by decide) rfl) hc2 dX5_split_147 ?_
    refine Wp.nm fun h3 e4 => ?_
    have ht := ht h3 e4
    have hs5 : Sh h3 := by rw [e4]; exact sh_si hs
    have hk6 : ah_k h3 a1 = 14 := by rw [e4]; exact hk_a1
    refine ab_aload_n (i := 0) dX5_split_148 rfl rfl ?_
    refine ab_getR (b := 22) f_X5_19 rfl (sh_k hs5 20 5 (by decide) rfl) (sh_r hs5 28 rfl) dX5_split_149 ?_
    refine ab_iload_n (i := 3) dX5_split_152 rfl rfl ?_
    refine ab_iload_n (i := 2) dX5_split_153 rfl rfl ?_
    obtain ⟨hc7, ht⟩ := ht
    refine ab_iast (sh_k hs5 22 14 (by decide) rfl) hc7 dX5_split_154 ?_
    refine Wp.nm fun h8 e9 => ?_
    have ht := ht h8 e9
    have hs10 : Sh h8 := by rw [e9]; exact sh_si hs5
    have hk11 : ah_k h8 a1 = 14 := by rw [e9]; exact hk6
    exact ab_vret rfl dX5_split_155 (Nat.le_of_ble_eq_true rfl) (Nat.le_of_ble_eq_true rfl) ht
  · have ht := ht.2 c1
    refine ab_iload (i := 4) dX5_split_16 rfl ?_
    refine ab_iload_n (i := 2) dX5_split_18 rfl rfl ?_
    refine ab_icmp_ge (tgt := 140) dX5_split_19 (by decide) (fun c12 => ?_) (fun c12 => ?_)
    · have ht := ht.1 c12
      refine ab_aload_n (i := 0) dX5_split_140 rfl rfl ?_
      refine ab_getR (b := 21) f_X5_15 rfl (sh_k hs 20 5 (by decide) rfl) (sh_r hs 27 rfl) dX5_split_141 ?_
      refine ab_iload_n (i := 3) dX5_split_144 rfl rfl ?_
      refine ab_bipush (v := 99) dX5_split_145 (by decide) ?_
      obtain ⟨hc13, ht⟩ := ht
      refine ab_iast (sh_k hs 21 14 (by decide) rfl) hc13 dX5_split_147 ?_
      refine Wp.nm fun h14 e15 => ?_
      have ht := ht h14 e15
      have hs16 : Sh h14 := by rw [e15]; exact sh_si hs
      have hk17 : ah_k h14 a1 = 14 := by rw [e15]; exact hk_a1
      refine ab_aload_n (i := 0) dX5_split_148 rfl rfl ?_
      refine ab_getR (b := 22) f_X5_19 rfl (sh_k hs16 20 5 (by decide) rfl) (sh_r hs16 28 rfl) dX5_split_149 ?_
      refine ab_iload_n (i := 3) dX5_split_152 rfl rfl ?_
      refine ab_iload_n (i := 2) dX5_split_153 rfl rfl ?_
      obtain ⟨hc18, ht⟩ := ht
      refine ab_iast (sh_k hs16 22 14 (by decide) rfl) hc18 dX5_split_154 ?_
      refine Wp.nm fun h19 e20 => ?_
      have ht := ht h19 e20
      have hs21 : Sh h19 := by rw [e20]; exact sh_si hs16
      have hk22 : ah_k h19 a1 = 14 := by rw [e20]; exact hk17
      exact ab_vret rfl dX5_split_155 (Nat.le_of_ble_eq_true rfl) (Nat.le_of_ble_eq_true rfl) ht
    · have ht := ht.2 c12
      refine ab_iload (i := 4) dX5_split_22 rfl ?_
      refine ab_istore (i := 6) (L' := [some (.ref 20), some (.ref a1), some (.int x2), some (.int x3), some (.int x4), some (.int x5), some (.int x4), none]) dX5_split_24 (by exact (Nat.le_of_ble_eq_true rfl)) rfl rfl ?_
      refine ab_aload_n (i := 1) dX5_split_26 rfl rfl ?_
      refine ab_iload (i := 4) dX5_split_27 rfl ?_
      obtain ⟨hc23, ht⟩ := ht
      refine ab_iald hk_a1 hc23 dX5_split_29 ?_
      refine ab_callS (Q' := fun r h' => r = some (.int (f_X5_kindOf (ah_i h a1 (Int32.toNatClampNeg x4)))) ∧ h = h') (As := [.int (ah_i h a1 (Int32.toNatClampNeg x4))]) (c_X5_kindOf hs (ah_i h a1 (Int32.toNatClampNeg x4)) ⟨rfl, rfl⟩) (Y_X5_kindOf) l_X5_79 st_X5_kindOf rfl ⟨(Nat.le_of_ble_eq_true rfl), (Nat.le_of_ble_eq_true rfl), (Nat.le_of_ble_eq_true rfl), (Nat.le_of_ble_eq_true rfl)⟩ dX5_split_30 ?_
      rintro _ _ ⟨rfl, rfl⟩
      refine ab_istore (i := 7) (L' := [some (.ref 20), some (.ref a1), some (.int x2), some (.int x3), some (.int x4), some (.int x5), some (.int x4), some (.int (f_X5_kindOf (ah_i h a1 (Int32.toNatClampNeg x4))))]) dX5_split_33 (by exact (Nat.le_of_ble_eq_true rfl)) rfl rfl ?_
      refine ab_iinc (i := 4) (x := x4) (v := (x4 + 1)) (L' := [some (.ref 20), some (.ref a1), some (.int x2), some (.int x3), some (.int (x4 + 1)), some (.int x5), some (.int x4), some (.int (f_X5_kindOf (ah_i h a1 (Int32.toNatClampNeg x4))))]) dX5_split_35 rfl rfl (by exact (Nat.le_of_ble_eq_true rfl)) rfl rfl ?_
      exact Wp.fewer (L' := [some (.ref 20), some (.ref a1), some (.int x2), some (.int x3), some (.int (x4 + 1)), some (.int x5), some (.int x4), some (.int (f_X5_kindOf (ah_i h a1 (Int32.toNatClampNeg x4))))]) (show ab_leL _ _ from ⟨rfl, ⟨rfl, ⟨rfl, ⟨rfl, ⟨rfl, ⟨rfl, ⟨rfl, ⟨rfl, trivial⟩⟩⟩⟩⟩⟩⟩⟩) ht
set_option maxRecDepth 20000 in
theorem T_X5_split_38 {Q : Option Value → ah_T → Prop} {h : ah_T} (hs : Sh h) (a1 : Nat) (x2 : Int32) (x3 : Int32) (x4 : Int32) (x5 : Int32) (x6 : Int32) (x7 : Int32) (hk_a1 : ah_k h a1 = 14) (ht : ((x7 ≤ 1 → ((¬ x7 = 0 → (vp_in x3 (ah_n h 22)) ∧ (∀ h27, h27 = ah_si h 22 (Int32.toNatClampNeg x3) x6 → ((¬ x7 = 1 → ((¬ x7 = 2 → (Mt mX5_wordIn [.ref a1, .int x6, .int x4] h27 (ab_qi fun v35 h33 => Sh h33 ∧ ah_k h33 a1 = 14 ∧ (vp_in x3 (ah_n h33 21)) ∧ (∀ h38, h38 = ah_si h33 21 (Int32.toNatClampNeg x3) v35 → Wp mX5_split Q 0 0 8 [some (.ref 20), some (.ref a1), some (.int x2), some (.int (x3 + 1)), some (.int x4), some (.int (x5 + 1)), none, none] [] h38)))) ∧ (x7 = 2 → (Mt mX5_numberIn [.ref a1, .int x6, .int x4] h27 (ab_qi fun v44 h42 => Sh h42 ∧ ah_k h42 a1 = 14 ∧ (vp_in x3 (ah_n h42 21)) ∧ (∀ h47, h47 = ah_si h42 21 (Int32.toNatClampNeg x3) v44 → Wp mX5_split Q 0 0 8 [some (.ref 20), some (.ref a1), some (.int x2), some (.int (x3 + 1)), some (.int x4), some (.int (x5 + 1)), none, none] [] h47)))))) ∧ (x7 = 1 → (vp_in x6 (ah_n h27 a1)) ∧ (vp_in x3 (ah_n h27 21)) ∧ (∀ h53, h53 = ah_si h27 21 (Int32.toNatClampNeg x3) (100 + (ah_i h27 a1 (Int32.toNatClampNeg x6))) → Wp mX5_split Q 0 0 8 [some (.ref 20), some (.ref a1), some (.int x2), some (.int (x3 + 1)), some (.int x4), some (.int (x5 + 1)), none, none] [] h53))))) ∧ (x7 = 0 → Wp mX5_split Q 0 0 8 [some (.ref 20), some (.ref a1), some (.int x2), some (.int x3), some (.int x4), some (.int (x5 + 1)), none, none] [] h))) ∧ (¬ x7 ≤ 1 → ((x2 ≤ x4 → ((¬ x7 = 0 → (vp_in x3 (ah_n h 22)) ∧ (∀ h60, h60 = ah_si h 22 (Int32.toNatClampNeg x3) x6 → ((¬ x7 = 1 → ((¬ x7 = 2 → (Mt mX5_wordIn [.ref a1, .int x6, .int x4] h60 (ab_qi fun v68 h66 => Sh h66 ∧ ah_k h66 a1 = 14 ∧ (vp_in x3 (ah_n h66 21)) ∧ (∀ h71, h71 = ah_si h66 21 (Int32.toNatClampNeg x3) v68 → Wp mX5_split Q 0 0 8 [some (.ref 20), some (.ref a1), some (.int x2), some (.int (x3 + 1)), some (.int x4), some (.int (x5 + 1)), none, none] [] h71)))) ∧ (x7 = 2 → (Mt mX5_numberIn [.ref a1, .int x6, .int x4] h60 (ab_qi fun v77 h75 => Sh h75 ∧ ah_k h75 a1 = 14 ∧ (vp_in x3 (ah_n h75 21)) ∧ (∀ h80, h80 = ah_si h75 21 (Int32.toNatClampNeg x3) v77 → Wp mX5_split Q 0 0 8 [some (.ref 20), some (.ref a1), some (.int x2), some (.int (x3 + 1)), some (.int x4), some (.int (x5 + 1)), none, none] [] h80)))))) ∧ (x7 = 1 → (vp_in x6 (ah_n h60 a1)) ∧ (vp_in x3 (ah_n h60 21)) ∧ (∀ h86, h86 = ah_si h60 21 (Int32.toNatClampNeg x3) (100 + (ah_i h60 a1 (Int32.toNatClampNeg x6))) → Wp mX5_split Q 0 0 8 [some (.ref 20), some (.ref a1), some (.int x2), some (.int (x3 + 1)), some (.int x4), some (.int (x5 + 1)), none, none] [] h86))))) ∧ (x7 = 0 → Wp mX5_split Q 0 0 8 [some (.ref 20), some (.ref a1), some (.int x2), some (.int x3), some (.int x4), some (.int (x5 + 1)), none, none] [] h))) ∧ (¬ x2 ≤ x4 → (vp_in x4 (ah_n h a1)) ∧ ((¬ (f_X5_kindOf (ah_i h a1 (Int32.toNatClampNeg x4))) = x7 → ((¬ x7 = 0 → (vp_in x3 (ah_n h 22)) ∧ (∀ h94, h94 = ah_si h 22 (Int32.toNatClampNeg x3) x6 → ((¬ x7 = 1 → ((¬ x7 = 2 → (Mt mX5_wordIn [.ref a1, .int x6, .int x4] h94 (ab_qi fun v102 h100 => Sh h100 ∧ ah_k h100 a1 = 14 ∧ (vp_in x3 (ah_n h100 21)) ∧ (∀ h105, h105 = ah_si h100 21 (Int32.toNatClampNeg x3) v102 → Wp mX5_split Q 0 0 8 [some (.ref 20), some (.ref a1), some (.int x2), some (.int (x3 + 1)), some (.int x4), some (.int (x5 + 1)), none, none] [] h105)))) ∧ (x7 = 2 → (Mt mX5_numberIn [.ref a1, .int x6, .int x4] h94 (ab_qi fun v111 h109 => Sh h109 ∧ ah_k h109 a1 = 14 ∧ (vp_in x3 (ah_n h109 21)) ∧ (∀ h114, h114 = ah_si h109 21 (Int32.toNatClampNeg x3) v111 → Wp mX5_split Q 0 0 8 [some (.ref 20), some (.ref a1), some (.int x2), some (.int (x3 + 1)), some (.int x4), some (.int (x5 + 1)), none, none] [] h114)))))) ∧ (x7 = 1 → (vp_in x6 (ah_n h94 a1)) ∧ (vp_in x3 (ah_n h94 21)) ∧ (∀ h120, h120 = ah_si h94 21 (Int32.toNatClampNeg x3) (100 + (ah_i h94 a1 (Int32.toNatClampNeg x6))) → Wp mX5_split Q 0 0 8 [some (.ref 20), some (.ref a1), some (.int x2), some (.int (x3 + 1)), some (.int x4), some (.int (x5 + 1)), none, none] [] h120))))) ∧ (x7 = 0 → Wp mX5_split Q 0 0 8 [some (.ref 20), some (.ref a1), some (.int x2), some (.int x3), some (.int x4), some (.int (x5 + 1)), none, none] [] h))) ∧ ((f_X5_kindOf (ah_i h a1 (Int32.toNatClampNeg x4))) = x7 → Wp mX5_split Q 0 0 38 [some (.ref 20), some (.ref a1), some (.int x2), some (.int x3), some (.int (x4 + 1)), some (.int x5), some (.int x6), some (.int x7)] [] h))))))) : Wp mX5_split Q 0 0 38 [some (.ref 20), some (.ref a1), some (.int x2), some (.int x3), some (.int x4), some (.int x5), some (.int x6), some (.int x7)] [] h := by
  refine ab_iload (i := 7) dX5_split_38 rfl ?_
  refine ab_iconst (v := 1) dX5_split_40 (by decide) ?_
  refine ab_icmp_le (tgt := 68) dX5_split_41 (by decide) (fun c24 => ?_) (fun c24 => ?_)
  · have ht := ht.1 c24
    refine ab_iload (i := 7) dX5_split_68 rfl ?_
    refine ab_if_ne (tgt := 76) dX5_split_70 (by decide) (fun c25 => ?_) (fun c25 => ?_)
    · have ht := ht.1 c25
      refine ab_aload_n (i := 0) dX5_split_76 rfl rfl ?_
      refine ab_getR (b := 22) f_X5_19 rfl (sh_k hs 20 5 (by decide) rfl) (sh_r hs 28 rfl) dX5_split_77 ?_
      refine ab_iload_n (i := 3) dX5_split_80 rfl rfl ?_
      refine ab_iload (i := 6) dX5_split_81 rfl ?_
      obtain ⟨hc26, ht⟩ := ht
      refine ab_iast (sh_k hs 22 14 (by decide) rfl) hc26 dX5_split_83 ?_
      refine Wp.nm fun h27 e28 => ?_
      have ht := ht h27 e28
      have hs29 : Sh h27 := by rw [e28]; exact sh_si hs
      have hk30 : ah_k h27 a1 = 14 := by rw [e28]; exact hk_a1
      refine ab_aload_n (i := 0) dX5_split_84 rfl rfl ?_
      refine ab_getR (b := 21) f_X5_15 rfl (sh_k hs29 20 5 (by decide) rfl) (sh_r hs29 27 rfl) dX5_split_85 ?_
      refine ab_iload_n (i := 3) dX5_split_88 rfl rfl ?_
      refine ab_iload (i := 7) dX5_split_89 rfl ?_
      refine ab_iconst (v := 1) dX5_split_91 (by decide) ?_
      refine ab_icmp_ne (tgt := 105) dX5_split_92 (by decide) (fun c31 => ?_) (fun c31 => ?_)
      · have ht := ht.1 c31
        refine ab_iload (i := 7) dX5_split_105 rfl ?_
        refine ab_iconst (v := 2) dX5_split_107 (by decide) ?_
        refine ab_icmp_ne (tgt := 122) dX5_split_108 (by decide) (fun c32 => ?_) (fun c32 => ?_)
        · have ht := ht.1 c32
          refine ab_aload_n (i := 1) dX5_split_122 rfl rfl ?_
          refine ab_iload (i := 6) dX5_split_123 rfl ?_
          refine ab_iload (i := 4) dX5_split_125 rfl ?_
          refine ab_callS (As := [.ref a1, .int x6, .int x4]) ht (Y_X5_wordIn) l_X5_87 st_X5_wordIn rfl ⟨(Nat.le_of_ble_eq_true rfl), (Nat.le_of_ble_eq_true rfl), (Nat.le_of_ble_eq_true rfl), (Nat.le_of_ble_eq_true rfl)⟩ dX5_split_127 ?_
          rintro _ h33 ⟨v35, rfl, hs34, hk36, ht⟩
          obtain ⟨hc37, ht⟩ := ht
          refine ab_iast (sh_k hs34 21 14 (by decide) rfl) hc37 dX5_split_130 ?_
          refine Wp.nm fun h38 e39 => ?_
          have ht := ht h38 e39
          have hs40 : Sh h38 := by rw [e39]; exact sh_si hs34
          have hk41 : ah_k h38 a1 = 14 := by rw [e39]; exact hk36
          refine ab_iinc (i := 3) (x := x3) (v := (x3 + 1)) (L' := [some (.ref 20), some (.ref a1), some (.int x2), some (.int (x3 + 1)), some (.int x4), some (.int x5), some (.int x6), some (.int x7)]) dX5_split_131 rfl rfl (by exact (Nat.le_of_ble_eq_true rfl)) rfl rfl ?_
          refine ab_iinc (i := 5) (x := x5) (v := (x5 + 1)) (L' := [some (.ref 20), some (.ref a1), some (.int x2), some (.int (x3 + 1)), some (.int x4), some (.int (x5 + 1)), some (.int x6), some (.int x7)]) dX5_split_134 rfl rfl (by exact (Nat.le_of_ble_eq_true rfl)) rfl rfl ?_
          refine ab_goto (tgt := 8) dX5_split_137 (by decide) ?_
          exact Wp.fewer (L' := [some (.ref 20), some (.ref a1), some (.int x2), some (.int (x3 + 1)), some (.int x4), some (.int (x5 + 1)), none, none]) (show ab_leL _ _ from ⟨rfl, ⟨rfl, ⟨rfl, ⟨rfl, ⟨rfl, ⟨rfl, trivial⟩⟩⟩⟩⟩⟩) ht
        · have ht := ht.2 c32
          refine ab_aload_n (i := 1) dX5_split_111 rfl rfl ?_
          refine ab_iload (i := 6) dX5_split_112 rfl ?_
          refine ab_iload (i := 4) dX5_split_114 rfl ?_
          refine ab_callS (As := [.ref a1, .int x6, .int x4]) ht (Y_X5_numberIn) l_X5_83 st_X5_numberIn rfl ⟨(Nat.le_of_ble_eq_true rfl), (Nat.le_of_ble_eq_true rfl), (Nat.le_of_ble_eq_true rfl), (Nat.le_of_ble_eq_true rfl)⟩ dX5_split_116 ?_
          rintro _ h42 ⟨v44, rfl, hs43, hk45, ht⟩
          refine ab_goto (tgt := 130) dX5_split_119 (by decide) ?_
          obtain ⟨hc46, ht⟩ := ht
          refine ab_iast (sh_k hs43 21 14 (by decide) rfl) hc46 dX5_split_130 ?_
          refine Wp.nm fun h47 e48 => ?_
          have ht := ht h47 e48
          have hs49 : Sh h47 := by rw [e48]; exact sh_si hs43
          have hk50 : ah_k h47 a1 = 14 := by rw [e48]; exact hk45
          refine ab_iinc (i := 3) (x := x3) (v := (x3 + 1)) (L' := [some (.ref 20), some (.ref a1), some (.int x2), some (.int (x3 + 1)), some (.int x4), some (.int x5), some (.int x6), some (.int x7)]) dX5_split_131 rfl rfl (by exact (Nat.le_of_ble_eq_true rfl)) rfl rfl ?_
          refine ab_iinc (i := 5) (x := x5) (v := (x5 + 1)) (L' := [some (.ref 20), some (.ref a1), some (.int x2), some (.int (x3 + 1)), some (.int x4), some (.int (x5 + 1)), some (.int x6), some (.int x7)]) dX5_split_134 rfl rfl (by exact (Nat.le_of_ble_eq_true rfl)) rfl rfl ?_
          refine ab_goto (tgt := 8) dX5_split_137 (by decide) ?_
          exact Wp.fewer (L' := [some (.ref 20), some (.ref a1), some (.int x2), some (.int (x3 + 1)), some (.int x4), some (.int (x5 + 1)), none, none]) (show ab_leL _ _ from ⟨rfl, ⟨rfl, ⟨rfl, ⟨rfl, ⟨rfl, ⟨rfl, trivial⟩⟩⟩⟩⟩⟩) ht
      · have ht := ht.2 c31
        refine ab_bipush (v := 100) dX5_split_95 (by decide) ?_
        refine ab_aload_n (i := 1) dX5_split_97 rfl rfl ?_
        refine ab_iload (i := 6) dX5_split_98 rfl ?_
        obtain ⟨hc51, ht⟩ := ht
        refine ab_iald hk30 hc51 dX5_split_100 ?_
        refine ab_iadd dX5_split_101 ?_
        refine ab_goto (tgt := 130) dX5_split_102 (by decide) ?_
        obtain ⟨hc52, ht⟩ := ht
        refine ab_iast (sh_k hs29 21 14 (by decide) rfl) hc52 dX5_split_130 ?_
        refine Wp.nm fun h53 e54 => ?_
        have ht := ht h53 e54
        have hs55 : Sh h53 := by rw [e54]; exact sh_si hs29
        have hk56 : ah_k h53 a1 = 14 := by rw [e54]; exact hk30
        refine ab_iinc (i := 3) (x := x3) (v := (x3 + 1)) (L' := [some (.ref 20), some (.ref a1), some (.int x2), some (.int (x3 + 1)), some (.int x4), some (.int x5), some (.int x6), some (.int x7)]) dX5_split_131 rfl rfl (by exact (Nat.le_of_ble_eq_true rfl)) rfl rfl ?_
        refine ab_iinc (i := 5) (x := x5) (v := (x5 + 1)) (L' := [some (.ref 20), some (.ref a1), some (.int x2), some (.int (x3 + 1)), some (.int x4), some (.int (x5 + 1)), some (.int x6), some (.int x7)]) dX5_split_134 rfl rfl (by exact (Nat.le_of_ble_eq_true rfl)) rfl rfl ?_
        refine ab_goto (tgt := 8) dX5_split_137 (by decide) ?_
        exact Wp.fewer (L' := [some (.ref 20), some (.ref a1), some (.int x2), some (.int (x3 + 1)), some (.int x4), some (.int (x5 + 1)), none, none]) (show ab_leL _ _ from ⟨rfl, ⟨rfl, ⟨rfl, ⟨rfl, ⟨rfl, ⟨rfl, trivial⟩⟩⟩⟩⟩⟩) ht
    · have ht := ht.2 c25
      refine ab_goto (tgt := 134) dX5_split_73 (by decide) ?_
      refine ab_iinc (i := 5) (x := x5) (v := (x5 + 1)) (L' := [some (.ref 20), some (.ref a1), some (.int x2), some (.int x3), some (.int x4), some (.int (x5 + 1)), some (.int x6), some (.int x7)]) dX5_split_134 rfl rfl (by exact (Nat.le_of_ble_eq_true rfl)) rfl rfl ?_
      refine ab_goto (tgt := 8) dX5_split_137 (by decide) ?_
      exact Wp.fewer (L' := [some (.ref 20), some (.ref a1), some (.int x2), some (.int x3), some (.int x4), some (.int (x5 + 1)), none, none]) (show ab_leL _ _ from ⟨rfl, ⟨rfl, ⟨rfl, ⟨rfl, ⟨rfl, ⟨rfl, trivial⟩⟩⟩⟩⟩⟩) ht
  · have ht := ht.2 c24
    refine ab_iload (i := 4) dX5_split_44 rfl ?_
    refine ab_iload_n (i := 2) dX5_split_46 rfl rfl ?_
    refine ab_icmp_ge (tgt := 68) dX5_split_47 (by decide) (fun c57 => ?_) (fun c57 => ?_)
    · have ht := ht.1 c57
      refine ab_iload (i := 7) dX5_split_68 rfl ?_
      refine ab_if_ne (tgt := 76) dX5_split_70 (by decide) (fun c58 => ?_) (fun c58 => ?_)
      · have ht := ht.1 c58
        refine ab_aload_n (i := 0) dX5_split_76 rfl rfl ?_
        refine ab_getR (b := 22) f_X5_19 rfl (sh_k hs 20 5 (by decide) rfl) (sh_r hs 28 rfl) dX5_split_77 ?_
        refine ab_iload_n (i := 3) dX5_split_80 rfl rfl ?_
        refine ab_iload (i := 6) dX5_split_81 rfl ?_
        obtain ⟨hc59, ht⟩ := ht
        refine ab_iast (sh_k hs 22 14 (by decide) rfl) hc59 dX5_split_83 ?_
        refine Wp.nm fun h60 e61 => ?_
        have ht := ht h60 e61
        have hs62 : Sh h60 := by rw [e61]; exact sh_si hs
        have hk63 : ah_k h60 a1 = 14 := by rw [e61]; exact hk_a1
        refine ab_aload_n (i := 0) dX5_split_84 rfl rfl ?_
        refine ab_getR (b := 21) f_X5_15 rfl (sh_k hs62 20 5 (by decide) rfl) (sh_r hs62 27 rfl) dX5_split_85 ?_
        refine ab_iload_n (i := 3) dX5_split_88 rfl rfl ?_
        refine ab_iload (i := 7) dX5_split_89 rfl ?_
        refine ab_iconst (v := 1) dX5_split_91 (by decide) ?_
        refine ab_icmp_ne (tgt := 105) dX5_split_92 (by decide) (fun c64 => ?_) (fun c64 => ?_)
        · have ht := ht.1 c64
          refine ab_iload (i := 7) dX5_split_105 rfl ?_
          refine ab_iconst (v := 2) dX5_split_107 (by decide) ?_
          refine ab_icmp_ne (tgt := 122) dX5_split_108 (by decide) (fun c65 => ?_) (fun c65 => ?_)
          · have ht := ht.1 c65
            refine ab_aload_n (i := 1) dX5_split_122 rfl rfl ?_
            refine ab_iload (i := 6) dX5_split_123 rfl ?_
            refine ab_iload (i := 4) dX5_split_125 rfl ?_
            refine ab_callS (As := [.ref a1, .int x6, .int x4]) ht (Y_X5_wordIn) l_X5_87 st_X5_wordIn rfl ⟨(Nat.le_of_ble_eq_true rfl), (Nat.le_of_ble_eq_true rfl), (Nat.le_of_ble_eq_true rfl), (Nat.le_of_ble_eq_true rfl)⟩ dX5_split_127 ?_
            rintro _ h66 ⟨v68, rfl, hs67, hk69, ht⟩
            obtain ⟨hc70, ht⟩ := ht
            refine ab_iast (sh_k hs67 21 14 (by decide) rfl) hc70 dX5_split_130 ?_
            refine Wp.nm fun h71 e72 => ?_
            have ht := ht h71 e72
            have hs73 : Sh h71 := by rw [e72]; exact sh_si hs67
            have hk74 : ah_k h71 a1 = 14 := by rw [e72]; exact hk69
            refine ab_iinc (i := 3) (x := x3) (v := (x3 + 1)) (L' := [some (.ref 20), some (.ref a1), some (.int x2), some (.int (x3 + 1)), some (.int x4), some (.int x5), some (.int x6), some (.int x7)]) dX5_split_131 rfl rfl (by exact (Nat.le_of_ble_eq_true rfl)) rfl rfl ?_
            refine ab_iinc (i := 5) (x := x5) (v := (x5 + 1)) (L' := [some (.ref 20), some (.ref a1), some (.int x2), some (.int (x3 + 1)), some (.int x4), some (.int (x5 + 1)), some (.int x6), some (.int x7)]) dX5_split_134 rfl rfl (by exact (Nat.le_of_ble_eq_true rfl)) rfl rfl ?_
            refine ab_goto (tgt := 8) dX5_split_137 (by decide) ?_
            exact Wp.fewer (L' := [some (.ref 20), some (.ref a1), some (.int x2), some (.int (x3 + 1)), some (.int x4), some (.int (x5 + 1)), none, none]) (show ab_leL _ _ from ⟨rfl, ⟨rfl, ⟨rfl, ⟨rfl, ⟨rfl, ⟨rfl, trivial⟩⟩⟩⟩⟩⟩) ht
          · have ht := ht.2 c65
            refine ab_aload_n (i := 1) dX5_split_111 rfl rfl ?_
            refine ab_iload (i := 6) dX5_split_112 rfl ?_
            refine ab_iload (i := 4) dX5_split_114 rfl ?_
            refine ab_callS (As := [.ref a1, .int x6, .int x4]) ht (Y_X5_numberIn) l_X5_83 st_X5_numberIn rfl ⟨(Nat.le_of_ble_eq_true rfl), (Nat.le_of_ble_eq_true rfl), (Nat.le_of_ble_eq_true rfl), (Nat.le_of_ble_eq_true rfl)⟩ dX5_split_116 ?_
            rintro _ h75 ⟨v77, rfl, hs76, hk78, ht⟩
            refine ab_goto (tgt := 130) dX5_split_119 (by decide) ?_
            obtain ⟨hc79, ht⟩ := ht
            refine ab_iast (sh_k hs76 21 14 (by decide) rfl) hc79 dX5_split_130 ?_
            refine Wp.nm fun h80 e81 => ?_
            have ht := ht h80 e81
            have hs82 : Sh h80 := by rw [e81]; exact sh_si hs76
            have hk83 : ah_k h80 a1 = 14 := by rw [e81]; exact hk78
            refine ab_iinc (i := 3) (x := x3) (v := (x3 + 1)) (L' := [some (.ref 20), some (.ref a1), some (.int x2), some (.int (x3 + 1)), some (.int x4), some (.int x5), some (.int x6), some (.int x7)]) dX5_split_131 rfl rfl (by exact (Nat.le_of_ble_eq_true rfl)) rfl rfl ?_
            refine ab_iinc (i := 5) (x := x5) (v := (x5 + 1)) (L' := [some (.ref 20), some (.ref a1), some (.int x2), some (.int (x3 + 1)), some (.int x4), some (.int (x5 + 1)), some (.int x6), some (.int x7)]) dX5_split_134 rfl rfl (by exact (Nat.le_of_ble_eq_true rfl)) rfl rfl ?_
            refine ab_goto (tgt := 8) dX5_split_137 (by decide) ?_
            exact Wp.fewer (L' := [some (.ref 20), some (.ref a1), some (.int x2), some (.int (x3 + 1)), some (.int x4), some (.int (x5 + 1)), none, none]) (show ab_leL _ _ from ⟨rfl, ⟨rfl, ⟨rfl, ⟨rfl, ⟨rfl, ⟨rfl, trivial⟩⟩⟩⟩⟩⟩) ht
        · have ht := ht.2 c64
          refine ab_bipush (v := 100) dX5_split_95 (by decide) ?_
          refine ab_aload_n (i := 1) dX5_split_97 rfl rfl ?_
          refine ab_iload (i := 6) dX5_split_98 rfl ?_
          obtain ⟨hc84, ht⟩ := ht
          refine ab_iald hk63 hc84 dX5_split_100 ?_
          refine ab_iadd dX5_split_101 ?_
          refine ab_goto (tgt := 130) dX5_split_102 (by decide) ?_
          obtain ⟨hc85, ht⟩ := ht
          refine ab_iast (sh_k hs62 21 14 (by decide) rfl) hc85 dX5_split_130 ?_
          refine Wp.nm fun h86 e87 => ?_
          have ht := ht h86 e87
          have hs88 : Sh h86 := by rw [e87]; exact sh_si hs62
          have hk89 : ah_k h86 a1 = 14 := by rw [e87]; exact hk63
          refine ab_iinc (i := 3) (x := x3) (v := (x3 + 1)) (L' := [some (.ref 20), some (.ref a1), some (.int x2), some (.int (x3 + 1)), some (.int x4), some (.int x5), some (.int x6), some (.int x7)]) dX5_split_131 rfl rfl (by exact (Nat.le_of_ble_eq_true rfl)) rfl rfl ?_
          refine ab_iinc (i := 5) (x := x5) (v := (x5 + 1)) (L' := [some (.ref 20), some (.ref a1), some (.int x2), some (.int (x3 + 1)), some (.int x4), some (.int (x5 + 1)), some (.int x6), some (.int x7)]) dX5_split_134 rfl rfl (by exact (Nat.le_of_ble_eq_true rfl)) rfl rfl ?_
          refine ab_goto (tgt := 8) dX5_split_137 (by decide) ?_
          exact Wp.fewer (L' := [some (.ref 20), some (.ref a1), some (.int x2), some (.int (x3 + 1)), some (.int x4), some (.int (x5 + 1)), none, none]) (show ab_leL _ _ from ⟨rfl, ⟨rfl, ⟨rfl, ⟨rfl, ⟨rfl, ⟨rfl, trivial⟩⟩⟩⟩⟩⟩) ht
      · have ht := ht.2 c58
        refine ab_goto (tgt := 134) dX5_split_73 (by decide) ?_
        refine ab_iinc (i := 5) (x := x5) (v := (x5 + 1)) (L' := [some (.ref 20), some (.ref a1), some (.int x2), some (.int x3), some (.int x4), some (.int (x5 + 1)), some (.int x6), some (.int x7)]) dX5_split_134 rfl rfl (by exact (Nat.le_of_ble_eq_true rfl)) rfl rfl ?_
        refine ab_goto (tgt := 8) dX5_split_137 (by decide) ?_
        exact Wp.fewer (L' := [some (.ref 20), some (.ref a1), some (.int x2), some (.int x3), some (.int x4), some (.int (x5 + 1)), none, none]) (show ab_leL _ _ from ⟨rfl, ⟨rfl, ⟨rfl, ⟨rfl, ⟨rfl, ⟨rfl, trivial⟩⟩⟩⟩⟩⟩) ht
    · have ht := ht.2 c57
      refine ab_aload_n (i := 1) dX5_split_50 rfl rfl ?_
      refine ab_iload (i := 4) dX5_split_51 rfl ?_
      obtain ⟨hc90, ht⟩ := ht
      refine ab_iald hk_a1 hc90 dX5_split_53 ?_
      refine ab_callS (Q' := fun r h' => r = some (.int (f_X5_kindOf (ah_i h a1 (Int32.toNatClampNeg x4)))) ∧ h = h') (As := [.int (ah_i h a1 (Int32.toNatClampNeg x4))]) (c_X5_kindOf hs (ah_i h a1 (Int32.toNatClampNeg x4)) ⟨rfl, rfl⟩) (Y_X5_kindOf) l_X5_79 st_X5_kindOf rfl ⟨(Nat.le_of_ble_eq_true rfl), (Nat.le_of_ble_eq_true rfl), (Nat.le_of_ble_eq_true rfl), (Nat.le_of_ble_eq_true rfl)⟩ dX5_split_54 ?_
      rintro _ _ ⟨rfl, rfl⟩
      refine ab_iload (i := 7) dX5_split_57 rfl ?_
      refine ab_icmp_ne (tgt := 68) dX5_split_59 (by decide) (fun c91 => ?_) (fun c91 => ?_)
      · have ht := ht.1 c91
        refine ab_iload (i := 7) dX5_split_68 rfl ?_
        refine ab_if_ne (tgt := 76) dX5_split_70 (by decide) (fun c92 => ?_) (fun c92 => ?_)
        · have ht := ht.1 c92
          refine ab_aload_n (i := 0) dX5_split_76 rfl rfl ?_
          refine ab_getR (b := 22) f_X5_19 rfl (sh_k hs 20 5 (by decide) rfl) (sh_r hs 28 rfl) dX5_split_77 ?_
          refine ab_iload_n (i := 3) dX5_split_80 rfl rfl ?_
          refine ab_iload (i := 6) dX5_split_81 rfl ?_
          obtain ⟨hc93, ht⟩ := ht
          refine ab_iast (sh_k hs 22 14 (by decide) rfl) hc93 dX5_split_83 ?_
          refine Wp.nm fun h94 e95 => ?_
          have ht := ht h94 e95
          have hs96 : Sh h94 := by rw [e95]; exact sh_si hs
          have hk97 : ah_k h94 a1 = 14 := by rw [e95]; exact hk_a1
          refine ab_aload_n (i := 0) dX5_split_84 rfl rfl ?_
          refine ab_getR (b := 21) f_X5_15 rfl (sh_k hs96 20 5 (by decide) rfl) (sh_r hs96 27 rfl) dX5_split_85 ?_
          refine ab_iload_n (i := 3) dX5_split_88 rfl rfl ?_
          refine ab_iload (i := 7) dX5_split_89 rfl ?_
          refine ab_iconst (v := 1) dX5_split_91 (by decide) ?_
          refine ab_icmp_ne (tgt := 105) dX5_split_92 (by decide) (fun c98 => ?_) (fun c98 => ?_)
          · have ht := ht.1 c98
            refine ab_iload (i := 7) dX5_split_105 rfl ?_
            refine ab_iconst (v := 2) dX5_split_107 (by decide) ?_
            refine ab_icmp_ne (tgt := 122) dX5_split_108 (by decide) (fun c99 => ?_) (fun c99 => ?_)
            · have ht := ht.1 c99
              refine ab_aload_n (i := 1) dX5_split_122 rfl rfl ?_
              refine ab_iload (i := 6) dX5_split_123 rfl ?_
              refine ab_iload (i := 4) dX5_split_125 rfl ?_
              refine ab_callS (As := [.ref a1, .int x6, .int x4]) ht (Y_X5_wordIn) l_X5_87 st_X5_wordIn rfl ⟨(Nat.le_of_ble_eq_true rfl), (Nat.le_of_ble_eq_true rfl), (Nat.le_of_ble_eq_true rfl), (Nat.le_of_ble_eq_true rfl)⟩ dX5_split_127 ?_
              rintro _ h100 ⟨v102, rfl, hs101, hk103, ht⟩
              obtain ⟨hc104, ht⟩ := ht
              refine ab_iast (sh_k hs101 21 14 (by decide) rfl) hc104 dX5_split_130 ?_
              refine Wp.nm fun h105 e106 => ?_
              have ht := ht h105 e106
              have hs107 : Sh h105 := by rw [e106]; exact sh_si hs101
              have hk108 : ah_k h105 a1 = 14 := by rw [e106]; exact hk103
              refine ab_iinc (i := 3) (x := x3) (v := (x3 + 1)) (L' := [some (.ref 20), some (.ref a1), some (.int x2), some (.int (x3 + 1)), some (.int x4), some (.int x5), some (.int x6), some (.int x7)]) dX5_split_131 rfl rfl (by exact (Nat.le_of_ble_eq_true rfl)) rfl rfl ?_
              refine ab_iinc (i := 5) (x := x5) (v := (x5 + 1)) (L' := [some (.ref 20), some (.ref a1), some (.int x2), some (.int (x3 + 1)), some (.int x4), some (.int (x5 + 1)), some (.int x6), some (.int x7)]) dX5_split_134 rfl rfl (by exact (Nat.le_of_ble_eq_true rfl)) rfl rfl ?_
              refine ab_goto (tgt := 8) dX5_split_137 (by decide) ?_
              exact Wp.fewer (L' := [some (.ref 20), some (.ref a1), some (.int x2), some (.int (x3 + 1)), some (.int x4), some (.int (x5 + 1)), none, none]) (show ab_leL _ _ from ⟨rfl, ⟨rfl, ⟨rfl, ⟨rfl, ⟨rfl, ⟨rfl, trivial⟩⟩⟩⟩⟩⟩) ht
            · have ht := ht.2 c99
              refine ab_aload_n (i := 1) dX5_split_111 rfl rfl ?_
              refine ab_iload (i := 6) dX5_split_112 rfl ?_
              refine ab_iload (i := 4) dX5_split_114 rfl ?_
              refine ab_callS (As := [.ref a1, .int x6, .int x4]) ht (Y_X5_numberIn) l_X5_83 st_X5_numberIn rfl ⟨(Nat.le_of_ble_eq_true rfl), (Nat.le_of_ble_eq_true rfl), (Nat.le_of_ble_eq_true rfl), (Nat.le_of_ble_eq_true rfl)⟩ dX5_split_116 ?_
              rintro _ h109 ⟨v111, rfl, hs110, hk112, ht⟩
              refine ab_goto (tgt := 130) dX5_split_119 (by decide) ?_
              obtain ⟨hc113, ht⟩ := ht
              refine ab_iast (sh_k hs110 21 14 (by decide) rfl) hc113 dX5_split_130 ?_
              refine Wp.nm fun h114 e115 => ?_
              have ht := ht h114 e115
              have hs116 : Sh h114 := by rw [e115]; exact sh_si hs110
              have hk117 : ah_k h114 a1 = 14 := by rw [e115]; exact hk112
              refine ab_iinc (i := 3) (x := x3) (v := (x3 + 1)) (L' := [some (.ref 20), some (.ref a1), some (.int x2), some (.int (x3 + 1)), some (.int x4), some (.int x5), some (.int x6), some (.int x7)]) dX5_split_131 rfl rfl (by exact (Nat.le_of_ble_eq_true rfl)) rfl rfl ?_
              refine ab_iinc (i := 5) (x := x5) (v := (x5 + 1)) (L' := [some (.ref 20), some (.ref a1), some (.int x2), some (.int (x3 + 1)), some (.int x4), some (.int (x5 + 1)), some (.int x6), some (.int x7)]) dX5_split_134 rfl rfl (by exact (Nat.le_of_ble_eq_true rfl)) rfl rfl ?_
              refine ab_goto (tgt := 8) dX5_split_137 (by decide) ?_
              exact Wp.fewer (L' := [some (.ref 20), some (.ref a1), some (.int x2), some (.int (x3 + 1)), some (.int x4), some (.int (x5 + 1)), none, none]) (show ab_leL _ _ from ⟨rfl, ⟨rfl, ⟨rfl, ⟨rfl, ⟨rfl, ⟨rfl, trivial⟩⟩⟩⟩⟩⟩) ht
          · have ht := ht.2 c98
            refine ab_bipush (v := 100) dX5_split_95 (by decide) ?_
            refine ab_aload_n (i := 1) dX5_split_97 rfl rfl ?_
            refine ab_iload (i := 6) dX5_split_98 rfl ?_
            obtain ⟨hc118, ht⟩ := ht
            refine ab_iald hk97 hc118 dX5_split_100 ?_
            refine ab_iadd dX5_split_101 ?_
            refine ab_goto (tgt := 130) dX5_split_102 (by decide) ?_
            obtain ⟨hc119, ht⟩ := ht
            refine ab_iast (sh_k hs96 21 14 (by decide) rfl) hc119 dX5_split_130 ?_
            refine Wp.nm fun h120 e121 => ?_
            have ht := ht h120 e121
            have hs122 : Sh h120 := by rw [e121]; exact sh_si hs96
            have hk123 : ah_k h120 a1 = 14 := by rw [e121]; exact hk97
            refine ab_iinc (i := 3) (x := x3) (v := (x3 + 1)) (L' := [some (.ref 20), some (.ref a1), some (.int x2), some (.int (x3 + 1)), some (.int x4), some (.int x5), some (.int x6), some (.int x7)]) dX5_split_131 rfl rfl (by exact (Nat.le_of_ble_eq_true rfl)) rfl rfl ?_
            refine ab_iinc (i := 5) (x := x5) (v := (x5 + 1)) (L' := [some (.ref 20), some (.ref a1), some (.int x2), some (.int (x3 + 1)), some (.int x4), some (.int (x5 + 1)), some (.int x6), some (.int x7)]) dX5_split_134 rfl rfl (by exact (Nat.le_of_ble_eq_true rfl)) rfl rfl ?_
            refine ab_goto (tgt := 8) dX5_split_137 (by decide) ?_
            exact Wp.fewer (L' := [some (.ref 20), some (.ref a1), some (.int x2), some (.int (x3 + 1)), some (.int x4), some (.int (x5 + 1)), none, none]) (show ab_leL _ _ from ⟨rfl, ⟨rfl, ⟨rfl, ⟨rfl, ⟨rfl, ⟨rfl, trivial⟩⟩⟩⟩⟩⟩) ht
        · have ht := ht.2 c92
          refine ab_goto (tgt := 134) dX5_split_73 (by decide) ?_
          refine ab_iinc (i := 5) (x := x5) (v := (x5 + 1)) (L' := [some (.ref 20), some (.ref a1), some (.int x2), some (.int x3), some (.int x4), some (.int (x5 + 1)), some (.int x6), some (.int x7)]) dX5_split_134 rfl rfl (by exact (Nat.le_of_ble_eq_true rfl)) rfl rfl ?_
          refine ab_goto (tgt := 8) dX5_split_137 (by decide) ?_
          exact Wp.fewer (L' := [some (.ref 20), some (.ref a1), some (.int x2), some (.int x3), some (.int x4), some (.int (x5 + 1)), none, none]) (show ab_leL _ _ from ⟨rfl, ⟨rfl, ⟨rfl, ⟨rfl, ⟨rfl, ⟨rfl, trivial⟩⟩⟩⟩⟩⟩) ht
      · have ht := ht.2 c91
        refine ab_iinc (i := 4) (x := x4) (v := (x4 + 1)) (L' := [some (.ref 20), some (.ref a1), some (.int x2), some (.int x3), some (.int (x4 + 1)), some (.int x5), some (.int x6), some (.int x7)]) dX5_split_62 rfl rfl (by exact (Nat.le_of_ble_eq_true rfl)) rfl rfl ?_
        refine ab_goto (tgt := 38) dX5_split_65 (by decide) ?_
        exact Wp.fewer (L' := [some (.ref 20), some (.ref a1), some (.int x2), some (.int x3), some (.int (x4 + 1)), some (.int x5), some (.int x6), some (.int x7)]) (show ab_leL _ _ from ⟨rfl, ⟨rfl, ⟨rfl, ⟨rfl, ⟨rfl, ⟨rfl, ⟨rfl, ⟨rfl, trivial⟩⟩⟩⟩⟩⟩⟩⟩) ht
set_option maxRecDepth 20000 in
theorem T_X5_split {Q : Option Value → ah_T → Prop} {h : ah_T} (hs : Sh h) (a1 : Nat) (x2 : Int32) (hk_a1 : ah_k h a1 = 14) (ht : Wp mX5_split Q 0 0 8 [some (.ref 20), some (.ref a1), some (.int x2), some (.int 0), some (.int 0), some (.int 0), none, none] [] h) : Mt mX5_split [.ref 20, .ref a1, .int x2] h Q := by
  refine Mt.ofWp rfl (by exact (Nat.le_of_ble_eq_true rfl)) (Wp.fewer (L' := [some (.ref 20), some (.ref a1), some (.int x2), none, none, none, none, none]) (show ab_leL _ _ from ⟨rfl, ⟨rfl, ⟨rfl, trivial⟩⟩⟩) ?_)
  refine ab_iconst (v := 0) dX5_split_0 (by decide) ?_
  refine ab_istore_n (i := 3) (L' := [some (.ref 20), some (.ref a1), some (.int x2), some (.int 0), none, none, none, none]) dX5_split_1 rfl (by exact (Nat.le_of_ble_eq_true rfl)) rfl rfl ?_
  refine ab_iconst (v := 0) dX5_split_2 (by decide) ?_
  refine ab_istore (i := 4) (L' := [some (.ref 20), some (.ref a1), some (.int x2), some (.int 0), some (.int 0), none, none, none]) dX5_split_3 (by exact (Nat.le_of_ble_eq_true rfl)) rfl rfl ?_
  refine ab_iconst (v := 0) dX5_split_5 (by decide) ?_
  refine ab_istore (i := 5) (L' := [some (.ref 20), some (.ref a1), some (.int x2), some (.int 0), some (.int 0), some (.int 0), none, none]) dX5_split_6 (by exact (Nat.le_of_ble_eq_true rfl)) rfl rfl ?_
  exact Wp.fewer (L' := [some (.ref 20), some (.ref a1), some (.int x2), some (.int 0), some (.int 0), some (.int 0), none, none]) (show ab_leL _ _ from ⟨rfl, ⟨rfl, ⟨rfl, ⟨rfl, ⟨rfl, ⟨rfl, trivial⟩⟩⟩⟩⟩⟩) ht
theorem dX5_numberIn_0 : decode cX5_numberIn 0 = .ok (.iconst 0, 1) := by decide +kernel
theorem dX5_numberIn_1 : decode cX5_numberIn 1 = .ok (.istore_n 3, 1) := by decide +kernel
theorem dX5_numberIn_2 : decode cX5_numberIn 2 = .ok (.iload_n 1, 1) := by decide +kernel
theorem dX5_numberIn_3 : decode cX5_numberIn 3 = .ok (.istore 4, 2) := by decide +kernel
theorem dX5_numberIn_5 : decode cX5_numberIn 5 = .ok (.iload 4, 2) := by decide +kernel
theorem dX5_numberIn_7 : decode cX5_numberIn 7 = .ok (.iload_n 2, 1) := by decide +kernel
theorem dX5_numberIn_8 : decode cX5_numberIn 8 = .ok (.if_icmp .ge 28, 3) := by decide +kernel
theorem dX5_numberIn_11 : decode cX5_numberIn 11 = .ok (.iload_n 3, 1) := by decide +kernel
theorem dX5_numberIn_12 : decode cX5_numberIn 12 = .ok (.bipush 10, 2) := by decide +kernel
theorem dX5_numberIn_14 : decode cX5_numberIn 14 = .ok (.imul, 1) := by decide +kernel
theorem dX5_numberIn_15 : decode cX5_numberIn 15 = .ok (.aload_n 0, 1) := by decide +kernel
theorem dX5_numberIn_16 : decode cX5_numberIn 16 = .ok (.iload 4, 2) := by decide +kernel
theorem dX5_numberIn_18 : decode cX5_numberIn 18 = .ok (.iaload, 1) := by decide +kernel
theorem dX5_numberIn_19 : decode cX5_numberIn 19 = .ok (.iadd, 1) := by decide +kernel
theorem dX5_numberIn_20 : decode cX5_numberIn 20 = .ok (.bipush 48, 2) := by decide +kernel
theorem dX5_numberIn_22 : decode cX5_numberIn 22 = .ok (.isub, 1) := by decide +kernel
theorem dX5_numberIn_23 : decode cX5_numberIn 23 = .ok (.sipush 1001, 3) := by decide +kernel
theorem dX5_numberIn_26 : decode cX5_numberIn 26 = .ok (.invokestatic 90, 3) := by decide +kernel
theorem dX5_numberIn_29 : decode cX5_numberIn 29 = .ok (.istore_n 3, 1) := by decide +kernel
theorem dX5_numberIn_30 : decode cX5_numberIn 30 = .ok (.iinc 4 1, 3) := by decide +kernel
theorem dX5_numberIn_33 : decode cX5_numberIn 33 = .ok (.goto (-28), 3) := by decide +kernel
theorem dX5_numberIn_36 : decode cX5_numberIn 36 = .ok (.sipush 1000, 3) := by decide +kernel
theorem dX5_numberIn_39 : decode cX5_numberIn 39 = .ok (.iload_n 3, 1) := by decide +kernel
theorem dX5_numberIn_40 : decode cX5_numberIn 40 = .ok (.iadd, 1) := by decide +kernel
theorem dX5_numberIn_41 : decode cX5_numberIn 41 = .ok (.ireturn, 1) := by decide +kernel
set_option maxRecDepth 20000 in
theorem T_X5_numberIn_5 {Q : Option Value → ah_T → Prop} {h : ah_T} (hs : Sh h) (a0 : Nat) (x2 : Int32) (x3 : Int32) (x4 : Int32) (hk_a0 : ah_k h a0 = 14) (ht : ((x2 ≤ x4 → Q (some (.int (1000 + x3))) h) ∧ (¬ x2 ≤ x4 → (vp_in x4 (ah_n h a0)) ∧ Wp mX5_numberIn Q 0 0 5 [some (.ref a0), none, some (.int x2), some (.int (if 1001 < (((x3 * 10) + (ah_i h a0 (Int32.toNatClampNeg x4))) - 48) then 1001 else (((x3 * 10) + (ah_i h a0 (Int32.toNatClampNeg x4))) - 48))), some (.int (x4 + 1))] [] h))) : Wp mX5_numberIn Q 0 0 5 [some (.ref a0), none, some (.int x2), some (.int x3), some (.int x4)] [] h := by
  refine ab_iload (i := 4) dX5_numberIn_5 rfl ?_
  refine ab_iload_n (i := 2) dX5_numberIn_7 rfl rfl ?_
  refine ab_icmp_ge (tgt := 36) dX5_numberIn_8 (by decide) (fun c1 => ?_) (fun c1 => ?_)
  · have ht := ht.1 c1
    refine ab_sipush (v := 1000) dX5_numberIn_36 (by decide) ?_
    refine ab_iload_n (i := 3) dX5_numberIn_39 rfl rfl ?_
    refine ab_iadd dX5_numberIn_40 ?_
    exact ab_iret rfl dX5_numberIn_41 (Nat.le_of_ble_eq_true rfl) (Nat.le_of_ble_eq_true rfl) ht
  · have ht := ht.2 c1
    refine ab_iload_n (i := 3) dX5_numberIn_11 rfl rfl ?_
    refine ab_bipush (v := 10) dX5_numberIn_12 (by decide) ?_
    refine ab_imul dX5_numberIn_14 ?_
    refine ab_aload_n (i := 0) dX5_numberIn_15 rfl rfl ?_
    refine ab_iload (i := 4) dX5_numberIn_16 rfl ?_
    obtain ⟨hc2, ht⟩ := ht
    refine ab_iald hk_a0 hc2 dX5_numberIn_18 ?_
    refine ab_iadd dX5_numberIn_19 ?_
    refine ab_bipush (v := 48) dX5_numberIn_20 (by decide) ?_
    refine ab_isub dX5_numberIn_22 ?_
    refine ab_sipush (v := 1001) dX5_numberIn_23 (by decide) ?_
    refine ab_mmin (tb_4 (List.mem_of_getElem? (i := 105) (by decide +kernel)) rfl) st_mmin in_m co_mmin (Nat.le_of_ble_eq_true rfl) (Nat.le_of_ble_eq_true rfl) (Nat.le_of_ble_eq_true rfl) (Nat.le_of_ble_eq_true rfl) dX5_numberIn_26 ?_
    refine ab_istore_n (i := 3) (L' := [some (.ref a0), none, some (.int x2), some (.int (if 1001 < (((x3 * 10) + (ah_i h a0 (Int32.toNatClampNeg x4))) - 48) then 1001 else (((x3 * 10) + (ah_i h a0 (Int32.toNatClampNeg x4))) - 48))), some (.int x4)]) dX5_numberIn_29 rfl (by exact (Nat.le_of_ble_eq_true rfl)) rfl rfl ?_
    refine ab_iinc (i := 4) (x := x4) (v := (x4 + 1)) (L' := [some (.ref a0), none, some (.int x2), some (.int (if 1001 < (((x3 * 10) + (ah_i h a0 (Int32.toNatClampNeg x4))) - 48) then 1001 else (((x3 * 10) + (ah_i h a0 (Int32.toNatClampNeg x4))) - 48))), some (.int (x4 + 1))]) dX5_numberIn_30 rfl rfl (by exact (Nat.le_of_ble_eq_true rfl)) rfl rfl ?_
    refine ab_goto (tgt := 5) dX5_numberIn_33 (by decide) ?_
    exact Wp.fewer (L' := [some (.ref a0), none, some (.int x2), some (.int (if 1001 < (((x3 * 10) + (ah_i h a0 (Int32.toNatClampNeg x4))) - 48) then 1001 else (((x3 * 10) + (ah_i h a0 (Int32.toNatClampNeg x4))) - 48))), some (.int (x4 + 1))]) (show ab_leL _ _ from ⟨rfl, ⟨rfl, ⟨rfl, ⟨rfl, trivial⟩⟩⟩⟩) ht
set_option maxRecDepth 20000 in
theorem T_X5_numberIn {Q : Option Value → ah_T → Prop} {h : ah_T} (hs : Sh h) (a0 : Nat) (x1 : Int32) (x2 : Int32) (hk_a0 : ah_k h a0 = 14) (ht : Wp mX5_numberIn Q 0 0 5 [some (.ref a0), none, some (.int x2), some (.int 0), some (.int x1)] [] h) : Mt mX5_numberIn [.ref a0, .int x1, .int x2] h Q := by
  refine Mt.ofWp rfl (by exact (Nat.le_of_ble_eq_true rfl)) (Wp.fewer (L' := [some (.ref a0), some (.int x1), some (.int x2), none, none]) (show ab_leL _ _ from ⟨rfl, ⟨rfl, ⟨rfl, trivial⟩⟩⟩) ?_)
  refine ab_iconst (v := 0) dX5_numberIn_0 (by decide) ?_
  refine ab_istore_n (i := 3) (L' := [some (.ref a0), some (.int x1), some (.int x2), some (.int 0), none]) dX5_numberIn_1 rfl (by exact (Nat.le_of_ble_eq_true rfl)) rfl rfl ?_
  refine ab_iload_n (i := 1) dX5_numberIn_2 rfl rfl ?_
  refine ab_istore (i := 4) (L' := [some (.ref a0), some (.int x1), some (.int x2), some (.int 0), some (.int x1)]) dX5_numberIn_3 (by exact (Nat.le_of_ble_eq_true rfl)) rfl rfl ?_
  exact Wp.fewer (L' := [some (.ref a0), none, some (.int x2), some (.int 0), some (.int x1)]) (show ab_leL _ _ from ⟨rfl, ⟨rfl, ⟨rfl, ⟨rfl, trivial⟩⟩⟩⟩) ht
theorem dX5_readLaw_0 : decode cX5_readLaw 0 = .ok (.aload_n 0, 1) := by decide +kernel
theorem dX5_readLaw_1 : decode cX5_readLaw 1 = .ok (.getfield 15, 3) := by decide +kernel
theorem dX5_readLaw_4 : decode cX5_readLaw 4 = .ok (.aload_n 0, 1) := by decide +kernel
theorem dX5_readLaw_5 : decode cX5_readLaw 5 = .ok (.getfield 31, 3) := by decide +kernel
theorem dX5_readLaw_8 : decode cX5_readLaw 8 = .ok (.iaload, 1) := by decide +kernel
theorem dX5_readLaw_9 : decode cX5_readLaw 9 = .ok (.bipush 13, 2) := by decide +kernel
theorem dX5_readLaw_11 : decode cX5_readLaw 11 = .ok (.isub, 1) := by decide +kernel
theorem dX5_readLaw_12 : decode cX5_readLaw 12 = .ok (.istore_n 2, 1) := by decide +kernel
theorem dX5_readLaw_13 : decode cX5_readLaw 13 = .ok (.iload_n 2, 1) := by decide +kernel
theorem dX5_readLaw_14 : decode cX5_readLaw 14 = .ok (.ifCond .lt 8, 3) := by decide +kernel
theorem dX5_readLaw_17 : decode cX5_readLaw 17 = .ok (.iload_n 2, 1) := by decide +kernel
theorem dX5_readLaw_18 : decode cX5_readLaw 18 = .ok (.iconst 2, 1) := by decide +kernel
theorem dX5_readLaw_19 : decode cX5_readLaw 19 = .ok (.if_icmp .le 5, 3) := by decide +kernel
theorem dX5_readLaw_22 : decode cX5_readLaw 22 = .ok (.iconst 0, 1) := by decide +kernel
theorem dX5_readLaw_23 : decode cX5_readLaw 23 = .ok (.ireturn, 1) := by decide +kernel
theorem dX5_readLaw_24 : decode cX5_readLaw 24 = .ok (.aload_n 0, 1) := by decide +kernel
theorem dX5_readLaw_25 : decode cX5_readLaw 25 = .ok (.getfield 25, 3) := by decide +kernel
theorem dX5_readLaw_28 : decode cX5_readLaw 28 = .ok (.iload_n 1, 1) := by decide +kernel
theorem dX5_readLaw_29 : decode cX5_readLaw 29 = .ok (.iconst 0, 1) := by decide +kernel
theorem dX5_readLaw_30 : decode cX5_readLaw 30 = .ok (.iadd, 1) := by decide +kernel
theorem dX5_readLaw_31 : decode cX5_readLaw 31 = .ok (.iload_n 2, 1) := by decide +kernel
theorem dX5_readLaw_32 : decode cX5_readLaw 32 = .ok (.iastore, 1) := by decide +kernel
theorem dX5_readLaw_33 : decode cX5_readLaw 33 = .ok (.aload_n 0, 1) := by decide +kernel
theorem dX5_readLaw_34 : decode cX5_readLaw 34 = .ok (.dup, 1) := by decide +kernel
theorem dX5_readLaw_35 : decode cX5_readLaw 35 = .ok (.getfield 31, 3) := by decide +kernel
theorem dX5_readLaw_38 : decode cX5_readLaw 38 = .ok (.iconst 1, 1) := by decide +kernel
theorem dX5_readLaw_39 : decode cX5_readLaw 39 = .ok (.iadd, 1) := by decide +kernel
theorem dX5_readLaw_40 : decode cX5_readLaw 40 = .ok (.putfield 31, 3) := by decide +kernel
theorem dX5_readLaw_43 : decode cX5_readLaw 43 = .ok (.iload_n 2, 1) := by decide +kernel
theorem dX5_readLaw_44 : decode cX5_readLaw 44 = .ok (.ifCond .eq 32, 3) := by decide +kernel
theorem dX5_readLaw_47 : decode cX5_readLaw 47 = .ok (.aload_n 0, 1) := by decide +kernel
theorem dX5_readLaw_48 : decode cX5_readLaw 48 = .ok (.getfield 25, 3) := by decide +kernel
theorem dX5_readLaw_51 : decode cX5_readLaw 51 = .ok (.iload_n 1, 1) := by decide +kernel
theorem dX5_readLaw_52 : decode cX5_readLaw 52 = .ok (.iconst 1, 1) := by decide +kernel
theorem dX5_readLaw_53 : decode cX5_readLaw 53 = .ok (.iadd, 1) := by decide +kernel
theorem dX5_readLaw_54 : decode cX5_readLaw 54 = .ok (.aload_n 0, 1) := by decide +kernel
theorem dX5_readLaw_55 : decode cX5_readLaw 55 = .ok (.getfield 34, 3) := by decide +kernel
theorem dX5_readLaw_58 : decode cX5_readLaw 58 = .ok (.iastore, 1) := by decide +kernel
theorem dX5_readLaw_59 : decode cX5_readLaw 59 = .ok (.aload_n 0, 1) := by decide +kernel
theorem dX5_readLaw_60 : decode cX5_readLaw 60 = .ok (.iconst 0, 1) := by decide +kernel
theorem dX5_readLaw_61 : decode cX5_readLaw 61 = .ok (.invokevirtual 108, 3) := by decide +kernel
theorem dX5_readLaw_64 : decode cX5_readLaw 64 = .ok (.ifCond .ne 5, 3) := by decide +kernel
theorem dX5_readLaw_67 : decode cX5_readLaw 67 = .ok (.iconst 0, 1) := by decide +kernel
theorem dX5_readLaw_68 : decode cX5_readLaw 68 = .ok (.ireturn, 1) := by decide +kernel
theorem dX5_readLaw_69 : decode cX5_readLaw 69 = .ok (.aload_n 0, 1) := by decide +kernel
theorem dX5_readLaw_70 : decode cX5_readLaw 70 = .ok (.iconst 0, 1) := by decide +kernel
theorem dX5_readLaw_71 : decode cX5_readLaw 71 = .ok (.iconst 0, 1) := by decide +kernel
theorem dX5_readLaw_72 : decode cX5_readLaw 72 = .ok (.invokevirtual 111, 3) := by decide +kernel
theorem dX5_readLaw_75 : decode cX5_readLaw 75 = .ok (.pop, 1) := by decide +kernel
theorem dX5_readLaw_76 : decode cX5_readLaw 76 = .ok (.iconst 1, 1) := by decide +kernel
theorem dX5_readLaw_77 : decode cX5_readLaw 77 = .ok (.ireturn, 1) := by decide +kernel
set_option maxRecDepth 20000 in
theorem T_X5_readLaw {Q : Option Value → ah_T → Prop} {h : ah_T} (hs : Sh h) (x1 : Int32) (ht : (vp_in (ah_i h 20 6) (ah_n h 21)) ∧ ((((ah_i h 21 (Int32.toNatClampNeg (ah_i h 20 6))) - 13) < 0 → Q (some (.int 0)) h) ∧ (¬ ((ah_i h 21 (Int32.toNatClampNeg (ah_i h 20 6))) - 13) < 0 → ((((ah_i h 21 (Int32.toNatClampNeg (ah_i h 20 6))) - 13) ≤ 2 → (vp_in (x1 + 0) (ah_n h 24)) ∧ (∀ h5, h5 = ah_si h 24 (Int32.toNatClampNeg (x1 + 0)) ((ah_i h 21 (Int32.toNatClampNeg (ah_i h 20 6))) - 13) → (∀ h8, h8 = ah_si h5 20 6 ((ah_i h5 20 6) + 1) → ((((ah_i h 21 (Int32.toNatClampNeg (ah_i h 20 6))) - 13) = 0 → Q (some (.int 1)) h8) ∧ (¬ ((ah_i h 21 (Int32.toNatClampNeg (ah_i h 20 6))) - 13) = 0 → (vp_in (x1 + 1) (ah_n h8 24)) ∧ (∀ h13, h13 = ah_si h8 24 (Int32.toNatClampNeg (x1 + 1)) (ah_i h8 20 7) → (Mt (mX5_readSum 60) [.ref 20, .int 0] h13 (ab_qi fun v18 h16 => Sh h16 ∧ ((¬ v18 = 0 → (Mt mX5_emit [.ref 20, .int 0, .int 0] h16 (ab_qi fun v22 h20 => Sh h20 ∧ Q (some (.int 1)) h20))) ∧ (v18 = 0 → Q (some (.int 0)) h16)))))))))) ∧ (¬ ((ah_i h 21 (Int32.toNatClampNeg (ah_i h 20 6))) - 13) ≤ 2 → Q (some (.int 0)) h))))) : Mt mX5_readLaw [.ref 20, .int x1] h Q := by
  refine Mt.ofWp rfl (by exact (Nat.le_of_ble_eq_true rfl)) (Wp.fewer (L' := [some (.ref 20), some (.int x1), none]) (show ab_leL _ _ from ⟨rfl, ⟨rfl, trivial⟩⟩) ?_)
  refine ab_aload_n (i := 0) dX5_readLaw_0 rfl rfl ?_
  refine ab_getR (b := 21) f_X5_15 rfl (sh_k hs 20 5 (by decide) rfl) (sh_r hs 27 rfl) dX5_readLaw_1 ?_
  refine ab_aload_n (i := 0) dX5_readLaw_4 rfl rfl ?_
  refine ab_getI f_X5_31 rfl (sh_k hs 20 5 (by decide) rfl) dX5_readLaw_5 ?_
  obtain ⟨hc1, ht⟩ := ht
  refine ab_iald (sh_k hs 21 14 (by decide) rfl) hc1 dX5_readLaw_8 ?_
  refine ab_bipush (v := 13) dX5_readLaw_9 (by decide) ?_
  refine ab_isub dX5_readLaw_11 ?_
  refine ab_istore_n (i := 2) (L' := [some (.ref 20), some (.int x1), some (.int ((ah_i h 21 (Int32.toNatClampNeg (ah_i h 20 6))) - 13))]) dX5_readLaw_12 rfl (by exact (Nat.le_of_ble_eq_true rfl)) rfl rfl ?_
  refine ab_iload_n (i := 2) dX5_readLaw_13 rfl rfl ?_
  refine ab_if_lt (tgt := 22) dX5_readLaw_14 (by decide) (fun c2 => ?_) (fun c2 => ?_)
  · have ht := ht.1 c2
    refine ab_iconst (v := 0) dX5_readLaw_22 (by decide) ?_
    exact ab_zret rfl rfl dX5_readLaw_23 (Nat.le_of_ble_eq_true rfl) (Nat.le_of_ble_eq_true rfl) ht
  · have ht := ht.2 c2
    refine ab_iload_n (i := 2) dX5_readLaw_17 rfl rfl ?_
    refine ab_iconst (v := 2) dX5_readLaw_18 (by decide) ?_
    refine ab_icmp_le (tgt := 24) dX5_readLaw_19 (by decide) (fun c3 => ?_) (fun c3 => ?_)
    · have ht := ht.1 c3
      refine ab_aload_n (i := 0) dX5_readLaw_24 rfl rfl ?_
      refine ab_getR (b := 24) f_X5_25 rfl (sh_k hs 20 5 (by decide) rfl) (sh_r hs 30 rfl) dX5_readLaw_25 ?_
      refine ab_iload_n (i := 1) dX5_readLaw_28 rfl rfl ?_
      refine ab_iconst (v := 0) dX5_readLaw_29 (by decide) ?_
      refine ab_iadd dX5_readLaw_30 ?_
      refine ab_iload_n (i := 2) dX5_readLaw_31 rfl rfl ?_
      obtain ⟨hc4, ht⟩ := ht
      refine ab_iast (sh_k hs 24 14 (by decide) rfl) hc4 dX5_readLaw_32 ?_
      refine Wp.nm fun h5 e6 => ?_
      have ht := ht h5 e6
      have hs7 : Sh h5 := by rw [e6]; exact sh_si hs
      refine ab_aload_n (i := 0) dX5_readLaw_33 rfl rfl ?_
      refine ab_dup dX5_readLaw_34 rfl ?_
      refine ab_getI f_X5_31 rfl (sh_k hs7 20 5 (by decide) rfl) dX5_readLaw_35 ?_
      refine ab_iconst (v := 1) dX5_readLaw_38 (by decide) ?_
      refine ab_iadd dX5_readLaw_39 ?_
      refine ab_putI f_X5_31 (Or.inl rfl) rfl (sh_k hs7 20 5 (by decide) rfl) rfl rfl dX5_readLaw_40 ?_
      refine Wp.nm fun h8 e9 => ?_
      have ht := ht h8 e9
      have hs10 : Sh h8 := by rw [e9]; exact sh_si hs7
      refine ab_iload_n (i := 2) dX5_readLaw_43 rfl rfl ?_
      refine ab_if_eq (tgt := 76) dX5_readLaw_44 (by decide) (fun c11 => ?_) (fun c11 => ?_)
      · have ht := ht.1 c11
        refine ab_iconst (v := 1) dX5_readLaw_76 (by decide) ?_
        exact ab_zret rfl rfl dX5_readLaw_77 (Nat.le_of_ble_eq_true rfl) (Nat.le_of_ble_eq_true rfl) ht
      · have ht := ht.2 c11
        refine ab_aload_n (i := 0) dX5_readLaw_47 rfl rfl ?_
        refine ab_getR (b := 24) f_X5_25 rfl (sh_k hs10 20 5 (by decide) rfl) (sh_r hs10 30 rfl) dX5_readLaw_48 ?_
        refine ab_iload_n (i := 1) dX5_readLaw_51 rfl rfl ?_
        refine ab_iconst (v := 1) dX5_readLaw_52 (by decide) ?_
        refine ab_iadd dX5_readLaw_53 ?_
        refine ab_aload_n (i := 0) dX5_readLaw_54 rfl rfl ?_
        refine ab_getI f_X5_34 rfl (sh_k hs10 20 5 (by decide) rfl) dX5_readLaw_55 ?_
        obtain ⟨hc12, ht⟩ := ht
        refine ab_iast (sh_k hs10 24 14 (by decide) rfl) hc12 dX5_readLaw_58 ?_
        refine Wp.nm fun h13 e14 => ?_
        have ht := ht h13 e14
        have hs15 : Sh h13 := by rw [e14]; exact sh_si hs10
        refine ab_aload_n (i := 0) dX5_readLaw_59 rfl rfl ?_
        refine ab_iconst (v := 0) dX5_readLaw_60 (by decide) ?_
        refine ab_callV (b := 20) (As := [.int 0]) ht (Y_X5_readSum _) l_X5_108 in_X5_readSum se_X5_readSum (sh_k hs15 20 5 (by decide) rfl) (by decide) rfl rfl ⟨(Nat.le_of_ble_eq_true rfl), (Nat.le_of_ble_eq_true rfl), (Nat.le_of_ble_eq_true rfl), (Nat.le_of_ble_eq_true rfl)⟩ dX5_readLaw_61 ?_
        rintro _ h16 ⟨v18, rfl, hs17, ht⟩
        refine ab_if_ne (tgt := 69) dX5_readLaw_64 (by decide) (fun c19 => ?_) (fun c19 => ?_)
        · have ht := ht.1 c19
          refine ab_aload_n (i := 0) dX5_readLaw_69 rfl rfl ?_
          refine ab_iconst (v := 0) dX5_readLaw_70 (by decide) ?_
          refine ab_iconst (v := 0) dX5_readLaw_71 (by decide) ?_
          refine ab_callV (b := 20) (As := [.int 0, .int 0]) ht (Y_X5_emit) l_X5_111 in_X5_emit se_X5_emit (sh_k hs17 20 5 (by decide) rfl) (by decide) rfl rfl ⟨(Nat.le_of_ble_eq_true rfl), (Nat.le_of_ble_eq_true rfl), (Nat.le_of_ble_eq_true rfl), (Nat.le_of_ble_eq_true rfl)⟩ dX5_readLaw_72 ?_
          rintro _ h20 ⟨v22, rfl, hs21, ht⟩
          refine ab_pop dX5_readLaw_75 rfl ?_
          refine ab_iconst (v := 1) dX5_readLaw_76 (by decide) ?_
          exact ab_zret rfl rfl dX5_readLaw_77 (Nat.le_of_ble_eq_true rfl) (Nat.le_of_ble_eq_true rfl) ht
        · have ht := ht.2 c19
          refine ab_iconst (v := 0) dX5_readLaw_67 (by decide) ?_
          exact ab_zret rfl rfl dX5_readLaw_68 (Nat.le_of_ble_eq_true rfl) (Nat.le_of_ble_eq_true rfl) ht
    · have ht := ht.2 c3
      refine ab_iconst (v := 0) dX5_readLaw_22 (by decide) ?_
      exact ab_zret rfl rfl dX5_readLaw_23 (Nat.le_of_ble_eq_true rfl) (Nat.le_of_ble_eq_true rfl) ht
theorem dX5_readRound_0 : decode cX5_readRound 0 = .ok (.aload_n 0, 1) := by decide +kernel
theorem dX5_readRound_1 : decode cX5_readRound 1 = .ok (.getfield 15, 3) := by decide +kernel
theorem dX5_readRound_4 : decode cX5_readRound 4 = .ok (.aload_n 0, 1) := by decide +kernel
theorem dX5_readRound_5 : decode cX5_readRound 5 = .ok (.getfield 31, 3) := by decide +kernel
theorem dX5_readRound_8 : decode cX5_readRound 8 = .ok (.iaload, 1) := by decide +kernel
theorem dX5_readRound_9 : decode cX5_readRound 9 = .ok (.bipush 16, 2) := by decide +kernel
theorem dX5_readRound_11 : decode cX5_readRound 11 = .ok (.isub, 1) := by decide +kernel
theorem dX5_readRound_12 : decode cX5_readRound 12 = .ok (.istore_n 2, 1) := by decide +kernel
theorem dX5_readRound_13 : decode cX5_readRound 13 = .ok (.iload_n 2, 1) := by decide +kernel
theorem dX5_readRound_14 : decode cX5_readRound 14 = .ok (.ifCond .eq 10, 3) := by decide +kernel
theorem dX5_readRound_17 : decode cX5_readRound 17 = .ok (.iload_n 2, 1) := by decide +kernel
theorem dX5_readRound_18 : decode cX5_readRound 18 = .ok (.iconst 1, 1) := by decide +kernel
theorem dX5_readRound_19 : decode cX5_readRound 19 = .ok (.if_icmp .eq 5, 3) := by decide +kernel
theorem dX5_readRound_22 : decode cX5_readRound 22 = .ok (.iconst 0, 1) := by decide +kernel
theorem dX5_readRound_23 : decode cX5_readRound 23 = .ok (.ireturn, 1) := by decide +kernel
theorem dX5_readRound_24 : decode cX5_readRound 24 = .ok (.aload_n 0, 1) := by decide +kernel
theorem dX5_readRound_25 : decode cX5_readRound 25 = .ok (.getfield 25, 3) := by decide +kernel
theorem dX5_readRound_28 : decode cX5_readRound 28 = .ok (.iload_n 1, 1) := by decide +kernel
theorem dX5_readRound_29 : decode cX5_readRound 29 = .ok (.iconst 0, 1) := by decide +kernel
theorem dX5_readRound_30 : decode cX5_readRound 30 = .ok (.iadd, 1) := by decide +kernel
theorem dX5_readRound_31 : decode cX5_readRound 31 = .ok (.iconst 3, 1) := by decide +kernel
theorem dX5_readRound_32 : decode cX5_readRound 32 = .ok (.iload_n 2, 1) := by decide +kernel
theorem dX5_readRound_33 : decode cX5_readRound 33 = .ok (.iadd, 1) := by decide +kernel
theorem dX5_readRound_34 : decode cX5_readRound 34 = .ok (.iastore, 1) := by decide +kernel
theorem dX5_readRound_35 : decode cX5_readRound 35 = .ok (.iconst 1, 1) := by decide +kernel
theorem dX5_readRound_36 : decode cX5_readRound 36 = .ok (.istore_n 3, 1) := by decide +kernel
theorem dX5_readRound_37 : decode cX5_readRound 37 = .ok (.iload_n 3, 1) := by decide +kernel
theorem dX5_readRound_38 : decode cX5_readRound 38 = .ok (.iconst 3, 1) := by decide +kernel
theorem dX5_readRound_39 : decode cX5_readRound 39 = .ok (.if_icmp .gt 91, 3) := by decide +kernel
theorem dX5_readRound_42 : decode cX5_readRound 42 = .ok (.iload_n 3, 1) := by decide +kernel
theorem dX5_readRound_43 : decode cX5_readRound 43 = .ok (.iconst 3, 1) := by decide +kernel
theorem dX5_readRound_44 : decode cX5_readRound 44 = .ok (.if_icmp .ne 20, 3) := by decide +kernel
theorem dX5_readRound_47 : decode cX5_readRound 47 = .ok (.aload_n 0, 1) := by decide +kernel
theorem dX5_readRound_48 : decode cX5_readRound 48 = .ok (.getfield 15, 3) := by decide +kernel
theorem dX5_readRound_51 : decode cX5_readRound 51 = .ok (.aload_n 0, 1) := by decide +kernel
theorem dX5_readRound_52 : decode cX5_readRound 52 = .ok (.getfield 31, 3) := by decide +kernel
theorem dX5_readRound_55 : decode cX5_readRound 55 = .ok (.iaload, 1) := by decide +kernel
theorem dX5_readRound_56 : decode cX5_readRound 56 = .ok (.bipush 19, 2) := by decide +kernel
theorem dX5_readRound_58 : decode cX5_readRound 58 = .ok (.if_icmp .eq 6, 3) := by decide +kernel
theorem dX5_readRound_61 : decode cX5_readRound 61 = .ok (.goto 69, 3) := by decide +kernel
theorem dX5_readRound_64 : decode cX5_readRound 64 = .ok (.iload_n 3, 1) := by decide +kernel
theorem dX5_readRound_65 : decode cX5_readRound 65 = .ok (.iconst 2, 1) := by decide +kernel
theorem dX5_readRound_66 : decode cX5_readRound 66 = .ok (.if_icmp .ne 19, 3) := by decide +kernel
theorem dX5_readRound_69 : decode cX5_readRound 69 = .ok (.aload_n 0, 1) := by decide +kernel
theorem dX5_readRound_70 : decode cX5_readRound 70 = .ok (.getfield 15, 3) := by decide +kernel
theorem dX5_readRound_73 : decode cX5_readRound 73 = .ok (.aload_n 0, 1) := by decide +kernel
theorem dX5_readRound_74 : decode cX5_readRound 74 = .ok (.getfield 31, 3) := by decide +kernel
theorem dX5_readRound_77 : decode cX5_readRound 77 = .ok (.iaload, 1) := by decide +kernel
theorem dX5_readRound_78 : decode cX5_readRound 78 = .ok (.bipush 18, 2) := by decide +kernel
theorem dX5_readRound_80 : decode cX5_readRound 80 = .ok (.if_icmp .eq 5, 3) := by decide +kernel
theorem dX5_readRound_83 : decode cX5_readRound 83 = .ok (.iconst 0, 1) := by decide +kernel
theorem dX5_readRound_84 : decode cX5_readRound 84 = .ok (.ireturn, 1) := by decide +kernel
theorem dX5_readRound_85 : decode cX5_readRound 85 = .ok (.aload_n 0, 1) := by decide +kernel
theorem dX5_readRound_86 : decode cX5_readRound 86 = .ok (.dup, 1) := by decide +kernel
theorem dX5_readRound_87 : decode cX5_readRound 87 = .ok (.getfield 31, 3) := by decide +kernel
theorem dX5_readRound_90 : decode cX5_readRound 90 = .ok (.iconst 1, 1) := by decide +kernel
theorem dX5_readRound_91 : decode cX5_readRound 91 = .ok (.iadd, 1) := by decide +kernel
theorem dX5_readRound_92 : decode cX5_readRound 92 = .ok (.putfield 31, 3) := by decide +kernel
theorem dX5_readRound_95 : decode cX5_readRound 95 = .ok (.aload_n 0, 1) := by decide +kernel
theorem dX5_readRound_96 : decode cX5_readRound 96 = .ok (.getfield 25, 3) := by decide +kernel
theorem dX5_readRound_99 : decode cX5_readRound 99 = .ok (.iload_n 1, 1) := by decide +kernel
theorem dX5_readRound_100 : decode cX5_readRound 100 = .ok (.iload_n 3, 1) := by decide +kernel
theorem dX5_readRound_101 : decode cX5_readRound 101 = .ok (.iadd, 1) := by decide +kernel
theorem dX5_readRound_102 : decode cX5_readRound 102 = .ok (.aload_n 0, 1) := by decide +kernel
theorem dX5_readRound_103 : decode cX5_readRound 103 = .ok (.getfield 34, 3) := by decide +kernel
theorem dX5_readRound_106 : decode cX5_readRound 106 = .ok (.iastore, 1) := by decide +kernel
theorem dX5_readRound_107 : decode cX5_readRound 107 = .ok (.aload_n 0, 1) := by decide +kernel
theorem dX5_readRound_108 : decode cX5_readRound 108 = .ok (.iconst 0, 1) := by decide +kernel
theorem dX5_readRound_109 : decode cX5_readRound 109 = .ok (.invokevirtual 108, 3) := by decide +kernel
theorem dX5_readRound_112 : decode cX5_readRound 112 = .ok (.ifCond .ne 5, 3) := by decide +kernel
theorem dX5_readRound_115 : decode cX5_readRound 115 = .ok (.iconst 0, 1) := by decide +kernel
theorem dX5_readRound_116 : decode cX5_readRound 116 = .ok (.ireturn, 1) := by decide +kernel
theorem dX5_readRound_117 : decode cX5_readRound 117 = .ok (.aload_n 0, 1) := by decide +kernel
theorem dX5_readRound_118 : decode cX5_readRound 118 = .ok (.iconst 0, 1) := by decide +kernel
theorem dX5_readRound_119 : decode cX5_readRound 119 = .ok (.iconst 0, 1) := by decide +kernel
theorem dX5_readRound_120 : decode cX5_readRound 120 = .ok (.invokevirtual 111, 3) := by decide +kernel
theorem dX5_readRound_123 : decode cX5_readRound 123 = .ok (.pop, 1) := by decide +kernel
theorem dX5_readRound_124 : decode cX5_readRound 124 = .ok (.iinc 3 1, 3) := by decide +kernel
theorem dX5_readRound_127 : decode cX5_readRound 127 = .ok (.goto (-90), 3) := by decide +kernel
theorem dX5_readRound_130 : decode cX5_readRound 130 = .ok (.aload_n 0, 1) := by decide +kernel
theorem dX5_readRound_131 : decode cX5_readRound 131 = .ok (.getfield 25, 3) := by decide +kernel
theorem dX5_readRound_134 : decode cX5_readRound 134 = .ok (.iload_n 1, 1) := by decide +kernel
theorem dX5_readRound_135 : decode cX5_readRound 135 = .ok (.iconst 4, 1) := by decide +kernel
theorem dX5_readRound_136 : decode cX5_readRound 136 = .ok (.iadd, 1) := by decide +kernel
theorem dX5_readRound_137 : decode cX5_readRound 137 = .ok (.iconst 1, 1) := by decide +kernel
theorem dX5_readRound_138 : decode cX5_readRound 138 = .ok (.iastore, 1) := by decide +kernel
theorem dX5_readRound_139 : decode cX5_readRound 139 = .ok (.aload_n 0, 1) := by decide +kernel
theorem dX5_readRound_140 : decode cX5_readRound 140 = .ok (.getfield 15, 3) := by decide +kernel
theorem dX5_readRound_143 : decode cX5_readRound 143 = .ok (.aload_n 0, 1) := by decide +kernel
theorem dX5_readRound_144 : decode cX5_readRound 144 = .ok (.getfield 31, 3) := by decide +kernel
theorem dX5_readRound_147 : decode cX5_readRound 147 = .ok (.iaload, 1) := by decide +kernel
theorem dX5_readRound_148 : decode cX5_readRound 148 = .ok (.bipush 20, 2) := by decide +kernel
theorem dX5_readRound_150 : decode cX5_readRound 150 = .ok (.if_icmp .ne 76, 3) := by decide +kernel
theorem dX5_readRound_153 : decode cX5_readRound 153 = .ok (.aload_n 0, 1) := by decide +kernel
theorem dX5_readRound_154 : decode cX5_readRound 154 = .ok (.dup, 1) := by decide +kernel
theorem dX5_readRound_155 : decode cX5_readRound 155 = .ok (.getfield 31, 3) := by decide +kernel
theorem dX5_readRound_158 : decode cX5_readRound 158 = .ok (.iconst 1, 1) := by decide +kernel
theorem dX5_readRound_159 : decode cX5_readRound 159 = .ok (.iadd, 1) := by decide +kernel
theorem dX5_readRound_160 : decode cX5_readRound 160 = .ok (.putfield 31, 3) := by decide +kernel
theorem dX5_readRound_163 : decode cX5_readRound 163 = .ok (.aload_n 0, 1) := by decide +kernel
theorem dX5_readRound_164 : decode cX5_readRound 164 = .ok (.getfield 15, 3) := by decide +kernel
theorem dX5_readRound_167 : decode cX5_readRound 167 = .ok (.aload_n 0, 1) := by decide +kernel
theorem dX5_readRound_168 : decode cX5_readRound 168 = .ok (.getfield 31, 3) := by decide +kernel
theorem dX5_readRound_171 : decode cX5_readRound 171 = .ok (.iaload, 1) := by decide +kernel
theorem dX5_readRound_172 : decode cX5_readRound 172 = .ok (.sipush 1000, 3) := by decide +kernel
theorem dX5_readRound_175 : decode cX5_readRound 175 = .ok (.if_icmp .le 18, 3) := by decide +kernel
theorem dX5_readRound_178 : decode cX5_readRound 178 = .ok (.aload_n 0, 1) := by decide +kernel
theorem dX5_readRound_179 : decode cX5_readRound 179 = .ok (.getfield 15, 3) := by decide +kernel
theorem dX5_readRound_182 : decode cX5_readRound 182 = .ok (.aload_n 0, 1) := by decide +kernel
theorem dX5_readRound_183 : decode cX5_readRound 183 = .ok (.getfield 31, 3) := by decide +kernel
theorem dX5_readRound_186 : decode cX5_readRound 186 = .ok (.iaload, 1) := by decide +kernel
theorem dX5_readRound_187 : decode cX5_readRound 187 = .ok (.sipush 1020, 3) := by decide +kernel
theorem dX5_readRound_190 : decode cX5_readRound 190 = .ok (.if_icmp .le 5, 3) := by decide +kernel
theorem dX5_readRound_193 : decode cX5_readRound 193 = .ok (.iconst 0, 1) := by decide +kernel
theorem dX5_readRound_194 : decode cX5_readRound 194 = .ok (.ireturn, 1) := by decide +kernel
theorem dX5_readRound_195 : decode cX5_readRound 195 = .ok (.aload_n 0, 1) := by decide +kernel
theorem dX5_readRound_196 : decode cX5_readRound 196 = .ok (.getfield 25, 3) := by decide +kernel
theorem dX5_readRound_199 : decode cX5_readRound 199 = .ok (.iload_n 1, 1) := by decide +kernel
theorem dX5_readRound_200 : decode cX5_readRound 200 = .ok (.iconst 4, 1) := by decide +kernel
theorem dX5_readRound_201 : decode cX5_readRound 201 = .ok (.iadd, 1) := by decide +kernel
theorem dX5_readRound_202 : decode cX5_readRound 202 = .ok (.aload_n 0, 1) := by decide +kernel
theorem dX5_readRound_203 : decode cX5_readRound 203 = .ok (.getfield 15, 3) := by decide +kernel
theorem dX5_readRound_206 : decode cX5_readRound 206 = .ok (.aload_n 0, 1) := by decide +kernel
theorem dX5_readRound_207 : decode cX5_readRound 207 = .ok (.getfield 31, 3) := by decide +kernel
theorem dX5_readRound_210 : decode cX5_readRound 210 = .ok (.iaload, 1) := by decide +kernel
theorem dX5_readRound_211 : decode cX5_readRound 211 = .ok (.sipush 1000, 3) := by decide +kernel
theorem dX5_readRound_214 : decode cX5_readRound 214 = .ok (.isub, 1) := by decide +kernel
theorem dX5_readRound_215 : decode cX5_readRound 215 = .ok (.iastore, 1) := by decide +kernel
theorem dX5_readRound_216 : decode cX5_readRound 216 = .ok (.aload_n 0, 1) := by decide +kernel
theorem dX5_readRound_217 : decode cX5_readRound 217 = .ok (.dup, 1) := by decide +kernel
theorem dX5_readRound_218 : decode cX5_readRound 218 = .ok (.getfield 31, 3) := by decide +kernel
theorem dX5_readRound_221 : decode cX5_readRound 221 = .ok (.iconst 1, 1) := by decide +kernel
theorem dX5_readRound_222 : decode cX5_readRound 222 = .ok (.iadd, 1) := by decide +kernel
theorem dX5_readRound_223 : decode cX5_readRound 223 = .ok (.putfield 31, 3) := by decide +kernel
theorem dX5_readRound_226 : decode cX5_readRound 226 = .ok (.iconst 1, 1) := by decide +kernel
theorem dX5_readRound_227 : decode cX5_readRound 227 = .ok (.ireturn, 1) := by decide +kernel
set_option maxRecDepth 20000 in
theorem T_X5_readRound_37 {Q : Option Value → ah_T → Prop} {h : ah_T} (hs : Sh h) (x1 : Int32) (x3 : Int32) (ht : ((3 < x3 → (vp_in (x1 + 4) (ah_n h 24)) ∧ (∀ h14, h14 = ah_si h 24 (Int32.toNatClampNeg (x1 + 4)) 1 → (vp_in (ah_i h14 20 6) (ah_n h14 21)) ∧ ((¬ (ah_i h14 21 (Int32.toNatClampNeg (ah_i h14 20 6))) = 20 → Q (some (.int 1)) h14) ∧ ((ah_i h14 21 (Int32.toNatClampNeg (ah_i h14 20 6))) = 20 → (∀ h19, h19 = ah_si h14 20 6 ((ah_i h14 20 6) + 1) → (vp_in (ah_i h19 20 6) (ah_n h19 21)) ∧ (((ah_i h19 21 (Int32.toNatClampNeg (ah_i h19 20 6))) ≤ 1000 → Q (some (.int 0)) h19) ∧ (¬ (ah_i h19 21 (Int32.toNatClampNeg (ah_i h19 20 6))) ≤ 1000 → (vp_in (ah_i h19 20 6) (ah_n h19 21)) ∧ (((ah_i h19 21 (Int32.toNatClampNeg (ah_i h19 20 6))) ≤ 1020 → (vp_in (ah_i h19 20 6) (ah_n h19 21)) ∧ (vp_in (x1 + 4) (ah_n h19 24)) ∧ (∀ h28, h28 = ah_si h19 24 (Int32.toNatClampNeg (x1 + 4)) ((ah_i h19 21 (Int32.toNatClampNeg (ah_i h19 20 6))) - 1000) → (∀ h31, h31 = ah_si h28 20 6 ((ah_i h28 20 6) + 1) → Q (some (.int 1)) h31))) ∧ (¬ (ah_i h19 21 (Int32.toNatClampNeg (ah_i h19 20 6))) ≤ 1020 → Q (some (.int 0)) h19))))))))) ∧ (¬ 3 < x3 → ((¬ x3 = 3 → ((¬ x3 = 2 → (∀ h36, h36 = ah_si h 20 6 ((ah_i h 20 6) + 1) → (vp_in (x1 + x3) (ah_n h36 24)) ∧ (∀ h40, h40 = ah_si h36 24 (Int32.toNatClampNeg (x1 + x3)) (ah_i h36 20 7) → (Mt (mX5_readSum 60) [.ref 20, .int 0] h40 (ab_qi fun v45 h43 => Sh h43 ∧ ((¬ v45 = 0 → (Mt mX5_emit [.ref 20, .int 0, .int 0] h43 (ab_qi fun v49 h47 => Sh h47 ∧ Wp mX5_readRound Q 0 0 37 [some (.ref 20), some (.int x1), none, some (.int (x3 + 1))] [] h47))) ∧ (v45 = 0 → Q (some (.int 0)) h43))))))) ∧ (x3 = 2 → (vp_in (ah_i h 20 6) (ah_n h 21)) ∧ (((ah_i h 21 (Int32.toNatClampNeg (ah_i h 20 6))) = 18 → (∀ h52, h52 = ah_si h 20 6 ((ah_i h 20 6) + 1) → (vp_in (x1 + x3) (ah_n h52 24)) ∧ (∀ h56, h56 = ah_si h52 24 (Int32.toNatClampNeg (x1 + x3)) (ah_i h52 20 7) → (Mt (mX5_readSum 60) [.ref 20, .int 0] h56 (ab_qi fun v61 h59 => Sh h59 ∧ ((¬ v61 = 0 → (Mt mX5_emit [.ref 20, .int 0, .int 0] h59 (ab_qi fun v65 h63 => Sh h63 ∧ Wp mX5_readRound Q 0 0 37 [some (.ref 20), some (.int x1), none, some (.int (x3 + 1))] [] h63))) ∧ (v61 = 0 → Q (some (.int 0)) h59))))))) ∧ (¬ (ah_i h 21 (Int32.toNatClampNeg (ah_i h 20 6))) = 18 → Q (some (.int 0)) h))))) ∧ (x3 = 3 → (vp_in (ah_i h 20 6) (ah_n h 21)) ∧ (((ah_i h 21 (Int32.toNatClampNeg (ah_i h 20 6))) = 19 → ((¬ x3 = 2 → (∀ h69, h69 = ah_si h 20 6 ((ah_i h 20 6) + 1) → (vp_in (x1 + x3) (ah_n h69 24)) ∧ (∀ h73, h73 = ah_si h69 24 (Int32.toNatClampNeg (x1 + x3)) (ah_i h69 20 7) → (Mt (mX5_readSum 60) [.ref 20, .int 0] h73 (ab_qi fun v78 h76 => Sh h76 ∧ ((¬ v78 = 0 → (Mt mX5_emit [.ref 20, .int 0, .int 0] h76 (ab_qi fun v82 h80 => Sh h80 ∧ Wp mX5_readRound Q 0 0 37 [some (.ref 20), some (.int x1), none, some (.int (x3 + 1))] [] h80))) ∧ (v78 = 0 → Q (some (.int 0)) h76))))))) ∧ (x3 = 2 → (vp_in (ah_i h 20 6) (ah_n h 21)) ∧ (((ah_i h 21 (Int32.toNatClampNeg (ah_i h 20 6))) = 18 → (∀ h85, h85 = ah_si h 20 6 ((ah_i h 20 6) + 1) → (vp_in (x1 + x3) (ah_n h85 24)) ∧ (∀ h89, h89 = ah_si h85 24 (Int32.toNatClampNeg (x1 + x3)) (ah_i h85 20 7) → (Mt (mX5_readSum 60) [.ref 20, .int 0] h89 (ab_qi fun v94 h92 => Sh h92 ∧ ((¬ v94 = 0 → (Mt mX5_emit [.ref 20, .int 0, .int 0] h92 (ab_qi fun v98 h96 => Sh h96 ∧ Wp mX5_readRound Q 0 0 37 [some (.ref 20), some (.int x1), none, some (.int (x3 + 1))] [] h96))) ∧ (v94 = 0 → Q (some (.int 0)) h92))))))) ∧ (¬ (ah_i h 21 (Int32.toNatClampNeg (ah_i h 20 6))) = 18 → Q (some (.int 0)) h))))) ∧ (¬ (ah_i h 21 (Int32.toNatClampNeg (ah_i h 20 6))) = 19 → (vp_in (x1 + 4) (ah_n h 24)) ∧ (∀ h100, h100 = ah_si h 24 (Int32.toNatClampNeg (x1 + 4)) 1 → (vp_in (ah_i h100 20 6) (ah_n h100 21)) ∧ ((¬ (ah_i h100 21 (Int32.toNatClampNeg (ah_i h100 20 6))) = 20 → Q (some (.int 1)) h100) ∧ ((ah_i h100 21 (Int32.toNatClampNeg (ah_i h100 20 6))) = 20 → (∀ h105, h105 = ah_si h100 20 6 ((ah_i h100 20 6) + 1) → (vp_in (ah_i h105 20 6) (ah_n h105 21)) ∧ (((ah_i h105 21 (Int32.toNatClampNeg (ah_i h105 20 6))) ≤ 1000 → Q (some (.int 0)) h105) ∧ (¬ (ah_i h105 21 (Int32.toNatClampNeg (ah_i h105 20 6))) ≤ 1000 → (vp_in (ah_i h105 20 6) (ah_n h105 21)) ∧ (((ah_i h105 21 (Int32.toNatClampNeg (ah_i h105 20 6))) ≤ 1020 → (vp_in (ah_i h105 20 6) (ah_n h105 21)) ∧ (vp_in (x1 + 4) (ah_n h105 24)) ∧ (∀ h114, h114 = ah_si h105 24 (Int32.toNatClampNeg (x1 + 4)) ((ah_i h105 21 (Int32.toNatClampNeg (ah_i h105 20 6))) - 1000) → (∀ h117, h117 = ah_si h114 20 6 ((ah_i h114 20 6) + 1) → Q (some (.int 1)) h117))) ∧ (¬ (ah_i h105 21 (Int32.toNatClampNeg (ah_i h105 20 6))) ≤ 1020 → Q (some (.int 0)) h105))))))))))))))) : Wp mX5_readRound Q 0 0 37 [some (.ref 20), some (.int x1), none, some (.int x3)] [] h := by
  refine ab_iload_n (i := 3) dX5_readRound_37 rfl rfl ?_
  refine ab_iconst (v := 3) dX5_readRound_38 (by decide) ?_
  refine ab_icmp_gt (tgt := 130) dX5_readRound_39 (by decide) (fun c12 => ?_) (fun c12 => ?_)
  · have ht := ht.1 c12
    refine ab_aload_n (i := 0) dX5_readRound_130 rfl rfl ?_
    refine ab_getR (b := 24) f_X5_25 rfl (sh_k hs 20 5 (by decide) rfl) (sh_r hs 30 rfl) dX5_readRound_131 ?_
    refine ab_iload_n (i := 1) dX5_readRound_134 rfl rfl ?_
    refine ab_iconst (v := 4) dX5_readRound_135 (by decide) ?_
    refine ab_iadd dX5_readRound_136 ?_
    refine ab_iconst (v := 1) dX5_readRound_137 (by decide) ?_
    obtain ⟨hc13, ht⟩ := ht
    refine ab_iast (sh_k hs 24 14 (by decide) rfl) hc13 dX5_readRound_138 ?_
    refine Wp.nm fun h14 e15 => ?_
    have ht := ht h14 e15
    have hs16 : Sh h14 := by rw [e15]; exact sh_si hs
    refine ab_aload_n (i := 0) dX5_readRound_139 rfl rfl ?_
    refine ab_getR (b := 21) f_X5_15 rfl (sh_k hs16 20 5 (by decide) rfl) (sh_r hs16 27 rfl) dX5_readRound_140 ?_
    refine ab_aload_n (i := 0) dX5_readRound_143 rfl rfl ?_
    refine ab_getI f_X5_31 rfl (sh_k hs16 20 5 (by decide) rfl) dX5_readRound_144 ?_
    obtain ⟨hc17, ht⟩ := ht
    refine ab_iald (sh_k hs16 21 14 (by decide) rfl) hc17 dX5_readRound_147 ?_
    refine ab_bipush (v := 20) dX5_readRound_148 (by decide) ?_
    refine ab_icmp_ne (tgt := 226) dX5_readRound_150 (by decide) (fun c18 => ?_) (fun c18 => ?_)
    · have ht := ht.1 c18
      refine ab_iconst (v := 1) dX5_readRound_226 (by decide) ?_
      exact ab_zret rfl rfl dX5_readRound_227 (Nat.le_of_ble_eq_true rfl) (Nat.le_of_ble_eq_true rfl) ht
    · have ht := ht.2 c18
      refine ab_aload_n (i := 0) dX5_readRound_153 rfl rfl ?_
      refine ab_dup dX5_readRound_154 rfl ?_
      refine ab_getI f_X5_31 rfl (sh_k hs16 20 5 (by decide) rfl) dX5_readRound_155 ?_
      refine ab_iconst (v := 1) dX5_readRound_158 (by decide) ?_
      refine ab_iadd dX5_readRound_159 ?_
      refine ab_putI f_X5_31 (Or.inl rfl) rfl (sh_k hs16 20 5 (by decide) rfl) rfl rfl dX5_readRound_160 ?_
      refine Wp.nm fun h19 e20 => ?_
      have ht := ht h19 e20
      have hs21 : Sh h19 := by rw [e20]; exact sh_si hs16
      refine ab_aload_n (i := 0) dX5_readRound_163 rfl rfl ?_
      refine ab_getR (b := 21) f_X5_15 rfl (sh_k hs21 20 5 (by decide) rfl) (sh_r hs21 27 rfl) dX5_readRound_164 ?_
      refine ab_aload_n (i := 0) dX5_readRound_167 rfl rfl ?_
      refine ab_getI f_X5_31 rfl (sh_k hs21 20 5 (by decide) rfl) dX5_readRound_168 ?_
      obtain ⟨hc22, ht⟩ := ht
      refine ab_iald (sh_k hs21 21 14 (by decide) rfl) hc22 dX5_readRound_171 ?_
      refine ab_sipush (v := 1000) dX5_readRound_172 (by decide) ?_
      refine ab_icmp_le (tgt := 193) dX5_readRound_175 (by decide) (fun c23 => ?_) (fun c23 => ?_)
      · have ht := ht.1 c23
        refine ab_iconst (v := 0) dX5_readRound_193 (by decide) ?_
        exact ab_zret rfl rfl dX5_readRound_194 (Nat.le_of_ble_eq_true rfl) (Nat.le_of_ble_eq_true rfl) ht
      · have ht := ht.2 c23
        refine ab_aload_n (i := 0) dX5_readRound_178 rfl rfl ?_
        refine ab_getR (b := 21) f_X5_15 rfl (sh_k hs21 20 5 (by decide) rfl) (sh_r hs21 27 rfl) dX5_readRound_179 ?_
        refine ab_aload_n (i := 0) dX5_readRound_182 rfl rfl ?_
        refine ab_getI f_X5_31 rfl (sh_k hs21 20 5 (by decide) rfl) dX5_readRound_183 ?_
        obtain ⟨hc24, ht⟩ := ht
        refine ab_iald (sh_k hs21 21 14 (by decide) rfl) hc24 dX5_readRound_186 ?_
        refine ab_sipush (v := 1020) dX5_readRound_187 (by decide) ?_
        refine ab_icmp_le (tgt := 195) dX5_readRound_190 (by decide) (fun c25 => ?_) (fun c25 => ?_)
        · have ht := ht.1 c25
          refine ab_aload_n (i := 0) dX5_readRound_195 rfl rfl ?_
          refine ab_getR (b := 24) f_X5_25 rfl (sh_k hs21 20 5 (by decide) rfl) (sh_r hs21 30 rfl) dX5_readRound_196 ?_
          refine ab_iload_n (i := 1) dX5_readRound_199 rfl rfl ?_
          refine ab_iconst (v := 4) dX5_readRound_200 (by decide) ?_
          refine ab_iadd dX5_readRound_201 ?_
          refine ab_aload_n (i := 0) dX5_readRound_202 rfl rfl ?_
          refine ab_getR (b := 21) f_X5_15 rfl (sh_k hs21 20 5 (by decide) rfl) (sh_r hs21 27 rfl) dX5_readRound_203 ?_
          refine ab_aload_n (i := 0) dX5_readRound_206 rfl rfl ?_
          refine ab_getI f_X5_31 rfl (sh_k hs21 20 5 (by decide) rfl) dX5_readRound_207 ?_
          obtain ⟨hc26, ht⟩ := ht
          refine ab_iald (sh_k hs21 21 14 (by decide) rfl) hc26 dX5_readRound_210 ?_
          refine ab_sipush (v := 1000) dX5_readRound_211 (by decide) ?_
          refine ab_isub dX5_readRound_214 ?_
          obtain ⟨hc27, ht⟩ := ht
          refine ab_iast (sh_k hs21 24 14 (by decide) rfl) hc27 dX5_readRound_215 ?_
          refine Wp.nm fun h28 e29 => ?_
          have ht := ht h28 e29
          have hs30 : Sh h28 := by rw [e29]; exact sh_si hs21
          refine ab_aload_n (i := 0) dX5_readRound_216 rfl rfl ?_
          refine ab_dup dX5_readRound_217 rfl ?_
          refine ab_getI f_X5_31 rfl (sh_k hs30 20 5 (by decide) rfl) dX5_readRound_218 ?_
          refine ab_iconst (v := 1) dX5_readRound_221 (by decide) ?_
          refine ab_iadd dX5_readRound_222 ?_
          refine ab_putI f_X5_31 (Or.inl rfl) rfl (sh_k hs30 20 5 (by decide) rfl) rfl rfl dX5_readRound_223 ?_
          refine Wp.nm fun h31 e32 => ?_
          have ht := ht h31 e32
          have hs33 : Sh h31 := by rw [e32]; exact sh_si hs30
          refine ab_iconst (v := 1) dX5_readRound_226 (by decide) ?_
          exact ab_zret rfl rfl dX5_readRound_227 (Nat.le_of_ble_eq_true rfl) (Nat.le_of_ble_eq_true rfl) ht
        · have ht := ht.2 c25
          refine ab_iconst (v := 0) dX5_readRound_193 (by decide) ?_
          exact ab_zret rfl rfl dX5_readRound_194 (Nat.le_of_ble_eq_true rfl) (Nat.le_of_ble_eq_true rfl) ht
  · have ht := ht.2 c12
    refine ab_iload_n (i := 3) dX5_readRound_42 rfl rfl ?_
    refine ab_iconst (v := 3) dX5_readRound_43 (by decide) ?_
    refine ab_icmp_ne (tgt := 64) dX5_readRound_44 (by decide) (fun c34 => ?_) (fun c34 => ?_)
    · have ht := ht.1 c34
      refine ab_iload_n (i := 3) dX5_readRound_64 rfl rfl ?_
      refine ab_iconst (v := 2) dX5_readRound_65 (by decide) ?_
      refine ab_icmp_ne (tgt := 85) dX5_readRound_66 (by decide) (fun c35 => ?_) (fun c35 => ?_)
      · have ht := ht.1 c35
        refine ab_aload_n (i := 0) dX5_readRound_85 rfl rfl ?_
        refine ab_dup dX5_readRound_86 rfl ?_
        refine ab_getI f_X5_31 rfl (sh_k hs 20 5 (by decide) rfl) dX5_readRound_87 ?_
        refine ab_iconst (v := 1) dX5_readRound_90 (by decide) ?_
        refine ab_iadd dX5_readRound_91 ?_
        refine ab_putI f_X5_31 (Or.inl rfl) rfl (sh_k hs 20 5 (by decide) rfl) rfl rfl dX5_readRound_92 ?_
        refine Wp.nm fun h36 e37 => ?_
        have ht := ht h36 e37
        have hs38 : Sh h36 := by rw [e37]; exact sh_si hs
        refine ab_aload_n (i := 0) dX5_readRound_95 rfl rfl ?_
        refine ab_getR (b := 24) f_X5_25 rfl (sh_k hs38 20 5 (by decide) rfl) (sh_r hs38 30 rfl) dX5_readRound_96 ?_
        refine ab_iload_n (i := 1) dX5_readRound_99 rfl rfl ?_
        refine ab_iload_n (i := 3) dX5_readRound_100 rfl rfl ?_
        refine ab_iadd dX5_readRound_101 ?_
        refine ab_aload_n (i := 0) dX5_readRound_102 rfl rfl ?_
        refine ab_getI f_X5_34 rfl (sh_k hs38 20 5 (by decide) rfl) dX5_readRound_103 ?_
        obtain ⟨hc39, ht⟩ := ht
        refine ab_iast (sh_k hs38 24 14 (by decide) rfl) hc39 dX5_readRound_106 ?_
        refine Wp.nm fun h40 e41 => ?_
        have ht := ht h40 e41
        have hs42 : Sh h40 := by rw [e41]; exact sh_si hs38
        refine ab_aload_n (i := 0) dX5_readRound_107 rfl rfl ?_
        refine ab_iconst (v := 0) dX5_readRound_108 (by decide) ?_
        refine ab_callV (b := 20) (As := [.int 0]) ht (Y_X5_readSum _) l_X5_108 in_X5_readSum se_X5_readSum (sh_k hs42 20 5 (by decide) rfl) (by decide) rfl rfl ⟨(Nat.le_of_ble_eq_true rfl), (Nat.le_of_ble_eq_true rfl), (Nat.le_of_ble_eq_true rfl), (Nat.le_of_ble_eq_true rfl)⟩ dX5_readRound_109 ?_
        rintro _ h43 ⟨v45, rfl, hs44, ht⟩
        refine ab_if_ne (tgt := 117) dX5_readRound_112 (by decide) (fun c46 => ?_) (fun c46 => ?_)
        · have ht := ht.1 c46
          refine ab_aload_n (i := 0) dX5_readRound_117 rfl rfl ?_
          refine ab_iconst (v := 0) dX5_readRound_118 (by decide) ?_
          refine ab_iconst (v := 0) dX5_readRound_119 (by decide) ?_
          refine ab_callV (b := 20) (As := [.int 0, .int 0]) ht (Y_X5_emit) l_X5_111 in_X5_emit se_X5_emit (sh_k hs44 20 5 (by decide) rfl) (by decide) rfl rfl ⟨(Nat.le_of_ble_eq_true rfl), (Nat.le_of_ble_eq_true rfl), (Nat.le_of_ble_eq_true rfl), (Nat.le_of_ble_eq_true rfl)⟩ dX5_readRound_120 ?_
          rintro _ h47 ⟨v49, rfl, hs48, ht⟩
          refine ab_pop dX5_readRound_123 rfl ?_
          refine ab_iinc (i := 3) (x := x3) (v := (x3 + 1)) (L' := [some (.ref 20), some (.int x1), none, some (.int (x3 + 1))]) dX5_readRound_124 rfl rfl (by exact (Nat.le_of_ble_eq_true rfl)) rfl rfl ?_
          refine ab_goto (tgt := 37) dX5_readRound_127 (by decide) ?_
          exact Wp.fewer (L' := [some (.ref 20), some (.int x1), none, some (.int (x3 + 1))]) (show ab_leL _ _ from ⟨rfl, ⟨rfl, ⟨rfl, trivial⟩⟩⟩) ht
        · have ht := ht.2 c46
          refine ab_iconst (v := 0) dX5_readRound_115 (by decide) ?_
          exact ab_zret rfl rfl dX5_readRound_116 (Nat.le_of_ble_eq_true rfl) (Nat.le_of_ble_eq_true rfl) ht
      · have ht := ht.2 c35
        refine ab_aload_n (i := 0) dX5_readRound_69 rfl rfl ?_
        refine ab_getR (b := 21) f_X5_15 rfl (sh_k hs 20 5 (by decide) rfl) (sh_r hs 27 rfl) dX5_readRound_70 ?_
        refine ab_aload_n (i := 0) dX5_readRound_73 rfl rfl ?_
        refine ab_getI f_X5_31 rfl (sh_k hs 20 5 (by decide) rfl) dX5_readRound_74 ?_
        obtain ⟨hc50, ht⟩ := ht
        refine ab_iald (sh_k hs 21 14 (by decide) rfl) hc50 dX5_readRound_77 ?_
        refine ab_bipush (v := 18) dX5_readRound_78 (by decide) ?_
        refine ab_icmp_eq (tgt := 85) dX5_readRound_80 (by decide) (fun c51 => ?_) (fun c51 => ?_)
        · have ht := ht.1 c51
          refine ab_aload_n (i := 0) dX5_readRound_85 rfl rfl ?_
          refine ab_dup dX5_readRound_86 rfl ?_
          refine ab_getI f_X5_31 rfl (sh_k hs 20 5 (by decide) rfl) dX5_readRound_87 ?_
          refine ab_iconst (v := 1) dX5_readRound_90 (by decide) ?_
          refine ab_iadd dX5_readRound_91 ?_
          refine ab_putI f_X5_31 (Or.inl rfl) rfl (sh_k hs 20 5 (by decide) rfl) rfl rfl dX5_readRound_92 ?_
          refine Wp.nm fun h52 e53 => ?_
          have ht := ht h52 e53
          have hs54 : Sh h52 := by rw [e53]; exact sh_si hs
          refine ab_aload_n (i := 0) dX5_readRound_95 rfl rfl ?_
          refine ab_getR (b := 24) f_X5_25 rfl (sh_k hs54 20 5 (by decide) rfl) (sh_r hs54 30 rfl) dX5_readRound_96 ?_
          refine ab_iload_n (i := 1) dX5_readRound_99 rfl rfl ?_
          refine ab_iload_n (i := 3) dX5_readRound_100 rfl rfl ?_
          refine ab_iadd dX5_readRound_101 ?_
          refine ab_aload_n (i := 0) dX5_readRound_102 rfl rfl ?_
          refine ab_getI f_X5_34 rfl (sh_k hs54 20 5 (by decide) rfl) dX5_readRound_103 ?_
          obtain ⟨hc55, ht⟩ := ht
          refine ab_iast (sh_k hs54 24 14 (by decide) rfl) hc55 dX5_readRound_106 ?_
          refine Wp.nm fun h56 e57 => ?_
          have ht := ht h56 e57
          have hs58 : Sh h56 := by rw [e57]; exact sh_si hs54
          refine ab_aload_n (i := 0) dX5_readRound_107 rfl rfl ?_
          refine ab_iconst (v := 0) dX5_readRound_108 (by decide) ?_
          refine ab_callV (b := 20) (As := [.int 0]) ht (Y_X5_readSum _) l_X5_108 in_X5_readSum se_X5_readSum (sh_k hs58 20 5 (by decide) rfl) (by decide) rfl rfl ⟨(Nat.le_of_ble_eq_true rfl), (Nat.le_of_ble_eq_true rfl), (Nat.le_of_ble_eq_true rfl), (Nat.le_of_ble_eq_true rfl)⟩ dX5_readRound_109 ?_
          rintro _ h59 ⟨v61, rfl, hs60, ht⟩
          refine ab_if_ne (tgt := 117) dX5_readRound_112 (by decide) (fun c62 => ?_) (fun c62 => ?_)
          · have ht := ht.1 c62
            refine ab_aload_n (i := 0) dX5_readRound_117 rfl rfl ?_
            refine ab_iconst (v := 0) dX5_readRound_118 (by decide) ?_
            refine ab_iconst (v := 0) dX5_readRound_119 (by decide) ?_
            refine ab_callV (b := 20) (As := [.int 0, .int 0]) ht (Y_X5_emit) l_X5_111 in_X5_emit se_X5_emit (sh_k hs60 20 5 (by decide) rfl) (by decide) rfl rfl ⟨(Nat.le_of_ble_eq_true rfl), (Nat.le_of_ble_eq_true rfl), (Nat.le_of_ble_eq_true rfl), (Nat.le_of_ble_eq_true rfl)⟩ dX5_readRound_120 ?_
            rintro _ h63 ⟨v65, rfl, hs64, ht⟩
            refine ab_pop dX5_readRound_123 rfl ?_
            refine ab_iinc (i := 3) (x := x3) (v := (x3 + 1)) (L' := [some (.ref 20), some (.int x1), none, some (.int (x3 + 1))]) dX5_readRound_124 rfl rfl (by exact (Nat.le_of_ble_eq_true rfl)) rfl rfl ?_
            refine ab_goto (tgt := 37) dX5_readRound_127 (by decide) ?_
            exact Wp.fewer (L' := [some (.ref 20), some (.int x1), none, some (.int (x3 + 1))]) (show ab_leL _ _ from ⟨rfl, ⟨rfl, ⟨rfl, trivial⟩⟩⟩) ht
          · have ht := ht.2 c62
            refine ab_iconst (v := 0) dX5_readRound_115 (by decide) ?_
            exact ab_zret rfl rfl dX5_readRound_116 (Nat.le_of_ble_eq_true rfl) (Nat.le_of_ble_eq_true rfl) ht
        · have ht := ht.2 c51
          refine ab_iconst (v := 0) dX5_readRound_83 (by decide) ?_
          exact ab_zret rfl rfl dX5_readRound_84 (Nat.le_of_ble_eq_true rfl) (Nat.le_of_ble_eq_true rfl) ht
    · have ht := ht.2 c34
      refine ab_aload_n (i := 0) dX5_readRound_47 rfl rfl ?_
      refine ab_getR (b := 21) f_X5_15 rfl (sh_k hs 20 5 (by decide) rfl) (sh_r hs 27 rfl) dX5_readRound_48 ?_
      refine ab_aload_n (i := 0) dX5_readRound_51 rfl rfl ?_
      refine ab_getI f_X5_31 rfl (sh_k hs 20 5 (by decide) rfl) dX5_readRound_52 ?_
      obtain ⟨hc66, ht⟩ := ht
      refine ab_iald (sh_k hs 21 14 (by decide) rfl) hc66 dX5_readRound_55 ?_
      refine ab_bipush (v := 19) dX5_readRound_56 (by decide) ?_
      refine ab_icmp_eq (tgt := 64) dX5_readRound_58 (by decide) (fun c67 => ?_) (fun c67 => ?_)
      · have ht := ht.1 c67
        refine ab_iload_n (i := 3) dX5_readRound_64 rfl rfl ?_
        refine ab_iconst (v := 2) dX5_readRound_65 (by decide) ?_
        refine ab_icmp_ne (tgt := 85) dX5_readRound_66 (by decide) (fun c68 => ?_) (fun c68 => ?_)
        · have ht := ht.1 c68
          refine ab_aload_n (i := 0) dX5_readRound_85 rfl rfl ?_
          refine ab_dup dX5_readRound_86 rfl ?_
          refine ab_getI f_X5_31 rfl (sh_k hs 20 5 (by decide) rfl) dX5_readRound_87 ?_
          refine ab_iconst (v := 1) dX5_readRound_90 (by decide) ?_
          refine ab_iadd dX5_readRound_91 ?_
          refine ab_putI f_X5_31 (Or.inl rfl) rfl (sh_k hs 20 5 (by decide) rfl) rfl rfl dX5_readRound_92 ?_
          refine Wp.nm fun h69 e70 => ?_
          have ht := ht h69 e70
          have hs71 : Sh h69 := by rw [e70]; exact sh_si hs
          refine ab_aload_n (i := 0) dX5_readRound_95 rfl rfl ?_
          refine ab_getR (b := 24) f_X5_25 rfl (sh_k hs71 20 5 (by decide) rfl) (sh_r hs71 30 rfl) dX5_readRound_96 ?_
          refine ab_iload_n (i := 1) dX5_readRound_99 rfl rfl ?_
          refine ab_iload_n (i := 3) dX5_readRound_100 rfl rfl ?_
          refine ab_iadd dX5_readRound_101 ?_
          refine ab_aload_n (i := 0) dX5_readRound_102 rfl rfl ?_
          refine ab_getI f_X5_34 rfl (sh_k hs71 20 5 (by decide) rfl) dX5_readRound_103 ?_
          obtain ⟨hc72, ht⟩ := ht
          refine ab_iast (sh_k hs71 24 14 (by decide) rfl) hc72 dX5_readRound_106 ?_
          refine Wp.nm fun h73 e74 => ?_
          have ht := ht h73 e74
          have hs75 : Sh h73 := by rw [e74]; exact sh_si hs71
          refine ab_aload_n (i := 0) dX5_readRound_107 rfl rfl ?_
          refine ab_iconst (v := 0) dX5_readRound_108 (by decide) ?_
          refine ab_callV (b := 20) (As := [.int 0]) ht (Y_X5_readSum _) l_X5_108 in_X5_readSum se_X5_readSum (sh_k hs75 20 5 (by decide) rfl) (by decide) rfl rfl ⟨(Nat.le_of_ble_eq_true rfl), (Nat.le_of_ble_eq_true rfl), (Nat.le_of_ble_eq_true rfl), (Nat.le_of_ble_eq_true rfl)⟩ dX5_readRound_109 ?_
          rintro _ h76 ⟨v78, rfl, hs77, ht⟩
          refine ab_if_ne (tgt := 117) dX5_readRound_112 (by decide) (fun c79 => ?_) (fun c79 => ?_)
          · have ht := ht.1 c79
            refine ab_aload_n (i := 0) dX5_readRound_117 rfl rfl ?_
            refine ab_iconst (v := 0) dX5_readRound_118 (by decide) ?_
            refine ab_iconst (v := 0) dX5_readRound_119 (by decide) ?_
            refine ab_callV (b := 20) (As := [.int 0, .int 0]) ht (Y_X5_emit) l_X5_111 in_X5_emit se_X5_emit (sh_k hs77 20 5 (by decide) rfl) (by decide) rfl rfl ⟨(Nat.le_of_ble_eq_true rfl), (Nat.le_of_ble_eq_true rfl), (Nat.le_of_ble_eq_true rfl), (Nat.le_of_ble_eq_true rfl)⟩ dX5_readRound_120 ?_
            rintro _ h80 ⟨v82, rfl, hs81, ht⟩
            refine ab_pop dX5_readRound_123 rfl ?_
            refine ab_iinc (i := 3) (x := x3) (v := (x3 + 1)) (L' := [some (.ref 20), some (.int x1), none, some (.int (x3 + 1))]) dX5_readRound_124 rfl rfl (by exact (Nat.le_of_ble_eq_true rfl)) rfl rfl ?_
            refine ab_goto (tgt := 37) dX5_readRound_127 (by decide) ?_
            exact Wp.fewer (L' := [some (.ref 20), some (.int x1), none, some (.int (x3 + 1))]) (show ab_leL _ _ from ⟨rfl, ⟨rfl, ⟨rfl, trivial⟩⟩⟩) ht
          · have ht := ht.2 c79
            refine ab_iconst (v := 0) dX5_readRound_115 (by decide) ?_
            exact ab_zret rfl rfl dX5_readRound_116 (Nat.le_of_ble_eq_true rfl) (Nat.le_of_ble_eq_true rfl) ht
        · have ht := ht.2 c68
          refine ab_aload_n (i := 0) dX5_readRound_69 rfl rfl ?_
          refine ab_getR (b := 21) f_X5_15 rfl (sh_k hs 20 5 (by decide) rfl) (sh_r hs 27 rfl) dX5_readRound_70 ?_
          refine ab_aload_n (i := 0) dX5_readRound_73 rfl rfl ?_
          refine ab_getI f_X5_31 rfl (sh_k hs 20 5 (by decide) rfl) dX5_readRound_74 ?_
          obtain ⟨hc83, ht⟩ := ht
          refine ab_iald (sh_k hs 21 14 (by decide) rfl) hc83 dX5_readRound_77 ?_
          refine ab_bipush (v := 18) dX5_readRound_78 (by decide) ?_
          refine ab_icmp_eq (tgt := 85) dX5_readRound_80 (by decide) (fun c84 => ?_) (fun c84 => ?_)
          · have ht := ht.1 c84
            refine ab_aload_n (i := 0) dX5_readRound_85 rfl rfl ?_
            refine ab_dup dX5_readRound_86 rfl ?_
            refine ab_getI f_X5_31 rfl (sh_k hs 20 5 (by decide) rfl) dX5_readRound_87 ?_
            refine ab_iconst (v := 1) dX5_readRound_90 (by decide) ?_
            refine ab_iadd dX5_readRound_91 ?_
            refine ab_putI f_X5_31 (Or.inl rfl) rfl (sh_k hs 20 5 (by decide) rfl) rfl rfl dX5_readRound_92 ?_
            refine Wp.nm fun h85 e86 => ?_
            have ht := ht h85 e86
            have hs87 : Sh h85 := by rw [e86]; exact sh_si hs
            refine ab_aload_n (i := 0) dX5_readRound_95 rfl rfl ?_
            refine ab_getR (b := 24) f_X5_25 rfl (sh_k hs87 20 5 (by decide) rfl) (sh_r hs87 30 rfl) dX5_readRound_96 ?_
            refine ab_iload_n (i := 1) dX5_readRound_99 rfl rfl ?_
            refine ab_iload_n (i := 3) dX5_readRound_100 rfl rfl ?_
            refine ab_iadd dX5_readRound_101 ?_
            refine ab_aload_n (i := 0) dX5_readRound_102 rfl rfl ?_
            refine ab_getI f_X5_34 rfl (sh_k hs87 20 5 (by decide) rfl) dX5_readRound_103 ?_
            obtain ⟨hc88, ht⟩ := ht
            refine ab_iast (sh_k hs87 24 14 (by decide) rfl) hc88 dX5_readRound_106 ?_
            refine Wp.nm fun h89 e90 => ?_
            have ht := ht h89 e90
            have hs91 : Sh h89 := by rw [e90]; exact sh_si hs87
            refine ab_aload_n (i := 0) dX5_readRound_107 rfl rfl ?_
            refine ab_iconst (v := 0) dX5_readRound_108 (by decide) ?_
            refine ab_callV (b := 20) (As := [.int 0]) ht (Y_X5_readSum _) l_X5_108 in_X5_readSum se_X5_readSum (sh_k hs91 20 5 (by decide) rfl) (by decide) rfl rfl ⟨(Nat.le_of_ble_eq_true rfl), (Nat.le_of_ble_eq_true rfl), (Nat.le_of_ble_eq_true rfl), (Nat.le_of_ble_eq_true rfl)⟩ dX5_readRound_109 ?_
            rintro _ h92 ⟨v94, rfl, hs93, ht⟩
            refine ab_if_ne (tgt := 117) dX5_readRound_112 (by decide) (fun c95 => ?_) (fun c95 => ?_)
            · have ht := ht.1 c95
              refine ab_aload_n (i := 0) dX5_readRound_117 rfl rfl ?_
              refine ab_iconst (v := 0) dX5_readRound_118 (by decide) ?_
              refine ab_iconst (v := 0) dX5_readRound_119 (by decide) ?_
              refine ab_callV (b := 20) (As := [.int 0, .int 0]) ht (Y_X5_emit) l_X5_111 in_X5_emit se_X5_emit (sh_k hs93 20 5 (by decide) rfl) (by decide) rfl rfl ⟨(Nat.le_of_ble_eq_true rfl), (Nat.le_of_ble_eq_true rfl), (Nat.le_of_ble_eq_true rfl), (Nat.le_of_ble_eq_true rfl)⟩ dX5_readRound_120 ?_
              rintro _ h96 ⟨v98, rfl, hs97, ht⟩
              refine ab_pop dX5_readRound_123 rfl ?_
              refine ab_iinc (i := 3) (x := x3) (v := (x3 + 1)) (L' := [some (.ref 20), some (.int x1), none, some (.int (x3 + 1))]) dX5_readRound_124 rfl rfl (by exact (Nat.le_of_ble_eq_true rfl)) rfl rfl ?_
              refine ab_goto (tgt := 37) dX5_readRound_127 (by decide) ?_
              exact Wp.fewer (L' := [some (.ref 20), some (.int x1), none, some (.int (x3 + 1))]) (show ab_leL _ _ from ⟨rfl, ⟨rfl, ⟨rfl, trivial⟩⟩⟩) ht
            · have ht := ht.2 c95
              refine ab_iconst (v := 0) dX5_readRound_115 (by decide) ?_
              exact ab_zret rfl rfl dX5_readRound_116 (Nat.le_of_ble_eq_true rfl) (Nat.le_of_ble_eq_true rfl) ht
          · have ht := ht.2 c84
            refine ab_iconst (v := 0) dX5_readRound_83 (by decide) ?_
            exact ab_zret rfl rfl dX5_readRound_84 (Nat.le_of_ble_eq_true rfl) (Nat.le_of_ble_eq_true rfl) ht
      · have ht := ht.2 c67
        refine ab_goto (tgt := 130) dX5_readRound_61 (by decide) ?_
        refine ab_aload_n (i := 0) dX5_readRound_130 rfl rfl ?_
        refine ab_getR (b := 24) f_X5_25 rfl (sh_k hs 20 5 (by decide) rfl) (sh_r hs 30 rfl) dX5_readRound_131 ?_
        refine ab_iload_n (i := 1) dX5_readRound_134 rfl rfl ?_
        refine ab_iconst (v := 4) dX5_readRound_135 (by decide) ?_
        refine ab_iadd dX5_readRound_136 ?_
        refine ab_iconst (v := 1) dX5_readRound_137 (by decide) ?_
        obtain ⟨hc99, ht⟩ := ht
        refine ab_iast (sh_k hs 24 14 (by decide) rfl) hc99 dX5_readRound_138 ?_
        refine Wp.nm fun h100 e101 => ?_
        have ht := ht h100 e101
        have hs102 : Sh h100 := by rw [e101]; exact sh_si hs
        refine ab_aload_n (i := 0) dX5_readRound_139 rfl rfl ?_
        refine ab_getR (b := 21) f_X5_15 rfl (sh_k hs102 20 5 (by decide) rfl) (sh_r hs102 27 rfl) dX5_readRound_140 ?_
        refine ab_aload_n (i := 0) dX5_readRound_143 rfl rfl ?_
        refine ab_getI f_X5_31 rfl (sh_k hs102 20 5 (by decide) rfl) dX5_readRound_144 ?_
        obtain ⟨hc103, ht⟩ := ht
        refine ab_iald (sh_k hs102 21 14 (by decide) rfl) hc103 dX5_readRound_147 ?_
        refine ab_bipush (v := 20) dX5_readRound_148 (by decide) ?_
        refine ab_icmp_ne (tgt := 226) dX5_readRound_150 (by decide) (fun c104 => ?_) (fun c104 => ?_)
        · have ht := ht.1 c104
          refine ab_iconst (v := 1) dX5_readRound_226 (by decide) ?_
          exact ab_zret rfl rfl dX5_readRound_227 (Nat.le_of_ble_eq_true rfl) (Nat.le_of_ble_eq_true rfl) ht
        · have ht := ht.2 c104
          refine ab_aload_n (i := 0) dX5_readRound_153 rfl rfl ?_
          refine ab_dup dX5_readRound_154 rfl ?_
          refine ab_getI f_X5_31 rfl (sh_k hs102 20 5 (by decide) rfl) dX5_readRound_155 ?_
          refine ab_iconst (v := 1) dX5_readRound_158 (by decide) ?_
          refine ab_iadd dX5_readRound_159 ?_
          refine ab_putI f_X5_31 (Or.inl rfl) rfl (sh_k hs102 20 5 (by decide) rfl) rfl rfl dX5_readRound_160 ?_
          refine Wp.nm fun h105 e106 => ?_
          have ht := ht h105 e106
          have hs107 : Sh h105 := by rw [e106]; exact sh_si hs102
          refine ab_aload_n (i := 0) dX5_readRound_163 rfl rfl ?_
          refine ab_getR (b := 21) f_X5_15 rfl (sh_k hs107 20 5 (by decide) rfl) (sh_r hs107 27 rfl) dX5_readRound_164 ?_
          refine ab_aload_n (i := 0) dX5_readRound_167 rfl rfl ?_
          refine ab_getI f_X5_31 rfl (sh_k hs107 20 5 (by decide) rfl) dX5_readRound_168 ?_
          obtain ⟨hc108, ht⟩ := ht
          refine ab_iald (sh_k hs107 21 14 (by decide) rfl) hc108 dX5_readRound_171 ?_
          refine ab_sipush (v := 1000) dX5_readRound_172 (by decide) ?_
          refine ab_icmp_le (tgt := 193) dX5_readRound_175 (by decide) (fun c109 => ?_) (fun c109 => ?_)
          · have ht := ht.1 c109
            refine ab_iconst (v := 0) dX5_readRound_193 (by decide) ?_
            exact ab_zret rfl rfl dX5_readRound_194 (Nat.le_of_ble_eq_true rfl) (Nat.le_of_ble_eq_true rfl) ht
          · have ht := ht.2 c109
            refine ab_aload_n (i := 0) dX5_readRound_178 rfl rfl ?_
            refine ab_getR (b := 21) f_X5_15 rfl (sh_k hs107 20 5 (by decide) rfl) (sh_r hs107 27 rfl) dX5_readRound_179 ?_
            refine ab_aload_n (i := 0) dX5_readRound_182 rfl rfl ?_
            refine ab_getI f_X5_31 rfl (sh_k hs107 20 5 (by decide) rfl) dX5_readRound_183 ?_
            obtain ⟨hc110, ht⟩ := ht
            refine ab_iald (sh_k hs107 21 14 (by decide) rfl) hc110 dX5_readRound_186 ?_
            refine ab_sipush (v := 1020) dX5_readRound_187 (by decide) ?_
            refine ab_icmp_le (tgt := 195) dX5_readRound_190 (by decide) (fun c111 => ?_) (fun c111 => ?_)
            · have ht := ht.1 c111
              refine ab_aload_n (i := 0) dX5_readRound_195 rfl rfl ?_
              refine ab_getR (b := 24) f_X5_25 rfl (sh_k hs107 20 5 (by decide) rfl) (sh_r hs107 30 rfl) dX5_readRound_196 ?_
              refine ab_iload_n (i := 1) dX5_readRound_199 rfl rfl ?_
              refine ab_iconst (v := 4) dX5_readRound_200 (by decide) ?_
              refine ab_iadd dX5_readRound_201 ?_
              refine ab_aload_n (i := 0) dX5_readRound_202 rfl rfl ?_
              refine ab_getR (b := 21) f_X5_15 rfl (sh_k hs107 20 5 (by decide) rfl) (sh_r hs107 27 rfl) dX5_readRound_203 ?_
              refine ab_aload_n (i := 0) dX5_readRound_206 rfl rfl ?_
              refine ab_getI f_X5_31 rfl (sh_k hs107 20 5 (by decide) rfl) dX5_readRound_207 ?_
              obtain ⟨hc112, ht⟩ := ht
              refine ab_iald (sh_k hs107 21 14 (by decide) rfl) hc112 dX5_readRound_210 ?_
              refine ab_sipush (v := 1000) dX5_readRound_211 (by decide) ?_
              refine ab_isub dX5_readRound_214 ?_
              obtain ⟨hc113, ht⟩ := ht
              refine ab_iast (sh_k hs107 24 14 (by decide) rfl) hc113 dX5_readRound_215 ?_
              refine Wp.nm fun h114 e115 => ?_
              have ht := ht h114 e115
              have hs116 : Sh h114 := by rw [e115]; exact sh_si hs107
              refine ab_aload_n (i := 0) dX5_readRound_216 rfl rfl ?_
              refine ab_dup dX5_readRound_217 rfl ?_
              refine ab_getI f_X5_31 rfl (sh_k hs116 20 5 (by decide) rfl) dX5_readRound_218 ?_
              refine ab_iconst (v := 1) dX5_readRound_221 (by decide) ?_
              refine ab_iadd dX5_readRound_222 ?_
              refine ab_putI f_X5_31 (Or.inl rfl) rfl (sh_k hs116 20 5 (by decide) rfl) rfl rfl dX5_readRound_223 ?_
              refine Wp.nm fun h117 e118 => ?_
              have ht := ht h117 e118
              have hs119 : Sh h117 := by rw [e118]; exact sh_si hs116
              refine ab_iconst (v := 1) dX5_readRound_226 (by decide) ?_
              exact ab_zret rfl rfl dX5_readRound_227 (Nat.le_of_ble_eq_true rfl) (Nat.le_of_ble_eq_true rfl) ht
            · have ht := ht.2 c111
              refine ab_iconst (v := 0) dX5_readRound_193 (by decide) ?_
              exact ab_zret rfl rfl dX5_readRound_194 (Nat.le_of_ble_eq_true rfl) (Nat.le_of_ble_eq_true rfl) ht
set_option maxRecDepth 20000 in
theorem T_X5_readRound {Q : Option Value → ah_T → Prop} {h : ah_T} (hs : Sh h) (x1 : Int32) (ht : (vp_in (ah_i h 20 6) (ah_n h 21)) ∧ ((((ah_i h 21 (Int32.toNatClampNeg (ah_i h 20 6))) - 16) = 0 → (vp_in (x1 + 0) (ah_n h 24)) ∧ (∀ h4, h4 = ah_si h 24 (Int32.toNatClampNeg (x1 + 0)) (3 + ((ah_i h 21 (Int32.toNatClampNeg (ah_i h 20 6))) - 16)) → Wp mX5_readRound Q 0 0 37 [some (.ref 20), some (.int x1), none, some (.int 1)] [] h4)) ∧ (¬ ((ah_i h 21 (Int32.toNatClampNeg (ah_i h 20 6))) - 16) = 0 → ((((ah_i h 21 (Int32.toNatClampNeg (ah_i h 20 6))) - 16) = 1 → (vp_in (x1 + 0) (ah_n h 24)) ∧ (∀ h9, h9 = ah_si h 24 (Int32.toNatClampNeg (x1 + 0)) (3 + ((ah_i h 21 (Int32.toNatClampNeg (ah_i h 20 6))) - 16)) → Wp mX5_readRound Q 0 0 37 [some (.ref 20), some (.int x1), none, some (.int 1)] [] h9)) ∧ (¬ ((ah_i h 21 (Int32.toNatClampNeg (ah_i h 20 6))) - 16) = 1 → Q (some (.int 0)) h))))) : Mt mX5_readRound [.ref 20, .int x1] h Q := by
  refine Mt.ofWp rfl (by exact (Nat.le_of_ble_eq_true rfl)) (Wp.fewer (L' := [some (.ref 20), some (.int x1), none, none]) (show ab_leL _ _ from ⟨rfl, ⟨rfl, trivial⟩⟩) ?_)
  refine ab_aload_n (i := 0) dX5_readRound_0 rfl rfl ?_
  refine ab_getR (b := 21) f_X5_15 rfl (sh_k hs 20 5 (by decide) rfl) (sh_r hs 27 rfl) dX5_readRound_1 ?_
  refine ab_aload_n (i := 0) dX5_readRound_4 rfl rfl ?_
  refine ab_getI f_X5_31 rfl (sh_k hs 20 5 (by decide) rfl) dX5_readRound_5 ?_
  obtain ⟨hc1, ht⟩ := ht
  refine ab_iald (sh_k hs 21 14 (by decide) rfl) hc1 dX5_readRound_8 ?_
  refine ab_bipush (v := 16) dX5_readRound_9 (by decide) ?_
  refine ab_isub dX5_readRound_11 ?_
  refine ab_istore_n (i := 2) (L' := [some (.ref 20), some (.int x1), some (.int ((ah_i h 21 (Int32.toNatClampNeg (ah_i h 20 6))) - 16)), none]) dX5_readRound_12 rfl (by exact (Nat.le_of_ble_eq_true rfl)) rfl rfl ?_
  refine ab_iload_n (i := 2) dX5_readRound_13 rfl rfl ?_
  refine ab_if_eq (tgt := 24) dX5_readRound_14 (by decide) (fun c2 => ?_) (fun c2 => ?_)
  · have ht := ht.1 c2
    refine ab_aload_n (i := 0) dX5_readRound_24 rfl rfl ?_
    refine ab_getR (b := 24) f_X5_25 rfl (sh_k hs 20 5 (by decide) rfl) (sh_r hs 30 rfl) dX5_readRound_25 ?_
    refine ab_iload_n (i := 1) dX5_readRound_28 rfl rfl ?_
    refine ab_iconst (v := 0) dX5_readRound_29 (by decide) ?_
    refine ab_iadd dX5_readRound_30 ?_
    refine ab_iconst (v := 3) dX5_readRound_31 (by decide) ?_
    refine ab_iload_n (i := 2) dX5_readRound_32 rfl rfl ?_
    refine ab_iadd dX5_readRound_33 ?_
    obtain ⟨hc3, ht⟩ := ht
    refine ab_iast (sh_k hs 24 14 (by decide) rfl) hc3 dX5_readRound_34 ?_
    refine Wp.nm fun h4 e5 => ?_
    have ht := ht h4 e5
    have hs6 : Sh h4 := by rw [e5]; exact sh_si hs
    refine ab_iconst (v := 1) dX5_readRound_35 (by decide) ?_
    refine ab_istore_n (i := 3) (L' := [some (.ref 20), some (.int x1), some (.int ((ah_i h 21 (Int32.toNatClampNeg (ah_i h 20 6))) - 16)), some (.int 1)]) dX5_readRound_36 rfl (by exact (Nat.le_of_ble_eq_true rfl)) rfl rfl ?_
    exact Wp.fewer (L' := [some (.ref 20), some (.int x1), none, some (.int 1)]) (show ab_leL _ _ from ⟨rfl, ⟨rfl, ⟨rfl, trivial⟩⟩⟩) ht
  · have ht := ht.2 c2
    refine ab_iload_n (i := 2) dX5_readRound_17 rfl rfl ?_
    refine ab_iconst (v := 1) dX5_readRound_18 (by decide) ?_
    refine ab_icmp_eq (tgt := 24) dX5_readRound_19 (by decide) (fun c7 => ?_) (fun c7 => ?_)
    · have ht := ht.1 c7
      refine ab_aload_n (i := 0) dX5_readRound_24 rfl rfl ?_
      refine ab_getR (b := 24) f_X5_25 rfl (sh_k hs 20 5 (by decide) rfl) (sh_r hs 30 rfl) dX5_readRound_25 ?_
      refine ab_iload_n (i := 1) dX5_readRound_28 rfl rfl ?_
      refine ab_iconst (v := 0) dX5_readRound_29 (by decide) ?_
      refine ab_iadd dX5_readRound_30 ?_
      refine ab_iconst (v := 3) dX5_readRound_31 (by decide) ?_
      refine ab_iload_n (i := 2) dX5_readRound_32 rfl rfl ?_
      refine ab_iadd dX5_readRound_33 ?_
      obtain ⟨hc8, ht⟩ := ht
      refine ab_iast (sh_k hs 24 14 (by decide) rfl) hc8 dX5_readRound_34 ?_
      refine Wp.nm fun h9 e10 => ?_
      have ht := ht h9 e10
      have hs11 : Sh h9 := by rw [e10]; exact sh_si hs
      refine ab_iconst (v := 1) dX5_readRound_35 (by decide) ?_
      refine ab_istore_n (i := 3) (L' := [some (.ref 20), some (.int x1), some (.int ((ah_i h 21 (Int32.toNatClampNeg (ah_i h 20 6))) - 16)), some (.int 1)]) dX5_readRound_36 rfl (by exact (Nat.le_of_ble_eq_true rfl)) rfl rfl ?_
      exact Wp.fewer (L' := [some (.ref 20), some (.int x1), none, some (.int 1)]) (show ab_leL _ _ from ⟨rfl, ⟨rfl, ⟨rfl, trivial⟩⟩⟩) ht
    · have ht := ht.2 c7
      refine ab_iconst (v := 0) dX5_readRound_22 (by decide) ?_
      exact ab_zret rfl rfl dX5_readRound_23 (Nat.le_of_ble_eq_true rfl) (Nat.le_of_ble_eq_true rfl) ht
theorem dX5_readIf_0 : decode cX5_readIf 0 = .ok (.aload_n 0, 1) := by decide +kernel
theorem dX5_readIf_1 : decode cX5_readIf 1 = .ok (.getfield 15, 3) := by decide +kernel
theorem dX5_readIf_4 : decode cX5_readIf 4 = .ok (.aload_n 0, 1) := by decide +kernel
theorem dX5_readIf_5 : decode cX5_readIf 5 = .ok (.getfield 31, 3) := by decide +kernel
theorem dX5_readIf_8 : decode cX5_readIf 8 = .ok (.iaload, 1) := by decide +kernel
theorem dX5_readIf_9 : decode cX5_readIf 9 = .ok (.bipush 21, 2) := by decide +kernel
theorem dX5_readIf_11 : decode cX5_readIf 11 = .ok (.if_icmp .eq 5, 3) := by decide +kernel
theorem dX5_readIf_14 : decode cX5_readIf 14 = .ok (.iconst 1, 1) := by decide +kernel
theorem dX5_readIf_15 : decode cX5_readIf 15 = .ok (.ireturn, 1) := by decide +kernel
theorem dX5_readIf_16 : decode cX5_readIf 16 = .ok (.aload_n 0, 1) := by decide +kernel
theorem dX5_readIf_17 : decode cX5_readIf 17 = .ok (.dup, 1) := by decide +kernel
theorem dX5_readIf_18 : decode cX5_readIf 18 = .ok (.getfield 31, 3) := by decide +kernel
theorem dX5_readIf_21 : decode cX5_readIf 21 = .ok (.iconst 1, 1) := by decide +kernel
theorem dX5_readIf_22 : decode cX5_readIf 22 = .ok (.iadd, 1) := by decide +kernel
theorem dX5_readIf_23 : decode cX5_readIf 23 = .ok (.putfield 31, 3) := by decide +kernel
theorem dX5_readIf_26 : decode cX5_readIf 26 = .ok (.aload_n 0, 1) := by decide +kernel
theorem dX5_readIf_27 : decode cX5_readIf 27 = .ok (.getfield 25, 3) := by decide +kernel
theorem dX5_readIf_30 : decode cX5_readIf 30 = .ok (.iload_n 1, 1) := by decide +kernel
theorem dX5_readIf_31 : decode cX5_readIf 31 = .ok (.iconst 5, 1) := by decide +kernel
theorem dX5_readIf_32 : decode cX5_readIf 32 = .ok (.iadd, 1) := by decide +kernel
theorem dX5_readIf_33 : decode cX5_readIf 33 = .ok (.aload_n 0, 1) := by decide +kernel
theorem dX5_readIf_34 : decode cX5_readIf 34 = .ok (.getfield 34, 3) := by decide +kernel
theorem dX5_readIf_37 : decode cX5_readIf 37 = .ok (.iastore, 1) := by decide +kernel
theorem dX5_readIf_38 : decode cX5_readIf 38 = .ok (.aload_n 0, 1) := by decide +kernel
theorem dX5_readIf_39 : decode cX5_readIf 39 = .ok (.iconst 0, 1) := by decide +kernel
theorem dX5_readIf_40 : decode cX5_readIf 40 = .ok (.invokevirtual 114, 3) := by decide +kernel
theorem dX5_readIf_43 : decode cX5_readIf 43 = .ok (.ifCond .ne 5, 3) := by decide +kernel
theorem dX5_readIf_46 : decode cX5_readIf 46 = .ok (.iconst 0, 1) := by decide +kernel
theorem dX5_readIf_47 : decode cX5_readIf 47 = .ok (.ireturn, 1) := by decide +kernel
theorem dX5_readIf_48 : decode cX5_readIf 48 = .ok (.aload_n 0, 1) := by decide +kernel
theorem dX5_readIf_49 : decode cX5_readIf 49 = .ok (.iconst 0, 1) := by decide +kernel
theorem dX5_readIf_50 : decode cX5_readIf 50 = .ok (.iconst 0, 1) := by decide +kernel
theorem dX5_readIf_51 : decode cX5_readIf 51 = .ok (.invokevirtual 111, 3) := by decide +kernel
theorem dX5_readIf_54 : decode cX5_readIf 54 = .ok (.pop, 1) := by decide +kernel
theorem dX5_readIf_55 : decode cX5_readIf 55 = .ok (.iconst 1, 1) := by decide +kernel
theorem dX5_readIf_56 : decode cX5_readIf 56 = .ok (.ireturn, 1) := by decide +kernel
set_option maxRecDepth 20000 in
theorem T_X5_readIf {Q : Option Value → ah_T → Prop} {h : ah_T} (hs : Sh h) (x1 : Int32) (ht : (vp_in (ah_i h 20 6) (ah_n h 21)) ∧ (((ah_i h 21 (Int32.toNatClampNeg (ah_i h 20 6))) = 21 → (∀ h3, h3 = ah_si h 20 6 ((ah_i h 20 6) + 1) → (vp_in (x1 + 5) (ah_n h3 24)) ∧ (∀ h7, h7 = ah_si h3 24 (Int32.toNatClampNeg (x1 + 5)) (ah_i h3 20 7) → (Mt (mX5_readTest 60) [.ref 20, .int 0] h7 (ab_qi fun v12 h10 => Sh h10 ∧ ((¬ v12 = 0 → (Mt mX5_emit [.ref 20, .int 0, .int 0] h10 (ab_qi fun v16 h14 => Sh h14 ∧ Q (some (.int 1)) h14))) ∧ (v12 = 0 → Q (some (.int 0)) h10))))))) ∧ (¬ (ah_i h 21 (Int32.toNatClampNeg (ah_i h 20 6))) = 21 → Q (some (.int 1)) h))) : Mt mX5_readIf [.ref 20, .int x1] h Q := by
  refine Mt.ofWp rfl (by exact (Nat.le_of_ble_eq_true rfl)) (Wp.fewer (L' := [some (.ref 20), some (.int x1)]) (show ab_leL _ _ from ⟨rfl, ⟨rfl, trivial⟩⟩) ?_)
  refine ab_aload_n (i := 0) dX5_readIf_0 rfl rfl ?_
  refine ab_getR (b := 21) f_X5_15 rfl (sh_k hs 20 5 (by decide) rfl) (sh_r hs 27 rfl) dX5_readIf_1 ?_
  refine ab_aload_n (i := 0) dX5_readIf_4 rfl rfl ?_
  refine ab_getI f_X5_31 rfl (sh_k hs 20 5 (by decide) rfl) dX5_readIf_5 ?_
  obtain ⟨hc1, ht⟩ := ht
  refine ab_iald (sh_k hs 21 14 (by decide) rfl) hc1 dX5_readIf_8 ?_
  refine ab_bipush (v := 21) dX5_readIf_9 (by decide) ?_
  refine ab_icmp_eq (tgt := 16) dX5_readIf_11 (by decide) (fun c2 => ?_) (fun c2 => ?_)
  · have ht := ht.1 c2
    refine ab_aload_n (i := 0) dX5_readIf_16 rfl rfl ?_
    refine ab_dup dX5_readIf_17 rfl ?_
    refine ab_getI f_X5_31 rfl (sh_k hs 20 5 (by decide) rfl) dX5_readIf_18 ?_
    refine ab_iconst (v := 1) dX5_readIf_21 (by decide) ?_
    refine ab_iadd dX5_readIf_22 ?_
    refine ab_putI f_X5_31 (Or.inl rfl) rfl (sh_k hs 20 5 (by decide) rfl) rfl rfl dX5_readIf_23 ?_
    refine Wp.nm fun h3 e4 => ?_
    have ht := ht h3 e4
    have hs5 : Sh h3 := by rw [e4]; exact sh_si hs
    refine ab_aload_n (i := 0) dX5_readIf_26 rfl rfl ?_
    refine ab_getR (b := 24) f_X5_25 rfl (sh_k hs5 20 5 (by decide) rfl) (sh_r hs5 30 rfl) dX5_readIf_27 ?_
    refine ab_iload_n (i := 1) dX5_readIf_30 rfl rfl ?_
    refine ab_iconst (v := 5) dX5_readIf_31 (by decide) ?_
    refine ab_iadd dX5_readIf_32 ?_
    refine ab_aload_n (i := 0) dX5_readIf_33 rfl rfl ?_
    refine ab_getI f_X5_34 rfl (sh_k hs5 20 5 (by decide) rfl) dX5_readIf_34 ?_
    obtain ⟨hc6, ht⟩ := ht
    refine ab_iast (sh_k hs5 24 14 (by decide) rfl) hc6 dX5_readIf_37 ?_
    refine Wp.nm fun h7 e8 => ?_
    have ht := ht h7 e8
    have hs9 : Sh h7 := by rw [e8]; exact sh_si hs5
    refine ab_aload_n (i := 0) dX5_readIf_38 rfl rfl ?_
    refine ab_iconst (v := 0) dX5_readIf_39 (by decide) ?_
    refine ab_callV (b := 20) (As := [.int 0]) ht (Y_X5_readTest _) l_X5_114 in_X5_readTest se_X5_readTest (sh_k hs9 20 5 (by decide) rfl) (by decide) rfl rfl ⟨(Nat.le_of_ble_eq_true rfl), (Nat.le_of_ble_eq_true rfl), (Nat.le_of_ble_eq_true rfl), (Nat.le_of_ble_eq_true rfl)⟩ dX5_readIf_40 ?_
    rintro _ h10 ⟨v12, rfl, hs11, ht⟩
    refine ab_if_ne (tgt := 48) dX5_readIf_43 (by decide) (fun c13 => ?_) (fun c13 => ?_)
    · have ht := ht.1 c13
      refine ab_aload_n (i := 0) dX5_readIf_48 rfl rfl ?_
      refine ab_iconst (v := 0) dX5_readIf_49 (by decide) ?_
      refine ab_iconst (v := 0) dX5_readIf_50 (by decide) ?_
      refine ab_callV (b := 20) (As := [.int 0, .int 0]) ht (Y_X5_emit) l_X5_111 in_X5_emit se_X5_emit (sh_k hs11 20 5 (by decide) rfl) (by decide) rfl rfl ⟨(Nat.le_of_ble_eq_true rfl), (Nat.le_of_ble_eq_true rfl), (Nat.le_of_ble_eq_true rfl), (Nat.le_of_ble_eq_true rfl)⟩ dX5_readIf_51 ?_
      rintro _ h14 ⟨v16, rfl, hs15, ht⟩
      refine ab_pop dX5_readIf_54 rfl ?_
      refine ab_iconst (v := 1) dX5_readIf_55 (by decide) ?_
      exact ab_zret rfl rfl dX5_readIf_56 (Nat.le_of_ble_eq_true rfl) (Nat.le_of_ble_eq_true rfl) ht
    · have ht := ht.2 c13
      refine ab_iconst (v := 0) dX5_readIf_46 (by decide) ?_
      exact ab_zret rfl rfl dX5_readIf_47 (Nat.le_of_ble_eq_true rfl) (Nat.le_of_ble_eq_true rfl) ht
  · have ht := ht.2 c2
    refine ab_iconst (v := 1) dX5_readIf_14 (by decide) ?_
    exact ab_zret rfl rfl dX5_readIf_15 (Nat.le_of_ble_eq_true rfl) (Nat.le_of_ble_eq_true rfl) ht
theorem dX5_readTest_0 : decode cX5_readTest 0 = .ok (.iconst (-1), 1) := by decide +kernel
theorem dX5_readTest_1 : decode cX5_readTest 1 = .ok (.istore_n 2, 1) := by decide +kernel
theorem dX5_readTest_2 : decode cX5_readTest 2 = .ok (.iconst 0, 1) := by decide +kernel
theorem dX5_readTest_3 : decode cX5_readTest 3 = .ok (.istore_n 3, 1) := by decide +kernel
theorem dX5_readTest_4 : decode cX5_readTest 4 = .ok (.iload_n 3, 1) := by decide +kernel
theorem dX5_readTest_5 : decode cX5_readTest 5 = .ok (.sipush 400, 3) := by decide +kernel
theorem dX5_readTest_8 : decode cX5_readTest 8 = .ok (.if_icmp .ge 127, 3) := by decide +kernel
theorem dX5_readTest_11 : decode cX5_readTest 11 = .ok (.iconst (-1), 1) := by decide +kernel
theorem dX5_readTest_12 : decode cX5_readTest 12 = .ok (.istore 4, 2) := by decide +kernel
theorem dX5_readTest_14 : decode cX5_readTest 14 = .ok (.iconst 0, 1) := by decide +kernel
theorem dX5_readTest_15 : decode cX5_readTest 15 = .ok (.istore 5, 2) := by decide +kernel
theorem dX5_readTest_17 : decode cX5_readTest 17 = .ok (.iload 5, 2) := by decide +kernel
theorem dX5_readTest_19 : decode cX5_readTest 19 = .ok (.sipush 400, 3) := by decide +kernel
theorem dX5_readTest_22 : decode cX5_readTest 22 = .ok (.if_icmp .ge 61, 3) := by decide +kernel
theorem dX5_readTest_25 : decode cX5_readTest 25 = .ok (.aload_n 0, 1) := by decide +kernel
theorem dX5_readTest_26 : decode cX5_readTest 26 = .ok (.iload_n 1, 1) := by decide +kernel
theorem dX5_readTest_27 : decode cX5_readTest 27 = .ok (.invokevirtual 117, 3) := by decide +kernel
theorem dX5_readTest_30 : decode cX5_readTest 30 = .ok (.ifCond .ne 5, 3) := by decide +kernel
theorem dX5_readTest_33 : decode cX5_readTest 33 = .ok (.iconst 0, 1) := by decide +kernel
theorem dX5_readTest_34 : decode cX5_readTest 34 = .ok (.ireturn, 1) := by decide +kernel
theorem dX5_readTest_35 : decode cX5_readTest 35 = .ok (.aload_n 0, 1) := by decide +kernel
theorem dX5_readTest_36 : decode cX5_readTest 36 = .ok (.getfield 15, 3) := by decide +kernel
theorem dX5_readTest_39 : decode cX5_readTest 39 = .ok (.aload_n 0, 1) := by decide +kernel
theorem dX5_readTest_40 : decode cX5_readTest 40 = .ok (.getfield 31, 3) := by decide +kernel
theorem dX5_readTest_43 : decode cX5_readTest 43 = .ok (.iaload, 1) := by decide +kernel
theorem dX5_readTest_44 : decode cX5_readTest 44 = .ok (.bipush 23, 2) := by decide +kernel
theorem dX5_readTest_46 : decode cX5_readTest 46 = .ok (.if_icmp .eq 6, 3) := by decide +kernel
theorem dX5_readTest_49 : decode cX5_readTest 49 = .ok (.goto 34, 3) := by decide +kernel
theorem dX5_readTest_52 : decode cX5_readTest 52 = .ok (.aload_n 0, 1) := by decide +kernel
theorem dX5_readTest_53 : decode cX5_readTest 53 = .ok (.dup, 1) := by decide +kernel
theorem dX5_readTest_54 : decode cX5_readTest 54 = .ok (.getfield 31, 3) := by decide +kernel
theorem dX5_readTest_57 : decode cX5_readTest 57 = .ok (.iconst 1, 1) := by decide +kernel
theorem dX5_readTest_58 : decode cX5_readTest 58 = .ok (.iadd, 1) := by decide +kernel
theorem dX5_readTest_59 : decode cX5_readTest 59 = .ok (.putfield 31, 3) := by decide +kernel
theorem dX5_readTest_62 : decode cX5_readTest 62 = .ok (.aload_n 0, 1) := by decide +kernel
theorem dX5_readTest_63 : decode cX5_readTest 63 = .ok (.iload 4, 2) := by decide +kernel
theorem dX5_readTest_65 : decode cX5_readTest 65 = .ok (.invokevirtual 120, 3) := by decide +kernel
theorem dX5_readTest_68 : decode cX5_readTest 68 = .ok (.aload_n 0, 1) := by decide +kernel
theorem dX5_readTest_69 : decode cX5_readTest 69 = .ok (.bipush 13, 2) := by decide +kernel
theorem dX5_readTest_71 : decode cX5_readTest 71 = .ok (.iconst 0, 1) := by decide +kernel
theorem dX5_readTest_72 : decode cX5_readTest 72 = .ok (.invokevirtual 111, 3) := by decide +kernel
theorem dX5_readTest_75 : decode cX5_readTest 75 = .ok (.istore 4, 2) := by decide +kernel
theorem dX5_readTest_77 : decode cX5_readTest 77 = .ok (.iinc 5 1, 3) := by decide +kernel
theorem dX5_readTest_80 : decode cX5_readTest 80 = .ok (.goto (-63), 3) := by decide +kernel
theorem dX5_readTest_83 : decode cX5_readTest 83 = .ok (.aload_n 0, 1) := by decide +kernel
theorem dX5_readTest_84 : decode cX5_readTest 84 = .ok (.iload 4, 2) := by decide +kernel
theorem dX5_readTest_86 : decode cX5_readTest 86 = .ok (.invokevirtual 120, 3) := by decide +kernel
theorem dX5_readTest_89 : decode cX5_readTest 89 = .ok (.aload_n 0, 1) := by decide +kernel
theorem dX5_readTest_90 : decode cX5_readTest 90 = .ok (.getfield 15, 3) := by decide +kernel
theorem dX5_readTest_93 : decode cX5_readTest 93 = .ok (.aload_n 0, 1) := by decide +kernel
theorem dX5_readTest_94 : decode cX5_readTest 94 = .ok (.getfield 31, 3) := by decide +kernel
theorem dX5_readTest_97 : decode cX5_readTest 97 = .ok (.iaload, 1) := by decide +kernel
theorem dX5_readTest_98 : decode cX5_readTest 98 = .ok (.bipush 22, 2) := by decide +kernel
theorem dX5_readTest_100 : decode cX5_readTest 100 = .ok (.if_icmp .eq 6, 3) := by decide +kernel
theorem dX5_readTest_103 : decode cX5_readTest 103 = .ok (.goto 32, 3) := by decide +kernel
theorem dX5_readTest_106 : decode cX5_readTest 106 = .ok (.aload_n 0, 1) := by decide +kernel
theorem dX5_readTest_107 : decode cX5_readTest 107 = .ok (.dup, 1) := by decide +kernel
theorem dX5_readTest_108 : decode cX5_readTest 108 = .ok (.getfield 31, 3) := by decide +kernel
theorem dX5_readTest_111 : decode cX5_readTest 111 = .ok (.iconst 1, 1) := by decide +kernel
theorem dX5_readTest_112 : decode cX5_readTest 112 = .ok (.iadd, 1) := by decide +kernel
theorem dX5_readTest_113 : decode cX5_readTest 113 = .ok (.putfield 31, 3) := by decide +kernel
theorem dX5_readTest_116 : decode cX5_readTest 116 = .ok (.aload_n 0, 1) := by decide +kernel
theorem dX5_readTest_117 : decode cX5_readTest 117 = .ok (.iload_n 2, 1) := by decide +kernel
theorem dX5_readTest_118 : decode cX5_readTest 118 = .ok (.invokevirtual 120, 3) := by decide +kernel
theorem dX5_readTest_121 : decode cX5_readTest 121 = .ok (.aload_n 0, 1) := by decide +kernel
theorem dX5_readTest_122 : decode cX5_readTest 122 = .ok (.bipush 12, 2) := by decide +kernel
theorem dX5_readTest_124 : decode cX5_readTest 124 = .ok (.iconst 0, 1) := by decide +kernel
theorem dX5_readTest_125 : decode cX5_readTest 125 = .ok (.invokevirtual 111, 3) := by decide +kernel
theorem dX5_readTest_128 : decode cX5_readTest 128 = .ok (.istore_n 2, 1) := by decide +kernel
theorem dX5_readTest_129 : decode cX5_readTest 129 = .ok (.iinc 3 1, 3) := by decide +kernel
theorem dX5_readTest_132 : decode cX5_readTest 132 = .ok (.goto (-128), 3) := by decide +kernel
theorem dX5_readTest_135 : decode cX5_readTest 135 = .ok (.aload_n 0, 1) := by decide +kernel
theorem dX5_readTest_136 : decode cX5_readTest 136 = .ok (.iload_n 2, 1) := by decide +kernel
theorem dX5_readTest_137 : decode cX5_readTest 137 = .ok (.invokevirtual 120, 3) := by decide +kernel
theorem dX5_readTest_140 : decode cX5_readTest 140 = .ok (.iconst 1, 1) := by decide +kernel
theorem dX5_readTest_141 : decode cX5_readTest 141 = .ok (.ireturn, 1) := by decide +kernel
set_option maxRecDepth 20000 in
theorem T_X5_readTest_4 {d : Nat} (hd : 8 ≤ d) {Q : Option Value → ah_T → Prop} {h : ah_T} (hs : Sh h) (x1 : Int32) (x2 : Int32) (x3 : Int32) (ht : ((400 ≤ x3 → (Mt mX5_aim [.ref 20, .int x2] h (ab_qv fun h2 => Sh h2 ∧ Q (some (.int 1)) h2))) ∧ (¬ 400 ≤ x3 → Wp (mX5_readTest d) Q 0 0 17 [some (.ref 20), some (.int x1), some (.int x2), some (.int x3), some (.int (-1)), some (.int 0)] [] h))) : Wp (mX5_readTest d) Q 0 0 4 [some (.ref 20), some (.int x1), some (.int x2), some (.int x3), none, none] [] h := by
  refine ab_iload_n (i := 3) dX5_readTest_4 rfl rfl ?_
  refine ab_sipush (v := 400) dX5_readTest_5 (by decide) ?_
  refine ab_icmp_ge (tgt := 135) dX5_readTest_8 (by decide) (fun c1 => ?_) (fun c1 => ?_)
  · have ht := ht.1 c1
    refine ab_aload_n (i := 0) dX5_readTest_135 rfl rfl ?_
    refine ab_iload_n (i := 2) dX5_readTest_136 rfl rfl ?_
    refine ab_callV (b := 20) (As := [.int x2]) ht (Y_X5_aim) l_X5_120 in_X5_aim se_X5_aim (sh_k hs 20 5 (by decide) rfl) (by decide) rfl rfl ⟨(show 1 + 1 ≤ d by omega), (Nat.le_of_ble_eq_true rfl), (Nat.le_of_ble_eq_true rfl), (Nat.le_of_ble_eq_true rfl)⟩ dX5_readTest_137 ?_
    rintro _ h2 ⟨rfl, hs3, ht⟩
    refine ab_iconst (v := 1) dX5_readTest_140 (by decide) ?_
    exact ab_zret rfl rfl dX5_readTest_141 (Nat.le_of_ble_eq_true rfl) (Nat.le_of_ble_eq_true rfl) ht
  · have ht := ht.2 c1
    refine ab_iconst (v := (-1)) dX5_readTest_11 (by decide) ?_
    refine ab_istore (i := 4) (L' := [some (.ref 20), some (.int x1), some (.int x2), some (.int x3), some (.int (-1)), none]) dX5_readTest_12 (by exact (Nat.le_of_ble_eq_true rfl)) rfl rfl ?_
    refine ab_iconst (v := 0) dX5_readTest_14 (by decide) ?_
    refine ab_istore (i := 5) (L' := [some (.ref 20), some (.int x1), some (.int x2), some (.int x3), some (.int (-1)), some (.int 0)]) dX5_readTest_15 (by exact (Nat.le_of_ble_eq_true rfl)) rfl rfl ?_
    exact Wp.fewer (L' := [some (.ref 20), some (.int x1), some (.int x2), some (.int x3), some (.int (-1)), some (.int 0)]) (show ab_leL _ _ from ⟨rfl, ⟨rfl, ⟨rfl, ⟨rfl, ⟨rfl, ⟨rfl, trivial⟩⟩⟩⟩⟩⟩) ht
set_option maxRecDepth 20000 in
theorem T_X5_readTest_17 {d : Nat} (hd : 8 ≤ d) {Q : Option Value → ah_T → Prop} {h : ah_T} (hs : Sh h) (x1 : Int32) (x2 : Int32) (x3 : Int32) (x4 : Int32) (x5 : Int32) (ht : ((400 ≤ x5 → (Mt mX5_aim [.ref 20, .int x4] h (ab_qv fun h6 => Sh h6 ∧ (vp_in (ah_i h6 20 6) (ah_n h6 21)) ∧ (((ah_i h6 21 (Int32.toNatClampNeg (ah_i h6 20 6))) = 22 → (∀ h11, h11 = ah_si h6 20 6 ((ah_i h6 20 6) + 1) → (Mt mX5_aim [.ref 20, .int x2] h11 (ab_qv fun h14 => Sh h14 ∧ (Mt mX5_emit [.ref 20, .int 12, .int 0] h14 (ab_qi fun v19 h17 => Sh h17 ∧ Wp (mX5_readTest d) Q 0 0 4 [some (.ref 20), some (.int x1), some (.int v19), some (.int (x3 + 1)), none, none] [] h17)))))) ∧ (¬ (ah_i h6 21 (Int32.toNatClampNeg (ah_i h6 20 6))) = 22 → (Mt mX5_aim [.ref 20, .int x2] h6 (ab_qv fun h20 => Sh h20 ∧ Q (some (.int 1)) h20))))))) ∧ (¬ 400 ≤ x5 → (Mt (mX5_readPlain (d - 1)) [.ref 20, .int x1] h (ab_qi fun v25 h23 => Sh h23 ∧ ((¬ v25 = 0 → (vp_in (ah_i h23 20 6) (ah_n h23 21)) ∧ (((ah_i h23 21 (Int32.toNatClampNeg (ah_i h23 20 6))) = 23 → (∀ h29, h29 = ah_si h23 20 6 ((ah_i h23 20 6) + 1) → (Mt mX5_aim [.ref 20, .int x4] h29 (ab_qv fun h32 => Sh h32 ∧ (Mt mX5_emit [.ref 20, .int 13, .int 0] h32 (ab_qi fun v37 h35 => Sh h35 ∧ Wp (mX5_readTest d) Q 0 0 17 [some (.ref 20), some (.int x1), some (.int x2), some (.int x3), some (.int v37), some (.int (x5 + 1))] [] h35)))))) ∧ (¬ (ah_i h23 21 (Int32.toNatClampNeg (ah_i h23 20 6))) = 23 → (Mt mX5_aim [.ref 20, .int x4] h23 (ab_qv fun h38 => Sh h38 ∧ (vp_in (ah_i h38 20 6) (ah_n h38 21)) ∧ (((ah_i h38 21 (Int32.toNatClampNeg (ah_i h38 20 6))) = 22 → (∀ h43, h43 = ah_si h38 20 6 ((ah_i h38 20 6) + 1) → (Mt mX5_aim [.ref 20, .int x2] h43 (ab_qv fun h46 => Sh h46 ∧ (Mt mX5_emit [.ref 20, .int 12, .int 0] h46 (ab_qi fun v51 h49 => Sh h49 ∧ Wp (mX5_readTest d) Q 0 0 4 [some (.ref 20), some (.int x1), some (.int v51), some (.int (x3 + 1)), none, none] [] h49)))))) ∧ (¬ (ah_i h38 21 (Int32.toNatClampNeg (ah_i h38 20 6))) = 22 → (Mt mX5_aim [.ref 20, .int x2] h38 (ab_qv fun h52 => Sh h52 ∧ Q (some (.int 1)) h52))))))))) ∧ (v25 = 0 → Q (some (.int 0)) h23))))))) : Wp (mX5_readTest d) Q 0 0 17 [some (.ref 20), some (.int x1), some (.int x2), some (.int x3), some (.int x4), some (.int x5)] [] h := by
  refine ab_iload (i := 5) dX5_readTest_17 rfl ?_
  refine ab_sipush (v := 400) dX5_readTest_19 (by decide) ?_
  refine ab_icmp_ge (tgt := 83) dX5_readTest_22 (by decide) (fun c5 => ?_) (fun c5 => ?_)
  · have ht := ht.1 c5
    refine ab_aload_n (i := 0) dX5_readTest_83 rfl rfl ?_
    refine ab_iload (i := 4) dX5_readTest_84 rfl ?_
    refine ab_callV (b := 20) (As := [.int x4]) ht (Y_X5_aim) l_X5_120 in_X5_aim se_X5_aim (sh_k hs 20 5 (by decide) rfl) (by decide) rfl rfl ⟨(show 1 + 1 ≤ d by omega), (Nat.le_of_ble_eq_true rfl), (Nat.le_of_ble_eq_true rfl), (Nat.le_of_ble_eq_true rfl)⟩ dX5_readTest_86 ?_
    rintro _ h6 ⟨rfl, hs7, ht⟩
    refine ab_aload_n (i := 0) dX5_readTest_89 rfl rfl ?_
    refine ab_getR (b := 21) f_X5_15 rfl (sh_k hs7 20 5 (by decide) rfl) (sh_r hs7 27 rfl) dX5_readTest_90 ?_
    refine ab_aload_n (i := 0) dX5_readTest_93 rfl rfl ?_
    refine ab_getI f_X5_31 rfl (sh_k hs7 20 5 (by decide) rfl) dX5_readTest_94 ?_
    obtain ⟨hc9, ht⟩ := ht
    refine ab_iald (sh_k hs7 21 14 (by decide) rfl) hc9 dX5_readTest_97 ?_
    refine ab_bipush (v := 22) dX5_readTest_98 (by decide) ?_
    refine ab_icmp_eq (tgt := 106) dX5_readTest_100 (by decide) (fun c10 => ?_) (fun c10 => ?_)
    · have ht := ht.1 c10
      refine ab_aload_n (i := 0) dX5_readTest_106 rfl rfl ?_
      refine ab_dup dX5_readTest_107 rfl ?_
      refine ab_getI f_X5_31 rfl (sh_k hs7 20 5 (by decide) rfl) dX5_readTest_108 ?_
      refine ab_iconst (v := 1) dX5_readTest_111 (by decide) ?_
      refine ab_iadd dX5_readTest_112 ?_
      refine ab_putI f_X5_31 (Or.inl rfl) rfl (sh_k hs7 20 5 (by decide) rfl) rfl rfl dX5_readTest_113 ?_
      refine Wp.nm fun h11 e12 => ?_
      have ht := ht h11 e12
      have hs13 : Sh h11 := by rw [e12]; exact sh_si hs7
      refine ab_aload_n (i := 0) dX5_readTest_116 rfl rfl ?_
      refine ab_iload_n (i := 2) dX5_readTest_117 rfl rfl ?_
      refine ab_callV (b := 20) (As := [.int x2]) ht (Y_X5_aim) l_X5_120 in_X5_aim se_X5_aim (sh_k hs13 20 5 (by decide) rfl) (by decide) rfl rfl ⟨(show 1 + 1 ≤ d by omega), (Nat.le_of_ble_eq_true rfl), (Nat.le_of_ble_eq_true rfl), (Nat.le_of_ble_eq_true rfl)⟩ dX5_readTest_118 ?_
      rintro _ h14 ⟨rfl, hs15, ht⟩
      refine ab_aload_n (i := 0) dX5_readTest_121 rfl rfl ?_
      refine ab_bipush (v := 12) dX5_readTest_122 (by decide) ?_
      refine ab_iconst (v := 0) dX5_readTest_124 (by decide) ?_
      refine ab_callV (b := 20) (As := [.int 12, .int 0]) ht (Y_X5_emit) l_X5_111 in_X5_emit se_X5_emit (sh_k hs15 20 5 (by decide) rfl) (by decide) rfl rfl ⟨(show 1 + 1 ≤ d by omega), (Nat.le_of_ble_eq_true rfl), (Nat.le_of_ble_eq_true rfl), (Nat.le_of_ble_eq_true rfl)⟩ dX5_readTest_125 ?_
      rintro _ h17 ⟨v19, rfl, hs18, ht⟩
      refine ab_istore_n (i := 2) (L' := [some (.ref 20), some (.int x1), some (.int v19), some (.int x3), some (.int x4), some (.int x5)]) dX5_readTest_128 rfl (by exact (Nat.le_of_ble_eq_true rfl)) rfl rfl ?_
      refine ab_iinc (i := 3) (x := x3) (v := (x3 + 1)) (L' := [some (.ref 20), some (.int x1), some (.int v19), some (.int (x3 + 1)), some (.int x4), some (.int x5)]) dX5_readTest_129 rfl rfl (by exact (Nat.le_of_ble_eq_true rfl)) rfl rfl ?_
      refine ab_goto (tgt := 4) dX5_readTest_132 (by decide) ?_
      exact Wp.fewer (L' := [some (.ref 20), some (.int x1), some (.int v19), some (.int (x3 + 1)), none, none]) (show ab_leL _ _ from ⟨rfl, ⟨rfl, ⟨rfl, ⟨rfl, trivial⟩⟩⟩⟩) ht
    · have ht := ht.2 c10
      refine ab_goto (tgt := 135) dX5_readTest_103 (by decide) ?_
      refine ab_aload_n (i := 0) dX5_readTest_135 rfl rfl ?_
      refine ab_iload_n (i := 2) dX5_readTest_136 rfl rfl ?_
      refine ab_callV (b := 20) (As := [.int x2]) ht (Y_X5_aim) l_X5_120 in_X5_aim se_X5_aim (sh_k hs7 20 5 (by decide) rfl) (by decide) rfl rfl ⟨(show 1 + 1 ≤ d by omega), (Nat.le_of_ble_eq_true rfl), (Nat.le_of_ble_eq_true rfl), (Nat.le_of_ble_eq_true rfl)⟩ dX5_readTest_137 ?_
      rintro _ h20 ⟨rfl, hs21, ht⟩
      refine ab_iconst (v := 1) dX5_readTest_140 (by decide) ?_
      exact ab_zret rfl rfl dX5_readTest_141 (Nat.le_of_ble_eq_true rfl) (Nat.le_of_ble_eq_true rfl) ht
  · have ht := ht.2 c5
    refine ab_aload_n (i := 0) dX5_readTest_25 rfl rfl ?_
    refine ab_iload_n (i := 1) dX5_readTest_26 rfl rfl ?_
    refine ab_callV (b := 20) (As := [.int x1]) ht (Y_X5_readPlain _) l_X5_117 in_X5_readPlain se_X5_readPlain (sh_k hs 20 5 (by decide) rfl) (by decide) rfl rfl ⟨(show d - 1 + 1 ≤ d by omega), (Nat.le_of_ble_eq_true rfl), (Nat.le_of_ble_eq_true rfl), (Nat.le_of_ble_eq_true rfl)⟩ dX5_readTest_27 ?_
    rintro _ h23 ⟨v25, rfl, hs24, ht⟩
    refine ab_if_ne (tgt := 35) dX5_readTest_30 (by decide) (fun c26 => ?_) (fun c26 => ?_)
    · have ht := ht.1 c26
      refine ab_aload_n (i := 0) dX5_readTest_35 rfl rfl ?_
      refine ab_getR (b := 21) f_X5_15 rfl (sh_k hs24 20 5 (by decide) rfl) (sh_r hs24 27 rfl) dX5_readTest_36 ?_
      refine ab_aload_n (i := 0) dX5_readTest_39 rfl rfl ?_
      refine ab_getI f_X5_31 rfl (sh_k hs24 20 5 (by decide) rfl) dX5_readTest_40 ?_
      obtain ⟨hc27, ht⟩ := ht
      refine ab_iald (sh_k hs24 21 14 (by decide) rfl) hc27 dX5_readTest_43 ?_
      refine ab_bipush (v := 23) dX5_readTest_44 (by decide) ?_
      refine ab_icmp_eq (tgt := 52) dX5_readTest_46 (by decide) (fun c28 => ?_) (fun c28 => ?_)
      · have ht := ht.1 c28
        refine ab_aload_n (i := 0) dX5_readTest_52 rfl rfl ?_
        refine ab_dup dX5_readTest_53 rfl ?_
        refine ab_getI f_X5_31 rfl (sh_k hs24 20 5 (by decide) rfl) dX5_readTest_54 ?_
        refine ab_iconst (v := 1) dX5_readTest_57 (by decide) ?_
        refine ab_iadd dX5_readTest_58 ?_
        refine ab_putI f_X5_31 (Or.inl rfl) rfl (sh_k hs24 20 5 (by decide) rfl) rfl rfl dX5_readTest_59 ?_
        refine Wp.nm fun h29 e30 => ?_
        have ht := ht h29 e30
        have hs31 : Sh h29 := by rw [e30]; exact sh_si hs24
        refine ab_aload_n (i := 0) dX5_readTest_62 rfl rfl ?_
        refine ab_iload (i := 4) dX5_readTest_63 rfl ?_
        refine ab_callV (b := 20) (As := [.int x4]) ht (Y_X5_aim) l_X5_120 in_X5_aim se_X5_aim (sh_k hs31 20 5 (by decide) rfl) (by decide) rfl rfl ⟨(show 1 + 1 ≤ d by omega), (Nat.le_of_ble_eq_true rfl), (Nat.le_of_ble_eq_true rfl), (Nat.le_of_ble_eq_true rfl)⟩ dX5_readTest_65 ?_
        rintro _ h32 ⟨rfl, hs33, ht⟩
        refine ab_aload_n (i := 0) dX5_readTest_68 rfl rfl ?_
        refine ab_bipush (v := 13) dX5_readTest_69 (by decide) ?_
        refine ab_iconst (v := 0) dX5_readTest_71 (by decide) ?_
        refine ab_callV (b := 20) (As := [.int 13, .int 0]) ht (Y_X5_emit) l_X5_111 in_X5_emit se_X5_emit (sh_k hs33 20 5 (by decide) rfl) (by decide) rfl rfl ⟨(show 1 + 1 ≤ d by omega), (Nat.le_of_ble_eq_true rfl), (Nat.le_of_ble_eq_true rfl), (Nat.le_of_ble_eq_true rfl)⟩ dX5_readTest_72 ?_
        rintro _ h35 ⟨v37, rfl, hs36, ht⟩
        refine ab_istore (i := 4) (L' := [some (.ref 20), some (.int x1), some (.int x2), some (.int x3), some (.int v37), some (.int x5)]) dX5_readTest_75 (by exact (Nat.le_of_ble_eq_true rfl)) rfl rfl ?_
        refine ab_iinc (i := 5) (x := x5) (v := (x5 + 1)) (L' := [some (.ref 20), some (.int x1), some (.int x2), some (.int x3), some (.int v37), some (.int (x5 + 1))]) dX5_readTest_77 rfl rfl (by exact (Nat.le_of_ble_eq_true rfl)) rfl rfl ?_
        refine ab_goto (tgt := 17) dX5_readTest_80 (by decide) ?_
        exact Wp.fewer (L' := [some (.ref 20), some (.int x1), some (.int x2), some (.int x3), some (.int v37), some (.int (x5 + 1))]) (show ab_leL _ _ from ⟨rfl, ⟨rfl, ⟨rfl, ⟨rfl, ⟨rfl, ⟨rfl, trivial⟩⟩⟩⟩⟩⟩) ht
      · have ht := ht.2 c28
        refine ab_goto (tgt := 83) dX5_readTest_49 (by decide) ?_
        refine ab_aload_n (i := 0) dX5_readTest_83 rfl rfl ?_
        refine ab_iload (i := 4) dX5_readTest_84 rfl ?_
        refine ab_callV (b := 20) (As := [.int x4]) ht (Y_X5_aim) l_X5_120 in_X5_aim se_X5_aim (sh_k hs24 20 5 (by decide) rfl) (by decide) rfl rfl ⟨(show 1 + 1 ≤ d by omega), (Nat.le_of_ble_eq_true rfl), (Nat.le_of_ble_eq_true rfl), (Nat.le_of_ble_eq_true rfl)⟩ dX5_readTest_86 ?_
        rintro _ h38 ⟨rfl, hs39, ht⟩
        refine ab_aload_n (i := 0) dX5_readTest_89 rfl rfl ?_
        refine ab_getR (b := 21) f_X5_15 rfl (sh_k hs39 20 5 (by decide) rfl) (sh_r hs39 27 rfl) dX5_readTest_90 ?_
        refine ab_aload_n (i := 0) dX5_readTest_93 rfl rfl ?_
        refine ab_getI f_X5_31 rfl (sh_k hs39 20 5 (by decide) rfl) dX5_readTest_94 ?_
        obtain ⟨hc41, ht⟩ := ht
        refine ab_iald (sh_k hs39 21 14 (by decide) rfl) hc41 dX5_readTest_97 ?_
        refine ab_bipush (v := 22) dX5_readTest_98 (by decide) ?_
        refine ab_icmp_eq (tgt := 106) dX5_readTest_100 (by decide) (fun c42 => ?_) (fun c42 => ?_)
        · have ht := ht.1 c42
          refine ab_aload_n (i := 0) dX5_readTest_106 rfl rfl ?_
          refine ab_dup dX5_readTest_107 rfl ?_
          refine ab_getI f_X5_31 rfl (sh_k hs39 20 5 (by decide) rfl) dX5_readTest_108 ?_
          refine ab_iconst (v := 1) dX5_readTest_111 (by decide) ?_
          refine ab_iadd dX5_readTest_112 ?_
          refine ab_putI f_X5_31 (Or.inl rfl) rfl (sh_k hs39 20 5 (by decide) rfl) rfl rfl dX5_readTest_113 ?_
          refine Wp.nm fun h43 e44 => ?_
          have ht := ht h43 e44
          have hs45 : Sh h43 := by rw [e44]; exact sh_si hs39
          refine ab_aload_n (i := 0) dX5_readTest_116 rfl rfl ?_
          refine ab_iload_n (i := 2) dX5_readTest_117 rfl rfl ?_
          refine ab_callV (b := 20) (As := [.int x2]) ht (Y_X5_aim) l_X5_120 in_X5_aim se_X5_aim (sh_k hs45 20 5 (by decide) rfl) (by decide) rfl rfl ⟨(show 1 + 1 ≤ d by omega), (Nat.le_of_ble_eq_true rfl), (Nat.le_of_ble_eq_true rfl), (Nat.le_of_ble_eq_true rfl)⟩ dX5_readTest_118 ?_
          rintro _ h46 ⟨rfl, hs47, ht⟩
          refine ab_aload_n (i := 0) dX5_readTest_121 rfl rfl ?_
          refine ab_bipush (v := 12) dX5_readTest_122 (by decide) ?_
          refine ab_iconst (v := 0) dX5_readTest_124 (by decide) ?_
          refine ab_callV (b := 20) (As := [.int 12, .int 0]) ht (Y_X5_emit) l_X5_111 in_X5_emit se_X5_emit (sh_k hs47 20 5 (by decide) rfl) (by decide) rfl rfl ⟨(show 1 + 1 ≤ d by omega), (Nat.le_of_ble_eq_true rfl), (Nat.le_of_ble_eq_true rfl), (Nat.le_of_ble_eq_true rfl)⟩ dX5_readTest_125 ?_
          rintro _ h49 ⟨v51, rfl, hs50, ht⟩
          refine ab_istore_n (i := 2) (L' := [some (.ref 20), some (.int x1), some (.int v51), some (.int x3), some (.int x4), some (.int x5)]) dX5_readTest_128 rfl (by exact (Nat.le_of_ble_eq_true rfl)) rfl rfl ?_
          refine ab_iinc (i := 3) (x := x3) (v := (x3 + 1)) (L' := [some (.ref 20), some (.int x1), some (.int v51), some (.int (x3 + 1)), some (.int x4), some (.int x5)]) dX5_readTest_129 rfl rfl (by exact (Nat.le_of_ble_eq_true rfl)) rfl rfl ?_
          refine ab_goto (tgt := 4) dX5_readTest_132 (by decide) ?_
          exact Wp.fewer (L' := [some (.ref 20), some (.int x1), some (.int v51), some (.int (x3 + 1)), none, none]) (show ab_leL _ _ from ⟨rfl, ⟨rfl, ⟨rfl, ⟨rfl, trivial⟩⟩⟩⟩) ht
        · have ht := ht.2 c42
          refine ab_goto (tgt := 135) dX5_readTest_103 (by decide) ?_
          refine ab_aload_n (i := 0) dX5_readTest_135 rfl rfl ?_
          refine ab_iload_n (i := 2) dX5_readTest_136 rfl rfl ?_
          refine ab_callV (b := 20) (As := [.int x2]) ht (Y_X5_aim) l_X5_120 in_X5_aim se_X5_aim (sh_k hs39 20 5 (by decide) rfl) (by decide) rfl rfl ⟨(show 1 + 1 ≤ d by omega), (Nat.le_of_ble_eq_true rfl), (Nat.le_of_ble_eq_true rfl), (Nat.le_of_ble_eq_true rfl)⟩ dX5_readTest_137 ?_
          rintro _ h52 ⟨rfl, hs53, ht⟩
          refine ab_iconst (v := 1) dX5_readTest_140 (by decide) ?_
          exact ab_zret rfl rfl dX5_readTest_141 (Nat.le_of_ble_eq_true rfl) (Nat.le_of_ble_eq_true rfl) ht
    · have ht := ht.2 c26
      refine ab_iconst (v := 0) dX5_readTest_33 (by decide) ?_
      exact ab_zret rfl rfl dX5_readTest_34 (Nat.le_of_ble_eq_true rfl) (Nat.le_of_ble_eq_true rfl) ht
set_option maxRecDepth 20000 in
theorem T_X5_readTest {d : Nat} (hd : 8 ≤ d) {Q : Option Value → ah_T → Prop} {h : ah_T} (hs : Sh h) (x1 : Int32) (ht : Wp (mX5_readTest d) Q 0 0 4 [some (.ref 20), some (.int x1), some (.int (-1)), some (.int 0), none, none] [] h) : Mt (mX5_readTest d) [.ref 20, .int x1] h Q := by
  refine Mt.ofWp rfl (by exact (Nat.le_of_ble_eq_true rfl)) (Wp.fewer (L' := [some (.ref 20), some (.int x1), none, none, none, none]) (show ab_leL _ _ from ⟨rfl, ⟨rfl, trivial⟩⟩) ?_)
  refine ab_iconst (v := (-1)) dX5_readTest_0 (by decide) ?_
  refine ab_istore_n (i := 2) (L' := [some (.ref 20), some (.int x1), some (.int (-1)), none, none, none]) dX5_readTest_1 rfl (by exact (Nat.le_of_ble_eq_true rfl)) rfl rfl ?_
  refine ab_iconst (v := 0) dX5_readTest_2 (by decide) ?_
  refine ab_istore_n (i := 3) (L' := [some (.ref 20), some (.int x1), some (.int (-1)), some (.int 0), none, none]) dX5_readTest_3 rfl (by exact (Nat.le_of_ble_eq_true rfl)) rfl rfl ?_
  exact Wp.fewer (L' := [some (.ref 20), some (.int x1), some (.int (-1)), some (.int 0), none, none]) (show ab_leL _ _ from ⟨rfl, ⟨rfl, ⟨rfl, ⟨rfl, trivial⟩⟩⟩⟩) ht
theorem dX5_readPlain_0 : decode cX5_readPlain 0 = .ok (.iconst 0, 1) := by decide +kernel
theorem dX5_readPlain_1 : decode cX5_readPlain 1 = .ok (.istore_n 2, 1) := by decide +kernel
theorem dX5_readPlain_2 : decode cX5_readPlain 2 = .ok (.iconst 0, 1) := by decide +kernel
theorem dX5_readPlain_3 : decode cX5_readPlain 3 = .ok (.istore_n 3, 1) := by decide +kernel
theorem dX5_readPlain_4 : decode cX5_readPlain 4 = .ok (.iload_n 3, 1) := by decide +kernel
theorem dX5_readPlain_5 : decode cX5_readPlain 5 = .ok (.sipush 400, 3) := by decide +kernel
theorem dX5_readPlain_8 : decode cX5_readPlain 8 = .ok (.if_icmp .ge 43, 3) := by decide +kernel
theorem dX5_readPlain_11 : decode cX5_readPlain 11 = .ok (.aload_n 0, 1) := by decide +kernel
theorem dX5_readPlain_12 : decode cX5_readPlain 12 = .ok (.getfield 15, 3) := by decide +kernel
theorem dX5_readPlain_15 : decode cX5_readPlain 15 = .ok (.aload_n 0, 1) := by decide +kernel
theorem dX5_readPlain_16 : decode cX5_readPlain 16 = .ok (.getfield 31, 3) := by decide +kernel
theorem dX5_readPlain_19 : decode cX5_readPlain 19 = .ok (.iaload, 1) := by decide +kernel
theorem dX5_readPlain_20 : decode cX5_readPlain 20 = .ok (.bipush 24, 2) := by decide +kernel
theorem dX5_readPlain_22 : decode cX5_readPlain 22 = .ok (.if_icmp .ne 29, 3) := by decide +kernel
theorem dX5_readPlain_25 : decode cX5_readPlain 25 = .ok (.iload_n 2, 1) := by decide +kernel
theorem dX5_readPlain_26 : decode cX5_readPlain 26 = .ok (.ifCond .ne 7, 3) := by decide +kernel
theorem dX5_readPlain_29 : decode cX5_readPlain 29 = .ok (.iconst 1, 1) := by decide +kernel
theorem dX5_readPlain_30 : decode cX5_readPlain 30 = .ok (.goto 4, 3) := by decide +kernel
theorem dX5_readPlain_33 : decode cX5_readPlain 33 = .ok (.iconst 0, 1) := by decide +kernel
theorem dX5_readPlain_34 : decode cX5_readPlain 34 = .ok (.istore_n 2, 1) := by decide +kernel
theorem dX5_readPlain_35 : decode cX5_readPlain 35 = .ok (.aload_n 0, 1) := by decide +kernel
theorem dX5_readPlain_36 : decode cX5_readPlain 36 = .ok (.dup, 1) := by decide +kernel
theorem dX5_readPlain_37 : decode cX5_readPlain 37 = .ok (.getfield 31, 3) := by decide +kernel
theorem dX5_readPlain_40 : decode cX5_readPlain 40 = .ok (.iconst 1, 1) := by decide +kernel
theorem dX5_readPlain_41 : decode cX5_readPlain 41 = .ok (.iadd, 1) := by decide +kernel
theorem dX5_readPlain_42 : decode cX5_readPlain 42 = .ok (.putfield 31, 3) := by decide +kernel
theorem dX5_readPlain_45 : decode cX5_readPlain 45 = .ok (.iinc 3 1, 3) := by decide +kernel
theorem dX5_readPlain_48 : decode cX5_readPlain 48 = .ok (.goto (-44), 3) := by decide +kernel
theorem dX5_readPlain_51 : decode cX5_readPlain 51 = .ok (.aload_n 0, 1) := by decide +kernel
theorem dX5_readPlain_52 : decode cX5_readPlain 52 = .ok (.getfield 15, 3) := by decide +kernel
theorem dX5_readPlain_55 : decode cX5_readPlain 55 = .ok (.aload_n 0, 1) := by decide +kernel
theorem dX5_readPlain_56 : decode cX5_readPlain 56 = .ok (.getfield 31, 3) := by decide +kernel
theorem dX5_readPlain_59 : decode cX5_readPlain 59 = .ok (.iaload, 1) := by decide +kernel
theorem dX5_readPlain_60 : decode cX5_readPlain 60 = .ok (.sipush 140, 3) := by decide +kernel
theorem dX5_readPlain_63 : decode cX5_readPlain 63 = .ok (.if_icmp .ne 61, 3) := by decide +kernel
theorem dX5_readPlain_66 : decode cX5_readPlain 66 = .ok (.iload_n 1, 1) := by decide +kernel
theorem dX5_readPlain_67 : decode cX5_readPlain 67 = .ok (.bipush 8, 2) := by decide +kernel
theorem dX5_readPlain_69 : decode cX5_readPlain 69 = .ok (.if_icmp .lt 5, 3) := by decide +kernel
theorem dX5_readPlain_72 : decode cX5_readPlain 72 = .ok (.iconst 0, 1) := by decide +kernel
theorem dX5_readPlain_73 : decode cX5_readPlain 73 = .ok (.ireturn, 1) := by decide +kernel
theorem dX5_readPlain_74 : decode cX5_readPlain 74 = .ok (.aload_n 0, 1) := by decide +kernel
theorem dX5_readPlain_75 : decode cX5_readPlain 75 = .ok (.dup, 1) := by decide +kernel
theorem dX5_readPlain_76 : decode cX5_readPlain 76 = .ok (.getfield 31, 3) := by decide +kernel
theorem dX5_readPlain_79 : decode cX5_readPlain 79 = .ok (.iconst 1, 1) := by decide +kernel
theorem dX5_readPlain_80 : decode cX5_readPlain 80 = .ok (.iadd, 1) := by decide +kernel
theorem dX5_readPlain_81 : decode cX5_readPlain 81 = .ok (.putfield 31, 3) := by decide +kernel
theorem dX5_readPlain_84 : decode cX5_readPlain 84 = .ok (.aload_n 0, 1) := by decide +kernel
theorem dX5_readPlain_85 : decode cX5_readPlain 85 = .ok (.iload_n 1, 1) := by decide +kernel
theorem dX5_readPlain_86 : decode cX5_readPlain 86 = .ok (.iconst 1, 1) := by decide +kernel
theorem dX5_readPlain_87 : decode cX5_readPlain 87 = .ok (.iadd, 1) := by decide +kernel
theorem dX5_readPlain_88 : decode cX5_readPlain 88 = .ok (.invokevirtual 114, 3) := by decide +kernel
theorem dX5_readPlain_91 : decode cX5_readPlain 91 = .ok (.ifCond .eq 18, 3) := by decide +kernel
theorem dX5_readPlain_94 : decode cX5_readPlain 94 = .ok (.aload_n 0, 1) := by decide +kernel
theorem dX5_readPlain_95 : decode cX5_readPlain 95 = .ok (.getfield 15, 3) := by decide +kernel
theorem dX5_readPlain_98 : decode cX5_readPlain 98 = .ok (.aload_n 0, 1) := by decide +kernel
theorem dX5_readPlain_99 : decode cX5_readPlain 99 = .ok (.getfield 31, 3) := by decide +kernel
theorem dX5_readPlain_102 : decode cX5_readPlain 102 = .ok (.iaload, 1) := by decide +kernel
theorem dX5_readPlain_103 : decode cX5_readPlain 103 = .ok (.sipush 141, 3) := by decide +kernel
theorem dX5_readPlain_106 : decode cX5_readPlain 106 = .ok (.if_icmp .eq 5, 3) := by decide +kernel
theorem dX5_readPlain_109 : decode cX5_readPlain 109 = .ok (.iconst 0, 1) := by decide +kernel
theorem dX5_readPlain_110 : decode cX5_readPlain 110 = .ok (.ireturn, 1) := by decide +kernel
theorem dX5_readPlain_111 : decode cX5_readPlain 111 = .ok (.aload_n 0, 1) := by decide +kernel
theorem dX5_readPlain_112 : decode cX5_readPlain 112 = .ok (.dup, 1) := by decide +kernel
theorem dX5_readPlain_113 : decode cX5_readPlain 113 = .ok (.getfield 31, 3) := by decide +kernel
theorem dX5_readPlain_116 : decode cX5_readPlain 116 = .ok (.iconst 1, 1) := by decide +kernel
theorem dX5_readPlain_117 : decode cX5_readPlain 117 = .ok (.iadd, 1) := by decide +kernel
theorem dX5_readPlain_118 : decode cX5_readPlain 118 = .ok (.putfield 31, 3) := by decide +kernel
theorem dX5_readPlain_121 : decode cX5_readPlain 121 = .ok (.goto 96, 3) := by decide +kernel
theorem dX5_readPlain_124 : decode cX5_readPlain 124 = .ok (.aload_n 0, 1) := by decide +kernel
theorem dX5_readPlain_125 : decode cX5_readPlain 125 = .ok (.iload_n 1, 1) := by decide +kernel
theorem dX5_readPlain_126 : decode cX5_readPlain 126 = .ok (.invokevirtual 108, 3) := by decide +kernel
theorem dX5_readPlain_129 : decode cX5_readPlain 129 = .ok (.ifCond .ne 5, 3) := by decide +kernel
theorem dX5_readPlain_132 : decode cX5_readPlain 132 = .ok (.iconst 0, 1) := by decide +kernel
theorem dX5_readPlain_133 : decode cX5_readPlain 133 = .ok (.ireturn, 1) := by decide +kernel
theorem dX5_readPlain_134 : decode cX5_readPlain 134 = .ok (.aload_n 0, 1) := by decide +kernel
theorem dX5_readPlain_135 : decode cX5_readPlain 135 = .ok (.getfield 15, 3) := by decide +kernel
theorem dX5_readPlain_138 : decode cX5_readPlain 138 = .ok (.aload_n 0, 1) := by decide +kernel
theorem dX5_readPlain_139 : decode cX5_readPlain 139 = .ok (.getfield 31, 3) := by decide +kernel
theorem dX5_readPlain_142 : decode cX5_readPlain 142 = .ok (.iaload, 1) := by decide +kernel
theorem dX5_readPlain_143 : decode cX5_readPlain 143 = .ok (.bipush 100, 2) := by decide +kernel
theorem dX5_readPlain_145 : decode cX5_readPlain 145 = .ok (.isub, 1) := by decide +kernel
theorem dX5_readPlain_146 : decode cX5_readPlain 146 = .ok (.istore_n 3, 1) := by decide +kernel
theorem dX5_readPlain_147 : decode cX5_readPlain 147 = .ok (.iload_n 3, 1) := by decide +kernel
theorem dX5_readPlain_148 : decode cX5_readPlain 148 = .ok (.bipush 60, 2) := by decide +kernel
theorem dX5_readPlain_150 : decode cX5_readPlain 150 = .ok (.if_icmp .eq 17, 3) := by decide +kernel
theorem dX5_readPlain_153 : decode cX5_readPlain 153 = .ok (.iload_n 3, 1) := by decide +kernel
theorem dX5_readPlain_154 : decode cX5_readPlain 154 = .ok (.bipush 62, 2) := by decide +kernel
theorem dX5_readPlain_156 : decode cX5_readPlain 156 = .ok (.if_icmp .eq 11, 3) := by decide +kernel
theorem dX5_readPlain_159 : decode cX5_readPlain 159 = .ok (.iload_n 3, 1) := by decide +kernel
theorem dX5_readPlain_160 : decode cX5_readPlain 160 = .ok (.bipush 61, 2) := by decide +kernel
theorem dX5_readPlain_162 : decode cX5_readPlain 162 = .ok (.if_icmp .eq 5, 3) := by decide +kernel
theorem dX5_readPlain_165 : decode cX5_readPlain 165 = .ok (.iconst 0, 1) := by decide +kernel
theorem dX5_readPlain_166 : decode cX5_readPlain 166 = .ok (.ireturn, 1) := by decide +kernel
theorem dX5_readPlain_167 : decode cX5_readPlain 167 = .ok (.aload_n 0, 1) := by decide +kernel
theorem dX5_readPlain_168 : decode cX5_readPlain 168 = .ok (.dup, 1) := by decide +kernel
theorem dX5_readPlain_169 : decode cX5_readPlain 169 = .ok (.getfield 31, 3) := by decide +kernel
theorem dX5_readPlain_172 : decode cX5_readPlain 172 = .ok (.iconst 1, 1) := by decide +kernel
theorem dX5_readPlain_173 : decode cX5_readPlain 173 = .ok (.iadd, 1) := by decide +kernel
theorem dX5_readPlain_174 : decode cX5_readPlain 174 = .ok (.putfield 31, 3) := by decide +kernel
theorem dX5_readPlain_177 : decode cX5_readPlain 177 = .ok (.aload_n 0, 1) := by decide +kernel
theorem dX5_readPlain_178 : decode cX5_readPlain 178 = .ok (.iload_n 1, 1) := by decide +kernel
theorem dX5_readPlain_179 : decode cX5_readPlain 179 = .ok (.invokevirtual 108, 3) := by decide +kernel
theorem dX5_readPlain_182 : decode cX5_readPlain 182 = .ok (.ifCond .ne 5, 3) := by decide +kernel
theorem dX5_readPlain_185 : decode cX5_readPlain 185 = .ok (.iconst 0, 1) := by decide +kernel
theorem dX5_readPlain_186 : decode cX5_readPlain 186 = .ok (.ireturn, 1) := by decide +kernel
theorem dX5_readPlain_187 : decode cX5_readPlain 187 = .ok (.aload_n 0, 1) := by decide +kernel
theorem dX5_readPlain_188 : decode cX5_readPlain 188 = .ok (.iload_n 3, 1) := by decide +kernel
theorem dX5_readPlain_189 : decode cX5_readPlain 189 = .ok (.bipush 60, 2) := by decide +kernel
theorem dX5_readPlain_191 : decode cX5_readPlain 191 = .ok (.if_icmp .ne 8, 3) := by decide +kernel
theorem dX5_readPlain_194 : decode cX5_readPlain 194 = .ok (.bipush 8, 2) := by decide +kernel
theorem dX5_readPlain_196 : decode cX5_readPlain 196 = .ok (.goto 16, 3) := by decide +kernel
theorem dX5_readPlain_199 : decode cX5_readPlain 199 = .ok (.iload_n 3, 1) := by decide +kernel
theorem dX5_readPlain_200 : decode cX5_readPlain 200 = .ok (.bipush 62, 2) := by decide +kernel
theorem dX5_readPlain_202 : decode cX5_readPlain 202 = .ok (.if_icmp .ne 8, 3) := by decide +kernel
theorem dX5_readPlain_205 : decode cX5_readPlain 205 = .ok (.bipush 9, 2) := by decide +kernel
theorem dX5_readPlain_207 : decode cX5_readPlain 207 = .ok (.goto 5, 3) := by decide +kernel
theorem dX5_readPlain_210 : decode cX5_readPlain 210 = .ok (.bipush 10, 2) := by decide +kernel
theorem dX5_readPlain_212 : decode cX5_readPlain 212 = .ok (.iconst 0, 1) := by decide +kernel
theorem dX5_readPlain_213 : decode cX5_readPlain 213 = .ok (.invokevirtual 111, 3) := by decide +kernel
theorem dX5_readPlain_216 : decode cX5_readPlain 216 = .ok (.pop, 1) := by decide +kernel
theorem dX5_readPlain_217 : decode cX5_readPlain 217 = .ok (.iload_n 2, 1) := by decide +kernel
theorem dX5_readPlain_218 : decode cX5_readPlain 218 = .ok (.ifCond .eq 11, 3) := by decide +kernel
theorem dX5_readPlain_221 : decode cX5_readPlain 221 = .ok (.aload_n 0, 1) := by decide +kernel
theorem dX5_readPlain_222 : decode cX5_readPlain 222 = .ok (.bipush 11, 2) := by decide +kernel
theorem dX5_readPlain_224 : decode cX5_readPlain 224 = .ok (.iconst 0, 1) := by decide +kernel
theorem dX5_readPlain_225 : decode cX5_readPlain 225 = .ok (.invokevirtual 111, 3) := by decide +kernel
theorem dX5_readPlain_228 : decode cX5_readPlain 228 = .ok (.pop, 1) := by decide +kernel
theorem dX5_readPlain_229 : decode cX5_readPlain 229 = .ok (.iconst 1, 1) := by decide +kernel
theorem dX5_readPlain_230 : decode cX5_readPlain 230 = .ok (.ireturn, 1) := by decide +kernel
set_option maxRecDepth 20000 in
theorem T_X5_readPlain_4 {d : Nat} (hd : 8 ≤ d) {Q : Option Value → ah_T → Prop} {h : ah_T} (hs : Sh h) (x1 : Int32) (x2 : Int32) (x3 : Int32) (ht : ((400 ≤ x3 → Wp (mX5_readPlain d) Q 0 0 51 [some (.ref 20), some (.int x1), some (.int x2), none] [] h) ∧ (¬ 400 ≤ x3 → (vp_in (ah_i h 20 6) (ah_n h 21)) ∧ ((¬ (ah_i h 21 (Int32.toNatClampNeg (ah_i h 20 6))) = 24 → Wp (mX5_readPlain d) Q 0 0 51 [some (.ref 20), some (.int x1), some (.int x2), none] [] h) ∧ ((ah_i h 21 (Int32.toNatClampNeg (ah_i h 20 6))) = 24 → ((¬ x2 = 0 → (∀ h5, h5 = ah_si h 20 6 ((ah_i h 20 6) + 1) → Wp (mX5_readPlain d) Q 0 0 4 [some (.ref 20), some (.int x1), some (.int 0), some (.int (x3 + 1))] [] h5)) ∧ (x2 = 0 → (∀ h8, h8 = ah_si h 20 6 ((ah_i h 20 6) + 1) → Wp (mX5_readPlain d) Q 0 0 4 [some (.ref 20), some (.int x1), some (.int 1), some (.int (x3 + 1))] [] h8)))))))) : Wp (mX5_readPlain d) Q 0 0 4 [some (.ref 20), some (.int x1), some (.int x2), some (.int x3)] [] h := by
  refine ab_iload_n (i := 3) dX5_readPlain_4 rfl rfl ?_
  refine ab_sipush (v := 400) dX5_readPlain_5 (by decide) ?_
  refine ab_icmp_ge (tgt := 51) dX5_readPlain_8 (by decide) (fun c1 => ?_) (fun c1 => ?_)
  · have ht := ht.1 c1
    exact Wp.fewer (L' := [some (.ref 20), some (.int x1), some (.int x2), none]) (show ab_leL _ _ from ⟨rfl, ⟨rfl, ⟨rfl, trivial⟩⟩⟩) ht
  · have ht := ht.2 c1
    refine ab_aload_n (i := 0) dX5_readPlain_11 rfl rfl ?_
    refine ab_getR (b := 21) f_X5_15 rfl (sh_k hs 20 5 (by decide) rfl) (sh_r hs 27 rfl) dX5_readPlain_12 ?_
    refine ab_aload_n (i := 0) dX5_readPlain_15 rfl rfl ?_
    refine ab_getI f_X5_31 rfl (sh_k hs 20 5 (by decide) rfl) dX5_readPlain_16 ?_
    obtain ⟨hc2, ht⟩ := ht
    refine ab_iald (sh_k hs 21 14 (by decide) rfl) hc2 dX5_readPlain_19 ?_
    refine ab_bipush (v := 24) dX5_readPlain_20 (by decide) ?_
    refine ab_icmp_ne (tgt := 51) dX5_readPlain_22 (by decide) (fun c3 => ?_) (fun c3 => ?_)
    · have ht := ht.1 c3
      exact Wp.fewer (L' := [some (.ref 20), some (.int x1), some (.int x2), none]) (show ab_leL _ _ from ⟨rfl, ⟨rfl, ⟨rfl, trivial⟩⟩⟩) ht
    · have ht := ht.2 c3
      refine ab_iload_n (i := 2) dX5_readPlain_25 rfl rfl ?_
      refine ab_if_ne (tgt := 33) dX5_readPlain_26 (by decide) (fun c4 => ?_) (fun c4 => ?_)
      · have ht := ht.1 c4
        refine ab_iconst (v := 0) dX5_readPlain_33 (by decide) ?_
        refine ab_istore_n (i := 2) (L' := [some (.ref 20), some (.int x1), some (.int 0), some (.int x3)]) dX5_readPlain_34 rfl (by exact (Nat.le_of_ble_eq_true rfl)) rfl rfl ?_
        refine ab_aload_n (i := 0) dX5_readPlain_35 rfl rfl ?_
        refine ab_dup dX5_readPlain_36 rfl ?_
        refine ab_getI f_X5_31 rfl (sh_k hs 20 5 (by decide) rfl) dX5_readPlain_37 ?_
        refine ab_iconst (v := 1) dX5_readPlain_40 (by decide) ?_
        refine ab_iadd dX5_readPlain_41 ?_
        refine ab_putI f_X5_31 (Or.inl rfl) rfl (sh_k hs 20 5 (by decide) rfl) rfl rfl dX5_readPlain_42 ?_
        refine Wp.nm fun h5 e6 => ?_
        have ht := ht h5 e6
        have hs7 : Sh h5 := by rw [e6]; exact sh_si hs
        refine ab_iinc (i := 3) (x := x3) (v := (x3 + 1)) (L' := [some (.ref 20), some (.int x1), some (.int 0), some (.int (x3 + 1))]) dX5_readPlain_45 rfl rfl (by exact (Nat.le_of_ble_eq_true rfl)) rfl rfl ?_
        refine ab_goto (tgt := 4) dX5_readPlain_48 (by decide) ?_
        exact Wp.fewer (L' := [some (.ref 20), some (.int x1), some (.int 0), some (.int (x3 + 1))]) (show ab_leL _ _ from ⟨rfl, ⟨rfl, ⟨rfl, ⟨rfl, trivial⟩⟩⟩⟩) ht
      · have ht := ht.2 c4
        refine ab_iconst (v := 1) dX5_readPlain_29 (by decide) ?_
        refine ab_goto (tgt := 34) dX5_readPlain_30 (by decide) ?_
        refine ab_istore_n (i := 2) (L' := [some (.ref 20), some (.int x1), some (.int 1), some (.int x3)]) dX5_readPlain_34 rfl (by exact (Nat.le_of_ble_eq_true rfl)) rfl rfl ?_
        refine ab_aload_n (i := 0) dX5_readPlain_35 rfl rfl ?_
        refine ab_dup dX5_readPlain_36 rfl ?_
        refine ab_getI f_X5_31 rfl (sh_k hs 20 5 (by decide) rfl) dX5_readPlain_37 ?_
        refine ab_iconst (v := 1) dX5_readPlain_40 (by decide) ?_
        refine ab_iadd dX5_readPlain_41 ?_
        refine ab_putI f_X5_31 (Or.inl rfl) rfl (sh_k hs 20 5 (by decide) rfl) rfl rfl dX5_readPlain_42 ?_
        refine Wp.nm fun h8 e9 => ?_
        have ht := ht h8 e9
        have hs10 : Sh h8 := by rw [e9]; exact sh_si hs
        refine ab_iinc (i := 3) (x := x3) (v := (x3 + 1)) (L' := [some (.ref 20), some (.int x1), some (.int 1), some (.int (x3 + 1))]) dX5_readPlain_45 rfl rfl (by exact (Nat.le_of_ble_eq_true rfl)) rfl rfl ?_
        refine ab_goto (tgt := 4) dX5_readPlain_48 (by decide) ?_
        exact Wp.fewer (L' := [some (.ref 20), some (.int x1), some (.int 1), some (.int (x3 + 1))]) (show ab_leL _ _ from ⟨rfl, ⟨rfl, ⟨rfl, ⟨rfl, trivial⟩⟩⟩⟩) ht
set_option maxRecDepth 20000 in
theorem T_X5_readPlain_51 {d : Nat} (hd : 8 ≤ d) {Q : Option Value → ah_T → Prop} {h : ah_T} (hs : Sh h) (x1 : Int32) (x2 : Int32) (ht : (vp_in (ah_i h 20 6) (ah_n h 21)) ∧ ((¬ (ah_i h 21 (Int32.toNatClampNeg (ah_i h 20 6))) = 140 → (Mt (mX5_readSum (d - 1)) [.ref 20, .int x1] h (ab_qi fun v15 h13 => Sh h13 ∧ ((¬ v15 = 0 → (vp_in (ah_i h13 20 6) (ah_n h13 21)) ∧ ((((ah_i h13 21 (Int32.toNatClampNeg (ah_i h13 20 6))) - 100) = 60 → Wp (mX5_readPlain d) Q 0 0 167 [some (.ref 20), some (.int x1), some (.int x2), some (.int ((ah_i h13 21 (Int32.toNatClampNeg (ah_i h13 20 6))) - 100))] [] h13) ∧ (¬ ((ah_i h13 21 (Int32.toNatClampNeg (ah_i h13 20 6))) - 100) = 60 → ((((ah_i h13 21 (Int32.toNatClampNeg (ah_i h13 20 6))) - 100) = 62 → Wp (mX5_readPlain d) Q 0 0 167 [some (.ref 20), some (.int x1), some (.int x2), some (.int ((ah_i h13 21 (Int32.toNatClampNeg (ah_i h13 20 6))) - 100))] [] h13) ∧ (¬ ((ah_i h13 21 (Int32.toNatClampNeg (ah_i h13 20 6))) - 100) = 62 → ((((ah_i h13 21 (Int32.toNatClampNeg (ah_i h13 20 6))) - 100) = 61 → Wp (mX5_readPlain d) Q 0 0 167 [some (.ref 20), some (.int x1), some (.int x2), some (.int ((ah_i h13 21 (Int32.toNatClampNeg (ah_i h13 20 6))) - 100))] [] h13) ∧ (¬ ((ah_i h13 21 (Int32.toNatClampNeg (ah_i h13 20 6))) - 100) = 61 → Q (some (.int 0)) h13))))))) ∧ (v15 = 0 → Q (some (.int 0)) h13))))) ∧ ((ah_i h 21 (Int32.toNatClampNeg (ah_i h 20 6))) = 140 → ((x1 < 8 → (∀ h22, h22 = ah_si h 20 6 ((ah_i h 20 6) + 1) → (Mt (mX5_readTest (d - 1)) [.ref 20, .int (x1 + 1)] h22 (ab_qi fun v27 h25 => Sh h25 ∧ ((v27 = 0 → Wp (mX5_readPlain d) Q 0 0 109 [none, none, none, none] [] h25) ∧ (¬ v27 = 0 → (vp_in (ah_i h25 20 6) (ah_n h25 21)) ∧ (((ah_i h25 21 (Int32.toNatClampNeg (ah_i h25 20 6))) = 141 → (∀ h31, h31 = ah_si h25 20 6 ((ah_i h25 20 6) + 1) → Wp (mX5_readPlain d) Q 0 0 217 [some (.ref 20), none, some (.int x2), none] [] h31)) ∧ (¬ (ah_i h25 21 (Int32.toNatClampNeg (ah_i h25 20 6))) = 141 → Wp (mX5_readPlain d) Q 0 0 109 [none, none, none, none] [] h25)))))))) ∧ (¬ x1 < 8 → Q (some (.int 0)) h))))) : Wp (mX5_readPlain d) Q 0 0 51 [some (.ref 20), some (.int x1), some (.int x2), none] [] h := by
  refine ab_aload_n (i := 0) dX5_readPlain_51 rfl rfl ?_
  refine ab_getR (b := 21) f_X5_15 rfl (sh_k hs 20 5 (by decide) rfl) (sh_r hs 27 rfl) dX5_readPlain_52 ?_
  refine ab_aload_n (i := 0) dX5_readPlain_55 rfl rfl ?_
  refine ab_getI f_X5_31 rfl (sh_k hs 20 5 (by decide) rfl) dX5_readPlain_56 ?_
  obtain ⟨hc11, ht⟩ := ht
  refine ab_iald (sh_k hs 21 14 (by decide) rfl) hc11 dX5_readPlain_59 ?_
  refine ab_sipush (v := 140) dX5_readPlain_60 (by decide) ?_
  refine ab_icmp_ne (tgt := 124) dX5_readPlain_63 (by decide) (fun c12 => ?_) (fun c12 => ?_)
  · have ht := ht.1 c12
    refine ab_aload_n (i := 0) dX5_readPlain_124 rfl rfl ?_
    refine ab_iload_n (i := 1) dX5_readPlain_125 rfl rfl ?_
    refine ab_callV (b := 20) (As := [.int x1]) ht (Y_X5_readSum _) l_X5_108 in_X5_readSum se_X5_readSum (sh_k hs 20 5 (by decide) rfl) (by decide) rfl rfl ⟨(show d - 1 + 1 ≤ d by omega), (Nat.le_of_ble_eq_true rfl), (Nat.le_of_ble_eq_true rfl), (Nat.le_of_ble_eq_true rfl)⟩ dX5_readPlain_126 ?_
    rintro _ h13 ⟨v15, rfl, hs14, ht⟩
    refine ab_if_ne (tgt := 134) dX5_readPlain_129 (by decide) (fun c16 => ?_) (fun c16 => ?_)
    · have ht := ht.1 c16
      refine ab_aload_n (i := 0) dX5_readPlain_134 rfl rfl ?_
      refine ab_getR (b := 21) f_X5_15 rfl (sh_k hs14 20 5 (by decide) rfl) (sh_r hs14 27 rfl) dX5_readPlain_135 ?_
      refine ab_aload_n (i := 0) dX5_readPlain_138 rfl rfl ?_
      refine ab_getI f_X5_31 rfl (sh_k hs14 20 5 (by decide) rfl) dX5_readPlain_139 ?_
      obtain ⟨hc17, ht⟩ := ht
      refine ab_iald (sh_k hs14 21 14 (by decide) rfl) hc17 dX5_readPlain_142 ?_
      refine ab_bipush (v := 100) dX5_readPlain_143 (by decide) ?_
      refine ab_isub dX5_readPlain_145 ?_
      refine ab_istore_n (i := 3) (L' := [some (.ref 20), some (.int x1), some (.int x2), some (.int ((ah_i h13 21 (Int32.toNatClampNeg (ah_i h13 20 6))) - 100))]) dX5_readPlain_146 rfl (by exact (Nat.le_of_ble_eq_true rfl)) rfl rfl ?_
      refine ab_iload_n (i := 3) dX5_readPlain_147 rfl rfl ?_
      refine ab_bipush (v := 60) dX5_readPlain_148 (by decide) ?_
      refine ab_icmp_eq (tgt := 167) dX5_readPlain_150 (by decide) (fun c18 => ?_) (fun c18 => ?_)
      · have ht := ht.1 c18
        exact Wp.fewer (L' := [some (.ref 20), some (.int x1), some (.int x2), some (.int ((ah_i h13 21 (Int32.toNatClampNeg (ah_i h13 20 6))) - 100))]) (show ab_leL _ _ from ⟨rfl, ⟨rfl, ⟨rfl, ⟨rfl, trivial⟩⟩⟩⟩) ht
      · have ht := ht.2 c18
        refine ab_iload_n (i := 3) dX5_readPlain_153 rfl rfl ?_
        refine ab_bipush (v := 62) dX5_readPlain_154 (by decide) ?_
        refine ab_icmp_eq (tgt := 167) dX5_readPlain_156 (by decide) (fun c19 => ?_) (fun c19 => ?_)
        · have ht := ht.1 c19
          exact Wp.fewer (L' := [some (.ref 20), some (.int x1), some (.int x2), some (.int ((ah_i h13 21 (Int32.toNatClampNeg (ah_i h13 20 6))) - 100))]) (show ab_leL _ _ from ⟨rfl, ⟨rfl, ⟨rfl, ⟨rfl, trivial⟩⟩⟩⟩) ht
        · have ht := ht.2 c19
          refine ab_iload_n (i := 3) dX5_readPlain_159 rfl rfl ?_
          refine ab_bipush (v := 61) dX5_readPlain_160 (by decide) ?_
          refine ab_icmp_eq (tgt := 167) dX5_readPlain_162 (by decide) (fun c20 => ?_) (fun c20 => ?_)
          · have ht := ht.1 c20
            exact Wp.fewer (L' := [some (.ref 20), some (.int x1), some (.int x2), some (.int ((ah_i h13 21 (Int32.toNatClampNeg (ah_i h13 20 6))) - 100))]) (show ab_leL _ _ from ⟨rfl, ⟨rfl, ⟨rfl, ⟨rfl, trivial⟩⟩⟩⟩) ht
          · have ht := ht.2 c20
            refine ab_iconst (v := 0) dX5_readPlain_165 (by decide) ?_
            exact ab_zret rfl rfl dX5_readPlain_166 (Nat.le_of_ble_eq_true rfl) (Nat.le_of_ble_eq_true rfl) ht
    · have ht := ht.2 c16
      refine ab_iconst (v := 0) dX5_readPlain_132 (by decide) ?_
      exact ab_zret rfl rfl dX5_readPlain_133 (Nat.le_of_ble_eq_true rfl) (Nat.le_of_ble_eq_true rfl) ht
  · have ht := ht.2 c12
    refine ab_iload_n (i := 1) dX5_readPlain_66 rfl rfl ?_
    refine ab_bipush (v := 8) dX5_readPlain_67 (by decide) ?_
    refine ab_icmp_lt (tgt := 74) dX5_readPlain_69 (by decide) (fun c21 => ?_) (fun c21 => ?_)
    · have ht := ht.1 c21
      refine ab_aload_n (i := 0) dX5_readPlain_74 rfl rfl ?_
      refine ab_dup dX5_readPlain_75 rfl ?_
      refine ab_getI f_X5_31 rfl (sh_k hs 20 5 (by decide) rfl) dX5_readPlain_76 ?_
      refine ab_iconst (v := 1) dX5_readPlain_79 (by decide) ?_
      refine ab_iadd dX5_readPlain_80 ?_
      refine ab_putI f_X5_31 (Or.inl rfl) rfl (sh_k hs 20 5 (by decide) rfl) rfl rfl dX5_readPlain_81 ?_
      refine Wp.nm fun h22 e23 => ?_
      have ht := ht h22 e23
      have hs24 : Sh h22 := by rw [e23]; exact sh_si hs
      refine ab_aload_n (i := 0) dX5_readPlain_84 rfl rfl ?_
      refine ab_iload_n (i := 1) dX5_readPlain_85 rfl rfl ?_
      refine ab_iconst (v := 1) dX5_readPlain_86 (by decide) ?_
      refine ab_iadd dX5_readPlain_87 ?_
      refine ab_callV (b := 20) (As := [.int (x1 + 1)]) ht (Y_X5_readTest _) l_X5_114 in_X5_readTest se_X5_readTest (sh_k hs24 20 5 (by decide) rfl) (by decide) rfl rfl ⟨(show d - 1 + 1 ≤ d by omega), (Nat.le_of_ble_eq_true rfl), (Nat.le_of_ble_eq_true rfl), (Nat.le_of_ble_eq_true rfl)⟩ dX5_readPlain_88 ?_
      rintro _ h25 ⟨v27, rfl, hs26, ht⟩
      refine ab_if_eq (tgt := 109) dX5_readPlain_91 (by decide) (fun c28 => ?_) (fun c28 => ?_)
      · have ht := ht.1 c28
        exact Wp.fewer (L' := [none, none, none, none]) (show ab_leL _ _ from trivial) ht
      · have ht := ht.2 c28
        refine ab_aload_n (i := 0) dX5_readPlain_94 rfl rfl ?_
        refine ab_getR (b := 21) f_X5_15 rfl (sh_k hs26 20 5 (by decide) rfl) (sh_r hs26 27 rfl) dX5_readPlain_95 ?_
        refine ab_aload_n (i := 0) dX5_readPlain_98 rfl rfl ?_
        refine ab_getI f_X5_31 rfl (sh_k hs26 20 5 (by decide) rfl) dX5_readPlain_99 ?_
        obtain ⟨hc29, ht⟩ := ht
        refine ab_iald (sh_k hs26 21 14 (by decide) rfl) hc29 dX5_readPlain_102 ?_
        refine ab_sipush (v := 141) dX5_readPlain_103 (by decide) ?_
        refine ab_icmp_eq (tgt := 111) dX5_readPlain_106 (by decide) (fun c30 => ?_) (fun c30 => ?_)
        · have ht := ht.1 c30
          refine ab_aload_n (i := 0) dX5_readPlain_111 rfl rfl ?_
          refine ab_dup dX5_readPlain_112 rfl ?_
          refine ab_getI f_X5_31 rfl (sh_k hs26 20 5 (by decide) rfl) dX5_readPlain_113 ?_
          refine ab_iconst (v := 1) dX5_readPlain_116 (by decide) ?_
          refine ab_iadd dX5_readPlain_117 ?_
          refine ab_putI f_X5_31 (Or.inl rfl) rfl (sh_k hs26 20 5 (by decide) rfl) rfl rfl dX5_readPlain_118 ?_
          refine Wp.nm fun h31 e32 => ?_
          have ht := ht h31 e32
          have hs33 : Sh h31 := by rw [e32]; exact sh_si hs26
          refine ab_goto (tgt := 217) dX5_readPlain_121 (by decide) ?_
          exact Wp.fewer (L' := [some (.ref 20), none, some (.int x2), none]) (show ab_leL _ _ from ⟨rfl, ⟨rfl, trivial⟩⟩) ht
        · have ht := ht.2 c30
          exact Wp.fewer (L' := [none, none, none, none]) (show ab_leL _ _ from trivial) ht
    · have ht := ht.2 c21
      refine ab_iconst (v := 0) dX5_readPlain_72 (by decide) ?_
      exact ab_zret rfl rfl dX5_readPlain_73 (Nat.le_of_ble_eq_true rfl) (Nat.le_of_ble_eq_true rfl) ht
set_option maxRecDepth 20000 in
theorem T_X5_readPlain_167 {d : Nat} (hd : 8 ≤ d) {Q : Option Value → ah_T → Prop} {h : ah_T} (hs : Sh h) (x1 : Int32) (x2 : Int32) (x3 : Int32) (ht : (∀ h34, h34 = ah_si h 20 6 ((ah_i h 20 6) + 1) → (Mt (mX5_readSum (d - 1)) [.ref 20, .int x1] h34 (ab_qi fun v39 h37 => Sh h37 ∧ ((¬ v39 = 0 → ((¬ x3 = 60 → ((¬ x3 = 62 → (Mt mX5_emit [.ref 20, .int 10, .int 0] h37 (ab_qi fun v45 h43 => Sh h43 ∧ Wp (mX5_readPlain d) Q 0 0 217 [some (.ref 20), none, some (.int x2), none] [] h43))) ∧ (x3 = 62 → (Mt mX5_emit [.ref 20, .int 9, .int 0] h37 (ab_qi fun v48 h46 => Sh h46 ∧ Wp (mX5_readPlain d) Q 0 0 217 [some (.ref 20), none, some (.int x2), none] [] h46))))) ∧ (x3 = 60 → (Mt mX5_emit [.ref 20, .int 8, .int 0] h37 (ab_qi fun v51 h49 => Sh h49 ∧ Wp (mX5_readPlain d) Q 0 0 217 [some (.ref 20), none, some (.int x2), none] [] h49))))) ∧ (v39 = 0 → Q (some (.int 0)) h37)))))) : Wp (mX5_readPlain d) Q 0 0 167 [some (.ref 20), some (.int x1), some (.int x2), some (.int x3)] [] h := by
  refine ab_aload_n (i := 0) dX5_readPlain_167 rfl rfl ?_
  refine ab_dup dX5_readPlain_168 rfl ?_
  refine ab_getI f_X5_31 rfl (sh_k hs 20 5 (by decide) rfl) dX5_readPlain_169 ?_
  refine ab_iconst (v := 1) dX5_readPlain_172 (by decide) ?_
  refine ab_iadd dX5_readPlain_173 ?_
  refine ab_putI f_X5_31 (Or.inl rfl) rfl (sh_k hs 20 5 (by decide) rfl) rfl rfl dX5_readPlain_174 ?_
  refine Wp.nm fun h34 e35 => ?_
  have ht := ht h34 e35
  have hs36 : Sh h34 := by rw [e35]; exact sh_si hs
  refine ab_aload_n (i := 0) dX5_readPlain_177 rfl rfl ?_
  refine ab_iload_n (i := 1) dX5_readPlain_178 rfl rfl ?_
  refine ab_callV (b := 20) (As := [.int x1]) ht (Y_X5_readSum _) l_X5_108 in_X5_readSum se_X5_readSum (sh_k hs36 20 5 (by decide) rfl) (by decide) rfl rfl ⟨(show d - 1 + 1 ≤ d by omega), (Nat.le_of_ble_eq_true rfl), (Nat.le_of_ble_eq_true rfl), (Nat.le_of_ble_eq_true rfl)⟩ dX5_readPlain_179 ?_
  rintro _ h37 ⟨v39, rfl, hs38, ht⟩
  refine ab_if_ne (tgt := 187) dX5_readPlain_182 (by decide) (fun c40 => ?_) (fun c40 => ?_)
  · have ht := ht.1 c40
    refine ab_aload_n (i := 0) dX5_readPlain_187 rfl rfl ?_
    refine ab_iload_n (i := 3) dX5_readPlain_188 rfl rfl ?_
    refine ab_bipush (v := 60) dX5_readPlain_189 (by decide) ?_
    refine ab_icmp_ne (tgt := 199) dX5_readPlain_191 (by decide) (fun c41 => ?_) (fun c41 => ?_)
    · have ht := ht.1 c41
      refine ab_iload_n (i := 3) dX5_readPlain_199 rfl rfl ?_
      refine ab_bipush (v := 62) dX5_readPlain_200 (by decide) ?_
      refine ab_icmp_ne (tgt := 210) dX5_readPlain_202 (by decide) (fun c42 => ?_) (fun c42 => ?_)
      · have ht := ht.1 c42
        refine ab_bipush (v := 10) dX5_readPlain_210 (by decide) ?_
        refine ab_iconst (v := 0) dX5_readPlain_212 (by decide) ?_
        refine ab_callV (b := 20) (As := [.int 10, .int 0]) ht (Y_X5_emit) l_X5_111 in_X5_emit se_X5_emit (sh_k hs38 20 5 (by decide) rfl) (by decide) rfl rfl ⟨(show 1 + 1 ≤ d by omega), (Nat.le_of_ble_eq_true rfl), (Nat.le_of_ble_eq_true rfl), (Nat.le_of_ble_eq_true rfl)⟩ dX5_readPlain_213 ?_
        rintro _ h43 ⟨v45, rfl, hs44, ht⟩
        refine ab_pop dX5_readPlain_216 rfl ?_
        exact Wp.fewer (L' := [some (.ref 20), none, some (.int x2), none]) (show ab_leL _ _ from ⟨rfl, ⟨rfl, trivial⟩⟩) ht
      · have ht := ht.2 c42
        refine ab_bipush (v := 9) dX5_readPlain_205 (by decide) ?_
        refine ab_goto (tgt := 212) dX5_readPlain_207 (by decide) ?_
        refine ab_iconst (v := 0) dX5_readPlain_212 (by decide) ?_
        refine ab_callV (b := 20) (As := [.int 9, .int 0]) ht (Y_X5_emit) l_X5_111 in_X5_emit se_X5_emit (sh_k hs38 20 5 (by decide) rfl) (by decide) rfl rfl ⟨(show 1 + 1 ≤ d by omega), (Nat.le_of_ble_eq_true rfl), (Nat.le_of_ble_eq_true rfl), (Nat.le_of_ble_eq_true rfl)⟩ dX5_readPlain_213 ?_
        rintro _ h46 ⟨v48, rfl, hs47, ht⟩
        refine ab_pop dX5_readPlain_216 rfl ?_
        exact Wp.fewer (L' := [some (.ref 20), none, some (.int x2), none]) (show ab_leL _ _ from ⟨rfl, ⟨rfl, trivial⟩⟩) ht
    · have ht := ht.2 c41
      refine ab_bipush (v := 8) dX5_readPlain_194 (by decide) ?_
      refine ab_goto (tgt := 212) dX5_readPlain_196 (by decide) ?_
      refine ab_iconst (v := 0) dX5_readPlain_212 (by decide) ?_
      refine ab_callV (b := 20) (As := [.int 8, .int 0]) ht (Y_X5_emit) l_X5_111 in_X5_emit se_X5_emit (sh_k hs38 20 5 (by decide) rfl) (by decide) rfl rfl ⟨(show 1 + 1 ≤ d by omega), (Nat.le_of_ble_eq_true rfl), (Nat.le_of_ble_eq_true rfl), (Nat.le_of_ble_eq_true rfl)⟩ dX5_readPlain_213 ?_
      rintro _ h49 ⟨v51, rfl, hs50, ht⟩
      refine ab_pop dX5_readPlain_216 rfl ?_
      exact Wp.fewer (L' := [some (.ref 20), none, some (.int x2), none]) (show ab_leL _ _ from ⟨rfl, ⟨rfl, trivial⟩⟩) ht
  · have ht := ht.2 c40
    refine ab_iconst (v := 0) dX5_readPlain_185 (by decide) ?_
    exact ab_zret rfl rfl dX5_readPlain_186 (Nat.le_of_ble_eq_true rfl) (Nat.le_of_ble_eq_true rfl) ht
set_option maxRecDepth 20000 in
theorem T_X5_readPlain_109 {d : Nat} (hd : 8 ≤ d) {Q : Option Value → ah_T → Prop} {h : ah_T} (hs : Sh h)  (ht : Q (some (.int 0)) h) : Wp (mX5_readPlain d) Q 0 0 109 [none, none, none, none] [] h := by
  refine ab_iconst (v := 0) dX5_readPlain_109 (by decide) ?_
  exact ab_zret rfl rfl dX5_readPlain_110 (Nat.le_of_ble_eq_true rfl) (Nat.le_of_ble_eq_true rfl) ht
set_option maxRecDepth 20000 in
theorem T_X5_readPlain_217 {d : Nat} (hd : 8 ≤ d) {Q : Option Value → ah_T → Prop} {h : ah_T} (hs : Sh h) (x2 : Int32) (ht : ((x2 = 0 → Wp (mX5_readPlain d) Q 0 0 229 [none, none, none, none] [] h) ∧ (¬ x2 = 0 → (Mt mX5_emit [.ref 20, .int 11, .int 0] h (ab_qi fun v55 h53 => Sh h53 ∧ Wp (mX5_readPlain d) Q 0 0 229 [none, none, none, none] [] h53))))) : Wp (mX5_readPlain d) Q 0 0 217 [some (.ref 20), none, some (.int x2), none] [] h := by
  refine ab_iload_n (i := 2) dX5_readPlain_217 rfl rfl ?_
  refine ab_if_eq (tgt := 229) dX5_readPlain_218 (by decide) (fun c52 => ?_) (fun c52 => ?_)
  · have ht := ht.1 c52
    exact Wp.fewer (L' := [none, none, none, none]) (show ab_leL _ _ from trivial) ht
  · have ht := ht.2 c52
    refine ab_aload_n (i := 0) dX5_readPlain_221 rfl rfl ?_
    refine ab_bipush (v := 11) dX5_readPlain_222 (by decide) ?_
    refine ab_iconst (v := 0) dX5_readPlain_224 (by decide) ?_
    refine ab_callV (b := 20) (As := [.int 11, .int 0]) ht (Y_X5_emit) l_X5_111 in_X5_emit se_X5_emit (sh_k hs 20 5 (by decide) rfl) (by decide) rfl rfl ⟨(show 1 + 1 ≤ d by omega), (Nat.le_of_ble_eq_true rfl), (Nat.le_of_ble_eq_true rfl), (Nat.le_of_ble_eq_true rfl)⟩ dX5_readPlain_225 ?_
    rintro _ h53 ⟨v55, rfl, hs54, ht⟩
    refine ab_pop dX5_readPlain_228 rfl ?_
    exact Wp.fewer (L' := [none, none, none, none]) (show ab_leL _ _ from trivial) ht
set_option maxRecDepth 20000 in
theorem T_X5_readPlain_229 {d : Nat} (hd : 8 ≤ d) {Q : Option Value → ah_T → Prop} {h : ah_T} (hs : Sh h)  (ht : Q (some (.int 1)) h) : Wp (mX5_readPlain d) Q 0 0 229 [none, none, none, none] [] h := by
  refine ab_iconst (v := 1) dX5_readPlain_229 (by decide) ?_
  exact ab_zret rfl rfl dX5_readPlain_230 (Nat.le_of_ble_eq_true rfl) (Nat.le_of_ble_eq_true rfl) ht
set_option maxRecDepth 20000 in
theorem T_X5_readPlain {d : Nat} (hd : 8 ≤ d) {Q : Option Value → ah_T → Prop} {h : ah_T} (hs : Sh h) (x1 : Int32) (ht : Wp (mX5_readPlain d) Q 0 0 4 [some (.ref 20), some (.int x1), some (.int 0), some (.int 0)] [] h) : Mt (mX5_readPlain d) [.ref 20, .int x1] h Q := by
  refine Mt.ofWp rfl (by exact (Nat.le_of_ble_eq_true rfl)) (Wp.fewer (L' := [some (.ref 20), some (.int x1), none, none]) (show ab_leL _ _ from ⟨rfl, ⟨rfl, trivial⟩⟩) ?_)
  refine ab_iconst (v := 0) dX5_readPlain_0 (by decide) ?_
  refine ab_istore_n (i := 2) (L' := [some (.ref 20), some (.int x1), some (.int 0), none]) dX5_readPlain_1 rfl (by exact (Nat.le_of_ble_eq_true rfl)) rfl rfl ?_
  refine ab_iconst (v := 0) dX5_readPlain_2 (by decide) ?_
  refine ab_istore_n (i := 3) (L' := [some (.ref 20), some (.int x1), some (.int 0), some (.int 0)]) dX5_readPlain_3 rfl (by exact (Nat.le_of_ble_eq_true rfl)) rfl rfl ?_
  exact Wp.fewer (L' := [some (.ref 20), some (.int x1), some (.int 0), some (.int 0)]) (show ab_leL _ _ from ⟨rfl, ⟨rfl, ⟨rfl, ⟨rfl, trivial⟩⟩⟩⟩) ht
theorem dX5_readSum_0 : decode cX5_readSum 0 = .ok (.iconst 0, 1) := by decide +kernel
theorem dX5_readSum_1 : decode cX5_readSum 1 = .ok (.istore_n 2, 1) := by decide +kernel
theorem dX5_readSum_2 : decode cX5_readSum 2 = .ok (.iconst 0, 1) := by decide +kernel
theorem dX5_readSum_3 : decode cX5_readSum 3 = .ok (.istore_n 3, 1) := by decide +kernel
theorem dX5_readSum_4 : decode cX5_readSum 4 = .ok (.iload_n 3, 1) := by decide +kernel
theorem dX5_readSum_5 : decode cX5_readSum 5 = .ok (.sipush 400, 3) := by decide +kernel
theorem dX5_readSum_8 : decode cX5_readSum 8 = .ok (.if_icmp .ge 192, 3) := by decide +kernel
theorem dX5_readSum_11 : decode cX5_readSum 11 = .ok (.iconst 0, 1) := by decide +kernel
theorem dX5_readSum_12 : decode cX5_readSum 12 = .ok (.istore 4, 2) := by decide +kernel
theorem dX5_readSum_14 : decode cX5_readSum 14 = .ok (.iconst 0, 1) := by decide +kernel
theorem dX5_readSum_15 : decode cX5_readSum 15 = .ok (.istore 5, 2) := by decide +kernel
theorem dX5_readSum_17 : decode cX5_readSum 17 = .ok (.iload 5, 2) := by decide +kernel
theorem dX5_readSum_19 : decode cX5_readSum 19 = .ok (.sipush 400, 3) := by decide +kernel
theorem dX5_readSum_22 : decode cX5_readSum 22 = .ok (.if_icmp .ge 107, 3) := by decide +kernel
theorem dX5_readSum_25 : decode cX5_readSum 25 = .ok (.aload_n 0, 1) := by decide +kernel
theorem dX5_readSum_26 : decode cX5_readSum 26 = .ok (.iload_n 1, 1) := by decide +kernel
theorem dX5_readSum_27 : decode cX5_readSum 27 = .ok (.invokevirtual 124, 3) := by decide +kernel
theorem dX5_readSum_30 : decode cX5_readSum 30 = .ok (.ifCond .ne 5, 3) := by decide +kernel
theorem dX5_readSum_33 : decode cX5_readSum 33 = .ok (.iconst 0, 1) := by decide +kernel
theorem dX5_readSum_34 : decode cX5_readSum 34 = .ok (.ireturn, 1) := by decide +kernel
theorem dX5_readSum_35 : decode cX5_readSum 35 = .ok (.iload 4, 2) := by decide +kernel
theorem dX5_readSum_37 : decode cX5_readSum 37 = .ok (.ifCond .eq 11, 3) := by decide +kernel
theorem dX5_readSum_40 : decode cX5_readSum 40 = .ok (.aload_n 0, 1) := by decide +kernel
theorem dX5_readSum_41 : decode cX5_readSum 41 = .ok (.iload 4, 2) := by decide +kernel
theorem dX5_readSum_43 : decode cX5_readSum 43 = .ok (.iconst 0, 1) := by decide +kernel
theorem dX5_readSum_44 : decode cX5_readSum 44 = .ok (.invokevirtual 111, 3) := by decide +kernel
theorem dX5_readSum_47 : decode cX5_readSum 47 = .ok (.pop, 1) := by decide +kernel
theorem dX5_readSum_48 : decode cX5_readSum 48 = .ok (.aload_n 0, 1) := by decide +kernel
theorem dX5_readSum_49 : decode cX5_readSum 49 = .ok (.getfield 15, 3) := by decide +kernel
theorem dX5_readSum_52 : decode cX5_readSum 52 = .ok (.aload_n 0, 1) := by decide +kernel
theorem dX5_readSum_53 : decode cX5_readSum 53 = .ok (.getfield 31, 3) := by decide +kernel
theorem dX5_readSum_56 : decode cX5_readSum 56 = .ok (.iaload, 1) := by decide +kernel
theorem dX5_readSum_57 : decode cX5_readSum 57 = .ok (.bipush 100, 2) := by decide +kernel
theorem dX5_readSum_59 : decode cX5_readSum 59 = .ok (.isub, 1) := by decide +kernel
theorem dX5_readSum_60 : decode cX5_readSum 60 = .ok (.istore 6, 2) := by decide +kernel
theorem dX5_readSum_62 : decode cX5_readSum 62 = .ok (.iload 6, 2) := by decide +kernel
theorem dX5_readSum_64 : decode cX5_readSum 64 = .ok (.bipush 42, 2) := by decide +kernel
theorem dX5_readSum_66 : decode cX5_readSum 66 = .ok (.if_icmp .eq 20, 3) := by decide +kernel
theorem dX5_readSum_69 : decode cX5_readSum 69 = .ok (.iload 6, 2) := by decide +kernel
theorem dX5_readSum_71 : decode cX5_readSum 71 = .ok (.bipush 47, 2) := by decide +kernel
theorem dX5_readSum_73 : decode cX5_readSum 73 = .ok (.if_icmp .eq 13, 3) := by decide +kernel
theorem dX5_readSum_76 : decode cX5_readSum 76 = .ok (.iload 6, 2) := by decide +kernel
theorem dX5_readSum_78 : decode cX5_readSum 78 = .ok (.bipush 37, 2) := by decide +kernel
theorem dX5_readSum_80 : decode cX5_readSum 80 = .ok (.if_icmp .eq 6, 3) := by decide +kernel
theorem dX5_readSum_83 : decode cX5_readSum 83 = .ok (.goto 46, 3) := by decide +kernel
theorem dX5_readSum_86 : decode cX5_readSum 86 = .ok (.iload 6, 2) := by decide +kernel
theorem dX5_readSum_88 : decode cX5_readSum 88 = .ok (.bipush 42, 2) := by decide +kernel
theorem dX5_readSum_90 : decode cX5_readSum 90 = .ok (.if_icmp .ne 7, 3) := by decide +kernel
theorem dX5_readSum_93 : decode cX5_readSum 93 = .ok (.iconst 5, 1) := by decide +kernel
theorem dX5_readSum_94 : decode cX5_readSum 94 = .ok (.goto 17, 3) := by decide +kernel
theorem dX5_readSum_97 : decode cX5_readSum 97 = .ok (.iload 6, 2) := by decide +kernel
theorem dX5_readSum_99 : decode cX5_readSum 99 = .ok (.bipush 47, 2) := by decide +kernel
theorem dX5_readSum_101 : decode cX5_readSum 101 = .ok (.if_icmp .ne 8, 3) := by decide +kernel
theorem dX5_readSum_104 : decode cX5_readSum 104 = .ok (.bipush 6, 2) := by decide +kernel
theorem dX5_readSum_106 : decode cX5_readSum 106 = .ok (.goto 5, 3) := by decide +kernel
theorem dX5_readSum_109 : decode cX5_readSum 109 = .ok (.bipush 7, 2) := by decide +kernel
theorem dX5_readSum_111 : decode cX5_readSum 111 = .ok (.istore 4, 2) := by decide +kernel
theorem dX5_readSum_113 : decode cX5_readSum 113 = .ok (.aload_n 0, 1) := by decide +kernel
theorem dX5_readSum_114 : decode cX5_readSum 114 = .ok (.dup, 1) := by decide +kernel
theorem dX5_readSum_115 : decode cX5_readSum 115 = .ok (.getfield 31, 3) := by decide +kernel
theorem dX5_readSum_118 : decode cX5_readSum 118 = .ok (.iconst 1, 1) := by decide +kernel
theorem dX5_readSum_119 : decode cX5_readSum 119 = .ok (.iadd, 1) := by decide +kernel
theorem dX5_readSum_120 : decode cX5_readSum 120 = .ok (.putfield 31, 3) := by decide +kernel
theorem dX5_readSum_123 : decode cX5_readSum 123 = .ok (.iinc 5 1, 3) := by decide +kernel
theorem dX5_readSum_126 : decode cX5_readSum 126 = .ok (.goto (-109), 3) := by decide +kernel
theorem dX5_readSum_129 : decode cX5_readSum 129 = .ok (.iload_n 2, 1) := by decide +kernel
theorem dX5_readSum_130 : decode cX5_readSum 130 = .ok (.ifCond .eq 10, 3) := by decide +kernel
theorem dX5_readSum_133 : decode cX5_readSum 133 = .ok (.aload_n 0, 1) := by decide +kernel
theorem dX5_readSum_134 : decode cX5_readSum 134 = .ok (.iload_n 2, 1) := by decide +kernel
theorem dX5_readSum_135 : decode cX5_readSum 135 = .ok (.iconst 0, 1) := by decide +kernel
theorem dX5_readSum_136 : decode cX5_readSum 136 = .ok (.invokevirtual 111, 3) := by decide +kernel
theorem dX5_readSum_139 : decode cX5_readSum 139 = .ok (.pop, 1) := by decide +kernel
theorem dX5_readSum_140 : decode cX5_readSum 140 = .ok (.aload_n 0, 1) := by decide +kernel
theorem dX5_readSum_141 : decode cX5_readSum 141 = .ok (.getfield 15, 3) := by decide +kernel
theorem dX5_readSum_144 : decode cX5_readSum 144 = .ok (.aload_n 0, 1) := by decide +kernel
theorem dX5_readSum_145 : decode cX5_readSum 145 = .ok (.getfield 31, 3) := by decide +kernel
theorem dX5_readSum_148 : decode cX5_readSum 148 = .ok (.iaload, 1) := by decide +kernel
theorem dX5_readSum_149 : decode cX5_readSum 149 = .ok (.bipush 100, 2) := by decide +kernel
theorem dX5_readSum_151 : decode cX5_readSum 151 = .ok (.isub, 1) := by decide +kernel
theorem dX5_readSum_152 : decode cX5_readSum 152 = .ok (.istore 5, 2) := by decide +kernel
theorem dX5_readSum_154 : decode cX5_readSum 154 = .ok (.iload 5, 2) := by decide +kernel
theorem dX5_readSum_156 : decode cX5_readSum 156 = .ok (.bipush 43, 2) := by decide +kernel
theorem dX5_readSum_158 : decode cX5_readSum 158 = .ok (.if_icmp .eq 13, 3) := by decide +kernel
theorem dX5_readSum_161 : decode cX5_readSum 161 = .ok (.iload 5, 2) := by decide +kernel
theorem dX5_readSum_163 : decode cX5_readSum 163 = .ok (.bipush 45, 2) := by decide +kernel
theorem dX5_readSum_165 : decode cX5_readSum 165 = .ok (.if_icmp .eq 6, 3) := by decide +kernel
theorem dX5_readSum_168 : decode cX5_readSum 168 = .ok (.goto 32, 3) := by decide +kernel
theorem dX5_readSum_171 : decode cX5_readSum 171 = .ok (.iload 5, 2) := by decide +kernel
theorem dX5_readSum_173 : decode cX5_readSum 173 = .ok (.bipush 43, 2) := by decide +kernel
theorem dX5_readSum_175 : decode cX5_readSum 175 = .ok (.if_icmp .ne 7, 3) := by decide +kernel
theorem dX5_readSum_178 : decode cX5_readSum 178 = .ok (.iconst 3, 1) := by decide +kernel
theorem dX5_readSum_179 : decode cX5_readSum 179 = .ok (.goto 4, 3) := by decide +kernel
theorem dX5_readSum_182 : decode cX5_readSum 182 = .ok (.iconst 4, 1) := by decide +kernel
theorem dX5_readSum_183 : decode cX5_readSum 183 = .ok (.istore_n 2, 1) := by decide +kernel
theorem dX5_readSum_184 : decode cX5_readSum 184 = .ok (.aload_n 0, 1) := by decide +kernel
theorem dX5_readSum_185 : decode cX5_readSum 185 = .ok (.dup, 1) := by decide +kernel
theorem dX5_readSum_186 : decode cX5_readSum 186 = .ok (.getfield 31, 3) := by decide +kernel
theorem dX5_readSum_189 : decode cX5_readSum 189 = .ok (.iconst 1, 1) := by decide +kernel
theorem dX5_readSum_190 : decode cX5_readSum 190 = .ok (.iadd, 1) := by decide +kernel
theorem dX5_readSum_191 : decode cX5_readSum 191 = .ok (.putfield 31, 3) := by decide +kernel
theorem dX5_readSum_194 : decode cX5_readSum 194 = .ok (.iinc 3 1, 3) := by decide +kernel
theorem dX5_readSum_197 : decode cX5_readSum 197 = .ok (.goto (-193), 3) := by decide +kernel
theorem dX5_readSum_200 : decode cX5_readSum 200 = .ok (.iconst 1, 1) := by decide +kernel
theorem dX5_readSum_201 : decode cX5_readSum 201 = .ok (.ireturn, 1) := by decide +kernel
set_option maxRecDepth 20000 in
theorem T_X5_readSum_4 {d : Nat} (hd : 8 ≤ d) {Q : Option Value → ah_T → Prop} {h : ah_T} (hs : Sh h) (x1 : Int32) (x2 : Int32) (x3 : Int32) (ht : ((400 ≤ x3 → Wp (mX5_readSum d) Q 0 0 200 [none, none, none, none, none, none, none] [] h) ∧ (¬ 400 ≤ x3 → Wp (mX5_readSum d) Q 0 0 17 [some (.ref 20), some (.int x1), some (.int x2), some (.int x3), some (.int 0), some (.int 0), none] [] h))) : Wp (mX5_readSum d) Q 0 0 4 [some (.ref 20), some (.int x1), some (.int x2), some (.int x3), none, none, none] [] h := by
  refine ab_iload_n (i := 3) dX5_readSum_4 rfl rfl ?_
  refine ab_sipush (v := 400) dX5_readSum_5 (by decide) ?_
  refine ab_icmp_ge (tgt := 200) dX5_readSum_8 (by decide) (fun c1 => ?_) (fun c1 => ?_)
  · have ht := ht.1 c1
    exact Wp.fewer (L' := [none, none, none, none, none, none, none]) (show ab_leL _ _ from trivial) ht
  · have ht := ht.2 c1
    refine ab_iconst (v := 0) dX5_readSum_11 (by decide) ?_
    refine ab_istore (i := 4) (L' := [some (.ref 20), some (.int x1), some (.int x2), some (.int x3), some (.int 0), none, none]) dX5_readSum_12 (by exact (Nat.le_of_ble_eq_true rfl)) rfl rfl ?_
    refine ab_iconst (v := 0) dX5_readSum_14 (by decide) ?_
    refine ab_istore (i := 5) (L' := [some (.ref 20), some (.int x1), some (.int x2), some (.int x3), some (.int 0), some (.int 0), none]) dX5_readSum_15 (by exact (Nat.le_of_ble_eq_true rfl)) rfl rfl ?_
    exact Wp.fewer (L' := [some (.ref 20), some (.int x1), some (.int x2), some (.int x3), some (.int 0), some (.int 0), none]) (show ab_leL _ _ from ⟨rfl, ⟨rfl, ⟨rfl, ⟨rfl, ⟨rfl, ⟨rfl, trivial⟩⟩⟩⟩⟩⟩) ht
set_option maxRecDepth 20000 in
theorem T_X5_readSum_200 {d : Nat} (hd : 8 ≤ d) {Q : Option Value → ah_T → Prop} {h : ah_T} (hs : Sh h)  (ht : Q (some (.int 1)) h) : Wp (mX5_readSum d) Q 0 0 200 [none, none, none, none, none, none, none] [] h := by
  refine ab_iconst (v := 1) dX5_readSum_200 (by decide) ?_
  exact ab_zret rfl rfl dX5_readSum_201 (Nat.le_of_ble_eq_true rfl) (Nat.le_of_ble_eq_true rfl) ht
set_option maxRecDepth 20000 in
theorem T_X5_readSum_17 {d : Nat} (hd : 8 ≤ d) {Q : Option Value → ah_T → Prop} {h : ah_T} (hs : Sh h) (x1 : Int32) (x2 : Int32) (x3 : Int32) (x4 : Int32) (x5 : Int32) (ht : ((400 ≤ x5 → Wp (mX5_readSum d) Q 0 0 129 [some (.ref 20), some (.int x1), some (.int x2), some (.int x3), none, none, none] [] h) ∧ (¬ 400 ≤ x5 → (Mt (mX5_readPart (d - 1)) [.ref 20, .int x1] h (ab_qi fun v5 h3 => Sh h3 ∧ ((¬ v5 = 0 → ((x4 = 0 → Wp (mX5_readSum d) Q 0 0 48 [some (.ref 20), some (.int x1), some (.int x2), some (.int x3), none, some (.int x5), none] [] h3) ∧ (¬ x4 = 0 → (Mt mX5_emit [.ref 20, .int x4, .int 0] h3 (ab_qi fun v10 h8 => Sh h8 ∧ Wp (mX5_readSum d) Q 0 0 48 [some (.ref 20), some (.int x1), some (.int x2), some (.int x3), none, some (.int x5), none] [] h8))))) ∧ (v5 = 0 → Q (some (.int 0)) h3))))))) : Wp (mX5_readSum d) Q 0 0 17 [some (.ref 20), some (.int x1), some (.int x2), some (.int x3), some (.int x4), some (.int x5), none] [] h := by
  refine ab_iload (i := 5) dX5_readSum_17 rfl ?_
  refine ab_sipush (v := 400) dX5_readSum_19 (by decide) ?_
  refine ab_icmp_ge (tgt := 129) dX5_readSum_22 (by decide) (fun c2 => ?_) (fun c2 => ?_)
  · have ht := ht.1 c2
    exact Wp.fewer (L' := [some (.ref 20), some (.int x1), some (.int x2), some (.int x3), none, none, none]) (show ab_leL _ _ from ⟨rfl, ⟨rfl, ⟨rfl, ⟨rfl, trivial⟩⟩⟩⟩) ht
  · have ht := ht.2 c2
    refine ab_aload_n (i := 0) dX5_readSum_25 rfl rfl ?_
    refine ab_iload_n (i := 1) dX5_readSum_26 rfl rfl ?_
    refine ab_callV (b := 20) (As := [.int x1]) ht (Y_X5_readPart _) l_X5_124 in_X5_readPart se_X5_readPart (sh_k hs 20 5 (by decide) rfl) (by decide) rfl rfl ⟨(show d - 1 + 1 ≤ d by omega), (Nat.le_of_ble_eq_true rfl), (Nat.le_of_ble_eq_true rfl), (Nat.le_of_ble_eq_true rfl)⟩ dX5_readSum_27 ?_
    rintro _ h3 ⟨v5, rfl, hs4, ht⟩
    refine ab_if_ne (tgt := 35) dX5_readSum_30 (by decide) (fun c6 => ?_) (fun c6 => ?_)
    · have ht := ht.1 c6
      refine ab_iload (i := 4) dX5_readSum_35 rfl ?_
      refine ab_if_eq (tgt := 48) dX5_readSum_37 (by decide) (fun c7 => ?_) (fun c7 => ?_)
      · have ht := ht.1 c7
        exact Wp.fewer (L' := [some (.ref 20), some (.int x1), some (.int x2), some (.int x3), none, some (.int x5), none]) (show ab_leL _ _ from ⟨rfl, ⟨rfl, ⟨rfl, ⟨rfl, ⟨rfl, trivial⟩⟩⟩⟩⟩) ht
      · have ht := ht.2 c7
        refine ab_aload_n (i := 0) dX5_readSum_40 rfl rfl ?_
        refine ab_iload (i := 4) dX5_readSum_41 rfl ?_
        refine ab_iconst (v := 0) dX5_readSum_43 (by decide) ?_
        refine ab_callV (b := 20) (As := [.int x4, .int 0]) ht (Y_X5_emit) l_X5_111 in_X5_emit se_X5_emit (sh_k hs4 20 5 (by decide) rfl) (by decide) rfl rfl ⟨(show 1 + 1 ≤ d by omega), (Nat.le_of_ble_eq_true rfl), (Nat.le_of_ble_eq_true rfl), (Nat.le_of_ble_eq_true rfl)⟩ dX5_readSum_44 ?_
        rintro _ h8 ⟨v10, rfl, hs9, ht⟩
        refine ab_pop dX5_readSum_47 rfl ?_
        exact Wp.fewer (L' := [some (.ref 20), some (.int x1), some (.int x2), some (.int x3), none, some (.int x5), none]) (show ab_leL _ _ from ⟨rfl, ⟨rfl, ⟨rfl, ⟨rfl, ⟨rfl, trivial⟩⟩⟩⟩⟩) ht
    · have ht := ht.2 c6
      refine ab_iconst (v := 0) dX5_readSum_33 (by decide) ?_
      exact ab_zret rfl rfl dX5_readSum_34 (Nat.le_of_ble_eq_true rfl) (Nat.le_of_ble_eq_true rfl) ht
set_option maxRecDepth 20000 in
theorem T_X5_readSum_129 {d : Nat} (hd : 8 ≤ d) {Q : Option Value → ah_T → Prop} {h : ah_T} (hs : Sh h) (x1 : Int32) (x2 : Int32) (x3 : Int32) (ht : ((x2 = 0 → Wp (mX5_readSum d) Q 0 0 140 [some (.ref 20), some (.int x1), none, some (.int x3), none, none, none] [] h) ∧ (¬ x2 = 0 → (Mt mX5_emit [.ref 20, .int x2, .int 0] h (ab_qi fun v14 h12 => Sh h12 ∧ Wp (mX5_readSum d) Q 0 0 140 [some (.ref 20), some (.int x1), none, some (.int x3), none, none, none] [] h12))))) : Wp (mX5_readSum d) Q 0 0 129 [some (.ref 20), some (.int x1), some (.int x2), some (.int x3), none, none, none] [] h := by
  refine ab_iload_n (i := 2) dX5_readSum_129 rfl rfl ?_
  refine ab_if_eq (tgt := 140) dX5_readSum_130 (by decide) (fun c11 => ?_) (fun c11 => ?_)
  · have ht := ht.1 c11
    exact Wp.fewer (L' := [some (.ref 20), some (.int x1), none, some (.int x3), none, none, none]) (show ab_leL _ _ from ⟨rfl, ⟨rfl, ⟨rfl, trivial⟩⟩⟩) ht
  · have ht := ht.2 c11
    refine ab_aload_n (i := 0) dX5_readSum_133 rfl rfl ?_
    refine ab_iload_n (i := 2) dX5_readSum_134 rfl rfl ?_
    refine ab_iconst (v := 0) dX5_readSum_135 (by decide) ?_
    refine ab_callV (b := 20) (As := [.int x2, .int 0]) ht (Y_X5_emit) l_X5_111 in_X5_emit se_X5_emit (sh_k hs 20 5 (by decide) rfl) (by decide) rfl rfl ⟨(show 1 + 1 ≤ d by omega), (Nat.le_of_ble_eq_true rfl), (Nat.le_of_ble_eq_true rfl), (Nat.le_of_ble_eq_true rfl)⟩ dX5_readSum_136 ?_
    rintro _ h12 ⟨v14, rfl, hs13, ht⟩
    refine ab_pop dX5_readSum_139 rfl ?_
    exact Wp.fewer (L' := [some (.ref 20), some (.int x1), none, some (.int x3), none, none, none]) (show ab_leL _ _ from ⟨rfl, ⟨rfl, ⟨rfl, trivial⟩⟩⟩) ht
set_option maxRecDepth 20000 in
theorem T_X5_readSum_48 {d : Nat} (hd : 8 ≤ d) {Q : Option Value → ah_T → Prop} {h : ah_T} (hs : Sh h) (x1 : Int32) (x2 : Int32) (x3 : Int32) (x5 : Int32) (ht : (vp_in (ah_i h 20 6) (ah_n h 21)) ∧ ((((ah_i h 21 (Int32.toNatClampNeg (ah_i h 20 6))) - 100) = 42 → Wp (mX5_readSum d) Q 0 0 86 [some (.ref 20), some (.int x1), some (.int x2), some (.int x3), none, some (.int x5), some (.int ((ah_i h 21 (Int32.toNatClampNeg (ah_i h 20 6))) - 100))] [] h) ∧ (¬ ((ah_i h 21 (Int32.toNatClampNeg (ah_i h 20 6))) - 100) = 42 → ((((ah_i h 21 (Int32.toNatClampNeg (ah_i h 20 6))) - 100) = 47 → Wp (mX5_readSum d) Q 0 0 86 [some (.ref 20), some (.int x1), some (.int x2), some (.int x3), none, some (.int x5), some (.int ((ah_i h 21 (Int32.toNatClampNeg (ah_i h 20 6))) - 100))] [] h) ∧ (¬ ((ah_i h 21 (Int32.toNatClampNeg (ah_i h 20 6))) - 100) = 47 → ((((ah_i h 21 (Int32.toNatClampNeg (ah_i h 20 6))) - 100) = 37 → Wp (mX5_readSum d) Q 0 0 86 [some (.ref 20), some (.int x1), some (.int x2), some (.int x3), none, some (.int x5), some (.int ((ah_i h 21 (Int32.toNatClampNeg (ah_i h 20 6))) - 100))] [] h) ∧ (¬ ((ah_i h 21 (Int32.toNatClampNeg (ah_i h 20 6))) - 100) = 37 → Wp (mX5_readSum d) Q 0 0 129 [some (.ref 20), some (.int x1), some (.int x2), some (.int x3), none, none, none] [] h))))))) : Wp (mX5_readSum d) Q 0 0 48 [some (.ref 20), some (.int x1), some (.int x2), some (.int x3), none, some (.int x5), none] [] h := by
  refine ab_aload_n (i := 0) dX5_readSum_48 rfl rfl ?_
  refine ab_getR (b := 21) f_X5_15 rfl (sh_k hs 20 5 (by decide) rfl) (sh_r hs 27 rfl) dX5_readSum_49 ?_
  refine ab_aload_n (i := 0) dX5_readSum_52 rfl rfl ?_
  refine ab_getI f_X5_31 rfl (sh_k hs 20 5 (by decide) rfl) dX5_readSum_53 ?_
  obtain ⟨hc15, ht⟩ := ht
  refine ab_iald (sh_k hs 21 14 (by decide) rfl) hc15 dX5_readSum_56 ?_
  refine ab_bipush (v := 100) dX5_readSum_57 (by decide) ?_
  refine ab_isub dX5_readSum_59 ?_
  refine ab_istore (i := 6) (L' := [some (.ref 20), some (.int x1), some (.int x2), some (.int x3), none, some (.int x5), some (.int ((ah_i h 21 (Int32.toNatClampNeg (ah_i h 20 6))) - 100))]) dX5_readSum_60 (by exact (Nat.le_of_ble_eq_true rfl)) rfl rfl ?_
  refine ab_iload (i := 6) dX5_readSum_62 rfl ?_
  refine ab_bipush (v := 42) dX5_readSum_64 (by decide) ?_
  refine ab_icmp_eq (tgt := 86) dX5_readSum_66 (by decide) (fun c16 => ?_) (fun c16 => ?_)
  · have ht := ht.1 c16
    exact Wp.fewer (L' := [some (.ref 20), some (.int x1), some (.int x2), some (.int x3), none, some (.int x5), some (.int ((ah_i h 21 (Int32.toNatClampNeg (ah_i h 20 6))) - 100))]) (show ab_leL _ _ from ⟨rfl, ⟨rfl, ⟨rfl, ⟨rfl, ⟨rfl, ⟨rfl, trivial⟩⟩⟩⟩⟩⟩) ht
  · have ht := ht.2 c16
    refine ab_iload (i := 6) dX5_readSum_69 rfl ?_
    refine ab_bipush (v := 47) dX5_readSum_71 (by decide) ?_
    refine ab_icmp_eq (tgt := 86) dX5_readSum_73 (by decide) (fun c17 => ?_) (fun c17 => ?_)
    · have ht := ht.1 c17
      exact Wp.fewer (L' := [some (.ref 20), some (.int x1), some (.int x2), some (.int x3), none, some (.int x5), some (.int ((ah_i h 21 (Int32.toNatClampNeg (ah_i h 20 6))) - 100))]) (show ab_leL _ _ from ⟨rfl, ⟨rfl, ⟨rfl, ⟨rfl, ⟨rfl, ⟨rfl, trivial⟩⟩⟩⟩⟩⟩) ht
    · have ht := ht.2 c17
      refine ab_iload (i := 6) dX5_readSum_76 rfl ?_
      refine ab_bipush (v := 37) dX5_readSum_78 (by decide) ?_
      refine ab_icmp_eq (tgt := 86) dX5_readSum_80 (by decide) (fun c18 => ?_) (fun c18 => ?_)
      · have ht := ht.1 c18
        exact Wp.fewer (L' := [some (.ref 20), some (.int x1), some (.int x2), some (.int x3), none, some (.int x5), some (.int ((ah_i h 21 (Int32.toNatClampNeg (ah_i h 20 6))) - 100))]) (show ab_leL _ _ from ⟨rfl, ⟨rfl, ⟨rfl, ⟨rfl, ⟨rfl, ⟨rfl, trivial⟩⟩⟩⟩⟩⟩) ht
      · have ht := ht.2 c18
        refine ab_goto (tgt := 129) dX5_readSum_83 (by decide) ?_
        exact Wp.fewer (L' := [some (.ref 20), some (.int x1), some (.int x2), some (.int x3), none, none, none]) (show ab_leL _ _ from ⟨rfl, ⟨rfl, ⟨rfl, ⟨rfl, trivial⟩⟩⟩⟩) ht
set_option maxRecDepth 20000 in
theorem T_X5_readSum_140 {d : Nat} (hd : 8 ≤ d) {Q : Option Value → ah_T → Prop} {h : ah_T} (hs : Sh h) (x1 : Int32) (x3 : Int32) (ht : (vp_in (ah_i h 20 6) (ah_n h 21)) ∧ ((((ah_i h 21 (Int32.toNatClampNeg (ah_i h 20 6))) - 100) = 43 → Wp (mX5_readSum d) Q 0 0 171 [some (.ref 20), some (.int x1), none, some (.int x3), none, some (.int ((ah_i h 21 (Int32.toNatClampNeg (ah_i h 20 6))) - 100)), none] [] h) ∧ (¬ ((ah_i h 21 (Int32.toNatClampNeg (ah_i h 20 6))) - 100) = 43 → ((((ah_i h 21 (Int32.toNatClampNeg (ah_i h 20 6))) - 100) = 45 → Wp (mX5_readSum d) Q 0 0 171 [some (.ref 20), some (.int x1), none, some (.int x3), none, some (.int ((ah_i h 21 (Int32.toNatClampNeg (ah_i h 20 6))) - 100)), none] [] h) ∧ (¬ ((ah_i h 21 (Int32.toNatClampNeg (ah_i h 20 6))) - 100) = 45 → Wp (mX5_readSum d) Q 0 0 200 [none, none, none, none, none, none, none] [] h))))) : Wp (mX5_readSum d) Q 0 0 140 [some (.ref 20), some (.int x1), none, some (.int x3), none, none, none] [] h := by
  refine ab_aload_n (i := 0) dX5_readSum_140 rfl rfl ?_
  refine ab_getR (b := 21) f_X5_15 rfl (sh_k hs 20 5 (by decide) rfl) (sh_r hs 27 rfl) dX5_readSum_141 ?_
  refine ab_aload_n (i := 0) dX5_readSum_144 rfl rfl ?_
  refine ab_getI f_X5_31 rfl (sh_k hs 20 5 (by decide) rfl) dX5_readSum_145 ?_
  obtain ⟨hc19, ht⟩ := ht
  refine ab_iald (sh_k hs 21 14 (by decide) rfl) hc19 dX5_readSum_148 ?_
  refine ab_bipush (v := 100) dX5_readSum_149 (by decide) ?_
  refine ab_isub dX5_readSum_151 ?_
  refine ab_istore (i := 5) (L' := [some (.ref 20), some (.int x1), none, some (.int x3), none, some (.int ((ah_i h 21 (Int32.toNatClampNeg (ah_i h 20 6))) - 100)), none]) dX5_readSum_152 (by exact (Nat.le_of_ble_eq_true rfl)) rfl rfl ?_
  refine ab_iload (i := 5) dX5_readSum_154 rfl ?_
  refine ab_bipush (v := 43) dX5_readSum_156 (by decide) ?_
  refine ab_icmp_eq (tgt := 171) dX5_readSum_158 (by decide) (fun c20 => ?_) (fun c20 => ?_)
  · have ht := ht.1 c20
    exact Wp.fewer (L' := [some (.ref 20), some (.int x1), none, some (.int x3), none, some (.int ((ah_i h 21 (Int32.toNatClampNeg (ah_i h 20 6))) - 100)), none]) (show ab_leL _ _ from ⟨rfl, ⟨rfl, ⟨rfl, ⟨rfl, trivial⟩⟩⟩⟩) ht
  · have ht := ht.2 c20
    refine ab_iload (i := 5) dX5_readSum_161 rfl ?_
    refine ab_bipush (v := 45) dX5_readSum_163 (by decide) ?_
    refine ab_icmp_eq (tgt := 171) dX5_readSum_165 (by decide) (fun c21 => ?_) (fun c21 => ?_)
    · have ht := ht.1 c21
      exact Wp.fewer (L' := [some (.ref 20), some (.int x1), none, some (.int x3), none, some (.int ((ah_i h 21 (Int32.toNatClampNeg (ah_i h 20 6))) - 100)), none]) (show ab_leL _ _ from ⟨rfl, ⟨rfl, ⟨rfl, ⟨rfl, trivial⟩⟩⟩⟩) ht
    · have ht := ht.2 c21
      refine ab_goto (tgt := 200) dX5_readSum_168 (by decide) ?_
      exact Wp.fewer (L' := [none, none, none, none, none, none, none]) (show ab_leL _ _ from trivial) ht
set_option maxRecDepth 20000 in
theorem T_X5_readSum_86 {d : Nat} (hd : 8 ≤ d) {Q : Option Value → ah_T → Prop} {h : ah_T} (hs : Sh h) (x1 : Int32) (x2 : Int32) (x3 : Int32) (x5 : Int32) (x6 : Int32) (ht : ((¬ x6 = 42 → ((¬ x6 = 47 → (∀ h24, h24 = ah_si h 20 6 ((ah_i h 20 6) + 1) → Wp (mX5_readSum d) Q 0 0 17 [some (.ref 20), some (.int x1), some (.int x2), some (.int x3), some (.int 7), some (.int (x5 + 1)), none] [] h24)) ∧ (x6 = 47 → (∀ h27, h27 = ah_si h 20 6 ((ah_i h 20 6) + 1) → Wp (mX5_readSum d) Q 0 0 17 [some (.ref 20), some (.int x1), some (.int x2), some (.int x3), some (.int 6), some (.int (x5 + 1)), none] [] h27)))) ∧ (x6 = 42 → (∀ h30, h30 = ah_si h 20 6 ((ah_i h 20 6) + 1) → Wp (mX5_readSum d) Q 0 0 17 [some (.ref 20), some (.int x1), some (.int x2), some (.int x3), some (.int 5), some (.int (x5 + 1)), none] [] h30)))) : Wp (mX5_readSum d) Q 0 0 86 [some (.ref 20), some (.int x1), some (.int x2), some (.int x3), none, some (.int x5), some (.int x6)] [] h := by
  refine ab_iload (i := 6) dX5_readSum_86 rfl ?_
  refine ab_bipush (v := 42) dX5_readSum_88 (by decide) ?_
  refine ab_icmp_ne (tgt := 97) dX5_readSum_90 (by decide) (fun c22 => ?_) (fun c22 => ?_)
  · have ht := ht.1 c22
    refine ab_iload (i := 6) dX5_readSum_97 rfl ?_
    refine ab_bipush (v := 47) dX5_readSum_99 (by decide) ?_
    refine ab_icmp_ne (tgt := 109) dX5_readSum_101 (by decide) (fun c23 => ?_) (fun c23 => ?_)
    · have ht := ht.1 c23
      refine ab_bipush (v := 7) dX5_readSum_109 (by decide) ?_
      refine ab_istore (i := 4) (L' := [some (.ref 20), some (.int x1), some (.int x2), some (.int x3), some (.int 7), some (.int x5), some (.int x6)]) dX5_readSum_111 (by exact (Nat.le_of_ble_eq_true rfl)) rfl rfl ?_
      refine ab_aload_n (i := 0) dX5_readSum_113 rfl rfl ?_
      refine ab_dup dX5_readSum_114 rfl ?_
      refine ab_getI f_X5_31 rfl (sh_k hs 20 5 (by decide) rfl) dX5_readSum_115 ?_
      refine ab_iconst (v := 1) dX5_readSum_118 (by decide) ?_
      refine ab_iadd dX5_readSum_119 ?_
      refine ab_putI f_X5_31 (Or.inl rfl) rfl (sh_k hs 20 5 (by decide) rfl) rfl rfl dX5_readSum_120 ?_
      refine Wp.nm fun h24 e25 => ?_
      have ht := ht h24 e25
      have hs26 : Sh h24 := by rw [e25]; exact sh_si hs
      refine ab_iinc (i := 5) (x := x5) (v := (x5 + 1)) (L' := [some (.ref 20), some (.int x1), some (.int x2), some (.int x3), some (.int 7), some (.int (x5 + 1)), some (.int x6)]) dX5_readSum_123 rfl rfl (by exact (Nat.le_of_ble_eq_true rfl)) rfl rfl ?_
      refine ab_goto (tgt := 17) dX5_readSum_126 (by decide) ?_
      exact Wp.fewer (L' := [some (.ref 20), some (.int x1), some (.int x2), some (.int x3), some (.int 7), some (.int (x5 + 1)), none]) (show ab_leL _ _ from ⟨rfl, ⟨rfl, ⟨rfl, ⟨rfl, ⟨rfl, ⟨rfl, trivial⟩⟩⟩⟩⟩⟩) ht
    · have ht := ht.2 c23
      refine ab_bipush (v := 6) dX5_readSum_104 (by decide) ?_
      refine ab_goto (tgt := 111) dX5_readSum_106 (by decide) ?_
      refine ab_istore (i := 4) (L' := [some (.ref 20), some (.int x1), some (.int x2), some (.int x3), some (.int 6), some (.int x5), some (.int x6)]) dX5_readSum_111 (by exact (Nat.le_of_ble_eq_true rfl)) rfl rfl ?_
      refine ab_aload_n (i := 0) dX5_readSum_113 rfl rfl ?_
      refine ab_dup dX5_readSum_114 rfl ?_
      refine ab_getI f_X5_31 rfl (sh_k hs 20 5 (by decide) rfl) dX5_readSum_115 ?_
      refine ab_iconst (v := 1) dX5_readSum_118 (by decide) ?_
      refine ab_iadd dX5_readSum_119 ?_
      refine ab_putI f_X5_31 (Or.inl rfl) rfl (sh_k hs 20 5 (by decide) rfl) rfl rfl dX5_readSum_120 ?_
      refine Wp.nm fun h27 e28 => ?_
      have ht := ht h27 e28
      have hs29 : Sh h27 := by rw [e28]; exact sh_si hs
      refine ab_iinc (i := 5) (x := x5) (v := (x5 + 1)) (L' := [some (.ref 20), some (.int x1), some (.int x2), some (.int x3), some (.int 6), some (.int (x5 + 1)), some (.int x6)]) dX5_readSum_123 rfl rfl (by exact (Nat.le_of_ble_eq_true rfl)) rfl rfl ?_
      refine ab_goto (tgt := 17) dX5_readSum_126 (by decide) ?_
      exact Wp.fewer (L' := [some (.ref 20), some (.int x1), some (.int x2), some (.int x3), some (.int 6), some (.int (x5 + 1)), none]) (show ab_leL _ _ from ⟨rfl, ⟨rfl, ⟨rfl, ⟨rfl, ⟨rfl, ⟨rfl, trivial⟩⟩⟩⟩⟩⟩) ht
  · have ht := ht.2 c22
    refine ab_iconst (v := 5) dX5_readSum_93 (by decide) ?_
    refine ab_goto (tgt := 111) dX5_readSum_94 (by decide) ?_
    refine ab_istore (i := 4) (L' := [some (.ref 20), some (.int x1), some (.int x2), some (.int x3), some (.int 5), some (.int x5), some (.int x6)]) dX5_readSum_111 (by exact (Nat.le_of_ble_eq_true rfl)) rfl rfl ?_
    refine ab_aload_n (i := 0) dX5_readSum_113 rfl rfl ?_
    refine ab_dup dX5_readSum_114 rfl ?_
    refine ab_getI f_X5_31 rfl (sh_k hs 20 5 (by decide) rfl) dX5_readSum_115 ?_
    refine ab_iconst (v := 1) dX5_readSum_118 (by decide) ?_
    refine ab_iadd dX5_readSum_119 ?_
    refine ab_putI f_X5_31 (Or.inl rfl) rfl (sh_k hs 20 5 (by decide) rfl) rfl rfl dX5_readSum_120 ?_
    refine Wp.nm fun h30 e31 => ?_
    have ht := ht h30 e31
    have hs32 : Sh h30 := by rw [e31]; exact sh_si hs
    refine ab_iinc (i := 5) (x := x5) (v := (x5 + 1)) (L' := [some (.ref 20), some (.int x1), some (.int x2), some (.int x3), some (.int 5), some (.int (x5 + 1)), some (.int x6)]) dX5_readSum_123 rfl rfl (by exact (Nat.le_of_ble_eq_true rfl)) rfl rfl ?_
    refine ab_goto (tgt := 17) dX5_readSum_126 (by decide) ?_
    exact Wp.fewer (L' := [some (.ref 20), some (.int x1), some (.int x2), some (.int x3), some (.int 5), some (.int (x5 + 1)), none]) (show ab_leL _ _ from ⟨rfl, ⟨rfl, ⟨rfl, ⟨rfl, ⟨rfl, ⟨rfl, trivial⟩⟩⟩⟩⟩⟩) ht
set_option maxRecDepth 20000 in
theorem T_X5_readSum_171 {d : Nat} (hd : 8 ≤ d) {Q : Option Value → ah_T → Prop} {h : ah_T} (hs : Sh h) (x1 : Int32) (x3 : Int32) (x5 : Int32) (ht : ((¬ x5 = 43 → (∀ h34, h34 = ah_si h 20 6 ((ah_i h 20 6) + 1) → Wp (mX5_readSum d) Q 0 0 4 [some (.ref 20), some (.int x1), some (.int 4), some (.int (x3 + 1)), none, none, none] [] h34)) ∧ (x5 = 43 → (∀ h37, h37 = ah_si h 20 6 ((ah_i h 20 6) + 1) → Wp (mX5_readSum d) Q 0 0 4 [some (.ref 20), some (.int x1), some (.int 3), some (.int (x3 + 1)), none, none, none] [] h37)))) : Wp (mX5_readSum d) Q 0 0 171 [some (.ref 20), some (.int x1), none, some (.int x3), none, some (.int x5), none] [] h := by
  refine ab_iload (i := 5) dX5_readSum_171 rfl ?_
  refine ab_bipush (v := 43) dX5_readSum_173 (by decide) ?_
  refine ab_icmp_ne (tgt := 182) dX5_readSum_175 (by decide) (fun c33 => ?_) (fun c33 => ?_)
  · have ht := ht.1 c33
    refine ab_iconst (v := 4) dX5_readSum_182 (by decide) ?_
    refine ab_istore_n (i := 2) (L' := [some (.ref 20), some (.int x1), some (.int 4), some (.int x3), none, some (.int x5), none]) dX5_readSum_183 rfl (by exact (Nat.le_of_ble_eq_true rfl)) rfl rfl ?_
    refine ab_aload_n (i := 0) dX5_readSum_184 rfl rfl ?_
    refine ab_dup dX5_readSum_185 rfl ?_
    refine ab_getI f_X5_31 rfl (sh_k hs 20 5 (by decide) rfl) dX5_readSum_186 ?_
    refine ab_iconst (v := 1) dX5_readSum_189 (by decide) ?_
    refine ab_iadd dX5_readSum_190 ?_
    refine ab_putI f_X5_31 (Or.inl rfl) rfl (sh_k hs 20 5 (by decide) rfl) rfl rfl dX5_readSum_191 ?_
    refine Wp.nm fun h34 e35 => ?_
    have ht := ht h34 e35
    have hs36 : Sh h34 := by rw [e35]; exact sh_si hs
    refine ab_iinc (i := 3) (x := x3) (v := (x3 + 1)) (L' := [some (.ref 20), some (.int x1), some (.int 4), some (.int (x3 + 1)), none, some (.int x5), none]) dX5_readSum_194 rfl rfl (by exact (Nat.le_of_ble_eq_true rfl)) rfl rfl ?_
    refine ab_goto (tgt := 4) dX5_readSum_197 (by decide) ?_
    exact Wp.fewer (L' := [some (.ref 20), some (.int x1), some (.int 4), some (.int (x3 + 1)), none, none, none]) (show ab_leL _ _ from ⟨rfl, ⟨rfl, ⟨rfl, ⟨rfl, trivial⟩⟩⟩⟩) ht
  · have ht := ht.2 c33
    refine ab_iconst (v := 3) dX5_readSum_178 (by decide) ?_
    refine ab_goto (tgt := 183) dX5_readSum_179 (by decide) ?_
    refine ab_istore_n (i := 2) (L' := [some (.ref 20), some (.int x1), some (.int 3), some (.int x3), none, some (.int x5), none]) dX5_readSum_183 rfl (by exact (Nat.le_of_ble_eq_true rfl)) rfl rfl ?_
    refine ab_aload_n (i := 0) dX5_readSum_184 rfl rfl ?_
    refine ab_dup dX5_readSum_185 rfl ?_
    refine ab_getI f_X5_31 rfl (sh_k hs 20 5 (by decide) rfl) dX5_readSum_186 ?_
    refine ab_iconst (v := 1) dX5_readSum_189 (by decide) ?_
    refine ab_iadd dX5_readSum_190 ?_
    refine ab_putI f_X5_31 (Or.inl rfl) rfl (sh_k hs 20 5 (by decide) rfl) rfl rfl dX5_readSum_191 ?_
    refine Wp.nm fun h37 e38 => ?_
    have ht := ht h37 e38
    have hs39 : Sh h37 := by rw [e38]; exact sh_si hs
    refine ab_iinc (i := 3) (x := x3) (v := (x3 + 1)) (L' := [some (.ref 20), some (.int x1), some (.int 3), some (.int (x3 + 1)), none, some (.int x5), none]) dX5_readSum_194 rfl rfl (by exact (Nat.le_of_ble_eq_true rfl)) rfl rfl ?_
    refine ab_goto (tgt := 4) dX5_readSum_197 (by decide) ?_
    exact Wp.fewer (L' := [some (.ref 20), some (.int x1), some (.int 3), some (.int (x3 + 1)), none, none, none]) (show ab_leL _ _ from ⟨rfl, ⟨rfl, ⟨rfl, ⟨rfl, trivial⟩⟩⟩⟩) ht
set_option maxRecDepth 20000 in
theorem T_X5_readSum {d : Nat} (hd : 8 ≤ d) {Q : Option Value → ah_T → Prop} {h : ah_T} (hs : Sh h) (x1 : Int32) (ht : Wp (mX5_readSum d) Q 0 0 4 [some (.ref 20), some (.int x1), some (.int 0), some (.int 0), none, none, none] [] h) : Mt (mX5_readSum d) [.ref 20, .int x1] h Q := by
  refine Mt.ofWp rfl (by exact (Nat.le_of_ble_eq_true rfl)) (Wp.fewer (L' := [some (.ref 20), some (.int x1), none, none, none, none, none]) (show ab_leL _ _ from ⟨rfl, ⟨rfl, trivial⟩⟩) ?_)
  refine ab_iconst (v := 0) dX5_readSum_0 (by decide) ?_
  refine ab_istore_n (i := 2) (L' := [some (.ref 20), some (.int x1), some (.int 0), none, none, none, none]) dX5_readSum_1 rfl (by exact (Nat.le_of_ble_eq_true rfl)) rfl rfl ?_
  refine ab_iconst (v := 0) dX5_readSum_2 (by decide) ?_
  refine ab_istore_n (i := 3) (L' := [some (.ref 20), some (.int x1), some (.int 0), some (.int 0), none, none, none]) dX5_readSum_3 rfl (by exact (Nat.le_of_ble_eq_true rfl)) rfl rfl ?_
  exact Wp.fewer (L' := [some (.ref 20), some (.int x1), some (.int 0), some (.int 0), none, none, none]) (show ab_leL _ _ from ⟨rfl, ⟨rfl, ⟨rfl, ⟨rfl, trivial⟩⟩⟩⟩) ht
theorem dX5_readPart_0 : decode cX5_readPart 0 = .ok (.aload_n 0, 1) := by decide +kernel
theorem dX5_readPart_1 : decode cX5_readPart 1 = .ok (.getfield 15, 3) := by decide +kernel
theorem dX5_readPart_4 : decode cX5_readPart 4 = .ok (.aload_n 0, 1) := by decide +kernel
theorem dX5_readPart_5 : decode cX5_readPart 5 = .ok (.getfield 31, 3) := by decide +kernel
theorem dX5_readPart_8 : decode cX5_readPart 8 = .ok (.iaload, 1) := by decide +kernel
theorem dX5_readPart_9 : decode cX5_readPart 9 = .ok (.istore_n 2, 1) := by decide +kernel
theorem dX5_readPart_10 : decode cX5_readPart 10 = .ok (.iload_n 2, 1) := by decide +kernel
theorem dX5_readPart_11 : decode cX5_readPart 11 = .ok (.sipush 191, 3) := by decide +kernel
theorem dX5_readPart_14 : decode cX5_readPart 14 = .ok (.if_icmp .ne 60, 3) := by decide +kernel
theorem dX5_readPart_17 : decode cX5_readPart 17 = .ok (.iload_n 1, 1) := by decide +kernel
theorem dX5_readPart_18 : decode cX5_readPart 18 = .ok (.bipush 8, 2) := by decide +kernel
theorem dX5_readPart_20 : decode cX5_readPart 20 = .ok (.if_icmp .lt 5, 3) := by decide +kernel
theorem dX5_readPart_23 : decode cX5_readPart 23 = .ok (.iconst 0, 1) := by decide +kernel
theorem dX5_readPart_24 : decode cX5_readPart 24 = .ok (.ireturn, 1) := by decide +kernel
theorem dX5_readPart_25 : decode cX5_readPart 25 = .ok (.aload_n 0, 1) := by decide +kernel
theorem dX5_readPart_26 : decode cX5_readPart 26 = .ok (.dup, 1) := by decide +kernel
theorem dX5_readPart_27 : decode cX5_readPart 27 = .ok (.getfield 31, 3) := by decide +kernel
theorem dX5_readPart_30 : decode cX5_readPart 30 = .ok (.iconst 1, 1) := by decide +kernel
theorem dX5_readPart_31 : decode cX5_readPart 31 = .ok (.iadd, 1) := by decide +kernel
theorem dX5_readPart_32 : decode cX5_readPart 32 = .ok (.putfield 31, 3) := by decide +kernel
theorem dX5_readPart_35 : decode cX5_readPart 35 = .ok (.aload_n 0, 1) := by decide +kernel
theorem dX5_readPart_36 : decode cX5_readPart 36 = .ok (.iload_n 1, 1) := by decide +kernel
theorem dX5_readPart_37 : decode cX5_readPart 37 = .ok (.iconst 1, 1) := by decide +kernel
theorem dX5_readPart_38 : decode cX5_readPart 38 = .ok (.iadd, 1) := by decide +kernel
theorem dX5_readPart_39 : decode cX5_readPart 39 = .ok (.invokevirtual 108, 3) := by decide +kernel
theorem dX5_readPart_42 : decode cX5_readPart 42 = .ok (.ifCond .eq 18, 3) := by decide +kernel
theorem dX5_readPart_45 : decode cX5_readPart 45 = .ok (.aload_n 0, 1) := by decide +kernel
theorem dX5_readPart_46 : decode cX5_readPart 46 = .ok (.getfield 15, 3) := by decide +kernel
theorem dX5_readPart_49 : decode cX5_readPart 49 = .ok (.aload_n 0, 1) := by decide +kernel
theorem dX5_readPart_50 : decode cX5_readPart 50 = .ok (.getfield 31, 3) := by decide +kernel
theorem dX5_readPart_53 : decode cX5_readPart 53 = .ok (.iaload, 1) := by decide +kernel
theorem dX5_readPart_54 : decode cX5_readPart 54 = .ok (.sipush 193, 3) := by decide +kernel
theorem dX5_readPart_57 : decode cX5_readPart 57 = .ok (.if_icmp .eq 5, 3) := by decide +kernel
theorem dX5_readPart_60 : decode cX5_readPart 60 = .ok (.iconst 0, 1) := by decide +kernel
theorem dX5_readPart_61 : decode cX5_readPart 61 = .ok (.ireturn, 1) := by decide +kernel
theorem dX5_readPart_62 : decode cX5_readPart 62 = .ok (.aload_n 0, 1) := by decide +kernel
theorem dX5_readPart_63 : decode cX5_readPart 63 = .ok (.dup, 1) := by decide +kernel
theorem dX5_readPart_64 : decode cX5_readPart 64 = .ok (.getfield 31, 3) := by decide +kernel
theorem dX5_readPart_67 : decode cX5_readPart 67 = .ok (.iconst 1, 1) := by decide +kernel
theorem dX5_readPart_68 : decode cX5_readPart 68 = .ok (.iadd, 1) := by decide +kernel
theorem dX5_readPart_69 : decode cX5_readPart 69 = .ok (.putfield 31, 3) := by decide +kernel
theorem dX5_readPart_72 : decode cX5_readPart 72 = .ok (.iconst 1, 1) := by decide +kernel
theorem dX5_readPart_73 : decode cX5_readPart 73 = .ok (.ireturn, 1) := by decide +kernel
theorem dX5_readPart_74 : decode cX5_readPart 74 = .ok (.iload_n 2, 1) := by decide +kernel
theorem dX5_readPart_75 : decode cX5_readPart 75 = .ok (.sipush 1000, 3) := by decide +kernel
theorem dX5_readPart_78 : decode cX5_readPart 78 = .ok (.if_icmp .lt 14, 3) := by decide +kernel
theorem dX5_readPart_81 : decode cX5_readPart 81 = .ok (.iload_n 2, 1) := by decide +kernel
theorem dX5_readPart_82 : decode cX5_readPart 82 = .ok (.sipush 2000, 3) := by decide +kernel
theorem dX5_readPart_85 : decode cX5_readPart 85 = .ok (.if_icmp .gt 7, 3) := by decide +kernel
theorem dX5_readPart_88 : decode cX5_readPart 88 = .ok (.iconst 1, 1) := by decide +kernel
theorem dX5_readPart_89 : decode cX5_readPart 89 = .ok (.goto 4, 3) := by decide +kernel
theorem dX5_readPart_92 : decode cX5_readPart 92 = .ok (.iconst 0, 1) := by decide +kernel
theorem dX5_readPart_93 : decode cX5_readPart 93 = .ok (.istore_n 3, 1) := by decide +kernel
theorem dX5_readPart_94 : decode cX5_readPart 94 = .ok (.iload_n 2, 1) := by decide +kernel
theorem dX5_readPart_95 : decode cX5_readPart 95 = .ok (.bipush 13, 2) := by decide +kernel
theorem dX5_readPart_97 : decode cX5_readPart 97 = .ok (.if_icmp .ge 18, 3) := by decide +kernel
theorem dX5_readPart_100 : decode cX5_readPart 100 = .ok (.aload_n 0, 1) := by decide +kernel
theorem dX5_readPart_101 : decode cX5_readPart 101 = .ok (.getfield 40, 3) := by decide +kernel
theorem dX5_readPart_104 : decode cX5_readPart 104 = .ok (.iload_n 2, 1) := by decide +kernel
theorem dX5_readPart_105 : decode cX5_readPart 105 = .ok (.ishr, 1) := by decide +kernel
theorem dX5_readPart_106 : decode cX5_readPart 106 = .ok (.iconst 1, 1) := by decide +kernel
theorem dX5_readPart_107 : decode cX5_readPart 107 = .ok (.iand, 1) := by decide +kernel
theorem dX5_readPart_108 : decode cX5_readPart 108 = .ok (.ifCond .eq 7, 3) := by decide +kernel
theorem dX5_readPart_111 : decode cX5_readPart 111 = .ok (.iconst 1, 1) := by decide +kernel
theorem dX5_readPart_112 : decode cX5_readPart 112 = .ok (.goto 4, 3) := by decide +kernel
theorem dX5_readPart_115 : decode cX5_readPart 115 = .ok (.iconst 0, 1) := by decide +kernel
theorem dX5_readPart_116 : decode cX5_readPart 116 = .ok (.istore 4, 2) := by decide +kernel
theorem dX5_readPart_118 : decode cX5_readPart 118 = .ok (.iload_n 3, 1) := by decide +kernel
theorem dX5_readPart_119 : decode cX5_readPart 119 = .ok (.ifCond .ne 8, 3) := by decide +kernel
theorem dX5_readPart_122 : decode cX5_readPart 122 = .ok (.iload 4, 2) := by decide +kernel
theorem dX5_readPart_124 : decode cX5_readPart 124 = .ok (.ifCond .eq 12, 3) := by decide +kernel
theorem dX5_readPart_127 : decode cX5_readPart 127 = .ok (.aload_n 0, 1) := by decide +kernel
theorem dX5_readPart_128 : decode cX5_readPart 128 = .ok (.getfield 37, 3) := by decide +kernel
theorem dX5_readPart_131 : decode cX5_readPart 131 = .ok (.bipush 50, 2) := by decide +kernel
theorem dX5_readPart_133 : decode cX5_readPart 133 = .ok (.if_icmp .lt 5, 3) := by decide +kernel
theorem dX5_readPart_136 : decode cX5_readPart 136 = .ok (.iconst 0, 1) := by decide +kernel
theorem dX5_readPart_137 : decode cX5_readPart 137 = .ok (.ireturn, 1) := by decide +kernel
theorem dX5_readPart_138 : decode cX5_readPart 138 = .ok (.iload_n 3, 1) := by decide +kernel
theorem dX5_readPart_139 : decode cX5_readPart 139 = .ok (.ifCond .eq 17, 3) := by decide +kernel
theorem dX5_readPart_142 : decode cX5_readPart 142 = .ok (.aload_n 0, 1) := by decide +kernel
theorem dX5_readPart_143 : decode cX5_readPart 143 = .ok (.iconst 1, 1) := by decide +kernel
theorem dX5_readPart_144 : decode cX5_readPart 144 = .ok (.iload_n 2, 1) := by decide +kernel
theorem dX5_readPart_145 : decode cX5_readPart 145 = .ok (.sipush 1000, 3) := by decide +kernel
theorem dX5_readPart_148 : decode cX5_readPart 148 = .ok (.isub, 1) := by decide +kernel
theorem dX5_readPart_149 : decode cX5_readPart 149 = .ok (.invokevirtual 111, 3) := by decide +kernel
theorem dX5_readPart_152 : decode cX5_readPart 152 = .ok (.pop, 1) := by decide +kernel
theorem dX5_readPart_153 : decode cX5_readPart 153 = .ok (.goto 22, 3) := by decide +kernel
theorem dX5_readPart_156 : decode cX5_readPart 156 = .ok (.aload_n 0, 1) := by decide +kernel
theorem dX5_readPart_157 : decode cX5_readPart 157 = .ok (.iconst 2, 1) := by decide +kernel
theorem dX5_readPart_158 : decode cX5_readPart 158 = .ok (.iload_n 2, 1) := by decide +kernel
theorem dX5_readPart_159 : decode cX5_readPart 159 = .ok (.invokevirtual 111, 3) := by decide +kernel
theorem dX5_readPart_162 : decode cX5_readPart 162 = .ok (.pop, 1) := by decide +kernel
theorem dX5_readPart_163 : decode cX5_readPart 163 = .ok (.aload_n 0, 1) := by decide +kernel
theorem dX5_readPart_164 : decode cX5_readPart 164 = .ok (.dup, 1) := by decide +kernel
theorem dX5_readPart_165 : decode cX5_readPart 165 = .ok (.getfield 43, 3) := by decide +kernel
theorem dX5_readPart_168 : decode cX5_readPart 168 = .ok (.iconst 1, 1) := by decide +kernel
theorem dX5_readPart_169 : decode cX5_readPart 169 = .ok (.iload_n 2, 1) := by decide +kernel
theorem dX5_readPart_170 : decode cX5_readPart 170 = .ok (.ishl, 1) := by decide +kernel
theorem dX5_readPart_171 : decode cX5_readPart 171 = .ok (.ior, 1) := by decide +kernel
theorem dX5_readPart_172 : decode cX5_readPart 172 = .ok (.putfield 43, 3) := by decide +kernel
theorem dX5_readPart_175 : decode cX5_readPart 175 = .ok (.aload_n 0, 1) := by decide +kernel
theorem dX5_readPart_176 : decode cX5_readPart 176 = .ok (.dup, 1) := by decide +kernel
theorem dX5_readPart_177 : decode cX5_readPart 177 = .ok (.getfield 37, 3) := by decide +kernel
theorem dX5_readPart_180 : decode cX5_readPart 180 = .ok (.iconst 1, 1) := by decide +kernel
theorem dX5_readPart_181 : decode cX5_readPart 181 = .ok (.iadd, 1) := by decide +kernel
theorem dX5_readPart_182 : decode cX5_readPart 182 = .ok (.putfield 37, 3) := by decide +kernel
theorem dX5_readPart_185 : decode cX5_readPart 185 = .ok (.aload_n 0, 1) := by decide +kernel
theorem dX5_readPart_186 : decode cX5_readPart 186 = .ok (.dup, 1) := by decide +kernel
theorem dX5_readPart_187 : decode cX5_readPart 187 = .ok (.getfield 31, 3) := by decide +kernel
theorem dX5_readPart_190 : decode cX5_readPart 190 = .ok (.iconst 1, 1) := by decide +kernel
theorem dX5_readPart_191 : decode cX5_readPart 191 = .ok (.iadd, 1) := by decide +kernel
theorem dX5_readPart_192 : decode cX5_readPart 192 = .ok (.putfield 31, 3) := by decide +kernel
theorem dX5_readPart_195 : decode cX5_readPart 195 = .ok (.iconst 1, 1) := by decide +kernel
theorem dX5_readPart_196 : decode cX5_readPart 196 = .ok (.ireturn, 1) := by decide +kernel
set_option maxRecDepth 20000 in
theorem T_X5_readPart {d : Nat} (hd : 8 ≤ d) {Q : Option Value → ah_T → Prop} {h : ah_T} (hs : Sh h) (x1 : Int32) (ht : (vp_in (ah_i h 20 6) (ah_n h 21)) ∧ ((¬ (ah_i h 21 (Int32.toNatClampNeg (ah_i h 20 6))) = 191 → (((ah_i h 21 (Int32.toNatClampNeg (ah_i h 20 6))) < 1000 → ((13 ≤ (ah_i h 21 (Int32.toNatClampNeg (ah_i h 20 6))) → Q (some (.int 0)) h) ∧ (¬ 13 ≤ (ah_i h 21 (Int32.toNatClampNeg (ah_i h 20 6))) → (((((ah_i h 20 9) >>> ((ah_i h 21 (Int32.toNatClampNeg (ah_i h 20 6))) &&& 31)) &&& 1) = 0 → Q (some (.int 0)) h) ∧ (¬ (((ah_i h 20 9) >>> ((ah_i h 21 (Int32.toNatClampNeg (ah_i h 20 6))) &&& 31)) &&& 1) = 0 → (((ah_i h 20 8) < 50 → (Mt mX5_emit [.ref 20, .int 2, .int (ah_i h 21 (Int32.toNatClampNeg (ah_i h 20 6)))] h (ab_qi fun v9 h7 => Sh h7 ∧ (∀ h10, h10 = ah_si h7 20 10 ((ah_i h7 20 10) ||| ((1 : Int32) <<< ((ah_i h 21 (Int32.toNatClampNeg (ah_i h 20 6))) &&& 31))) → (∀ h13, h13 = ah_si h10 20 8 ((ah_i h10 20 8) + 1) → (∀ h16, h16 = ah_si h13 20 6 ((ah_i h13 20 6) + 1) → Q (some (.int 1)) h16)))))) ∧ (¬ (ah_i h 20 8) < 50 → Q (some (.int 0)) h))))))) ∧ (¬ (ah_i h 21 (Int32.toNatClampNeg (ah_i h 20 6))) < 1000 → ((2000 < (ah_i h 21 (Int32.toNatClampNeg (ah_i h 20 6))) → ((13 ≤ (ah_i h 21 (Int32.toNatClampNeg (ah_i h 20 6))) → Q (some (.int 0)) h) ∧ (¬ 13 ≤ (ah_i h 21 (Int32.toNatClampNeg (ah_i h 20 6))) → (((((ah_i h 20 9) >>> ((ah_i h 21 (Int32.toNatClampNeg (ah_i h 20 6))) &&& 31)) &&& 1) = 0 → Q (some (.int 0)) h) ∧ (¬ (((ah_i h 20 9) >>> ((ah_i h 21 (Int32.toNatClampNeg (ah_i h 20 6))) &&& 31)) &&& 1) = 0 → (((ah_i h 20 8) < 50 → (Mt mX5_emit [.ref 20, .int 2, .int (ah_i h 21 (Int32.toNatClampNeg (ah_i h 20 6)))] h (ab_qi fun v25 h23 => Sh h23 ∧ (∀ h26, h26 = ah_si h23 20 10 ((ah_i h23 20 10) ||| ((1 : Int32) <<< ((ah_i h 21 (Int32.toNatClampNeg (ah_i h 20 6))) &&& 31))) → (∀ h29, h29 = ah_si h26 20 8 ((ah_i h26 20 8) + 1) → (∀ h32, h32 = ah_si h29 20 6 ((ah_i h29 20 6) + 1) → Q (some (.int 1)) h32)))))) ∧ (¬ (ah_i h 20 8) < 50 → Q (some (.int 0)) h))))))) ∧ (¬ 2000 < (ah_i h 21 (Int32.toNatClampNeg (ah_i h 20 6))) → ((13 ≤ (ah_i h 21 (Int32.toNatClampNeg (ah_i h 20 6))) → (((ah_i h 20 8) < 50 → (Mt mX5_emit [.ref 20, .int 1, .int ((ah_i h 21 (Int32.toNatClampNeg (ah_i h 20 6))) - 1000)] h (ab_qi fun v39 h37 => Sh h37 ∧ (∀ h40, h40 = ah_si h37 20 8 ((ah_i h37 20 8) + 1) → (∀ h43, h43 = ah_si h40 20 6 ((ah_i h40 20 6) + 1) → Q (some (.int 1)) h43))))) ∧ (¬ (ah_i h 20 8) < 50 → Q (some (.int 0)) h))) ∧ (¬ 13 ≤ (ah_i h 21 (Int32.toNatClampNeg (ah_i h 20 6))) → (((((ah_i h 20 9) >>> ((ah_i h 21 (Int32.toNatClampNeg (ah_i h 20 6))) &&& 31)) &&& 1) = 0 → (((ah_i h 20 8) < 50 → (Mt mX5_emit [.ref 20, .int 1, .int ((ah_i h 21 (Int32.toNatClampNeg (ah_i h 20 6))) - 1000)] h (ab_qi fun v50 h48 => Sh h48 ∧ (∀ h51, h51 = ah_si h48 20 8 ((ah_i h48 20 8) + 1) → (∀ h54, h54 = ah_si h51 20 6 ((ah_i h51 20 6) + 1) → Q (some (.int 1)) h54))))) ∧ (¬ (ah_i h 20 8) < 50 → Q (some (.int 0)) h))) ∧ (¬ (((ah_i h 20 9) >>> ((ah_i h 21 (Int32.toNatClampNeg (ah_i h 20 6))) &&& 31)) &&& 1) = 0 → (((ah_i h 20 8) < 50 → (Mt mX5_emit [.ref 20, .int 1, .int ((ah_i h 21 (Int32.toNatClampNeg (ah_i h 20 6))) - 1000)] h (ab_qi fun v60 h58 => Sh h58 ∧ (∀ h61, h61 = ah_si h58 20 8 ((ah_i h58 20 8) + 1) → (∀ h64, h64 = ah_si h61 20 6 ((ah_i h61 20 6) + 1) → Q (some (.int 1)) h64))))) ∧ (¬ (ah_i h 20 8) < 50 → Q (some (.int 0)) h))))))))))) ∧ ((ah_i h 21 (Int32.toNatClampNeg (ah_i h 20 6))) = 191 → ((x1 < 8 → (∀ h68, h68 = ah_si h 20 6 ((ah_i h 20 6) + 1) → (Mt (mX5_readSum (d - 1)) [.ref 20, .int (x1 + 1)] h68 (ab_qi fun v73 h71 => Sh h71 ∧ ((v73 = 0 → Q (some (.int 0)) h71) ∧ (¬ v73 = 0 → (vp_in (ah_i h71 20 6) (ah_n h71 21)) ∧ (((ah_i h71 21 (Int32.toNatClampNeg (ah_i h71 20 6))) = 193 → (∀ h77, h77 = ah_si h71 20 6 ((ah_i h71 20 6) + 1) → Q (some (.int 1)) h77)) ∧ (¬ (ah_i h71 21 (Int32.toNatClampNeg (ah_i h71 20 6))) = 193 → Q (some (.int 0)) h71)))))))) ∧ (¬ x1 < 8 → Q (some (.int 0)) h))))) : Mt (mX5_readPart d) [.ref 20, .int x1] h Q := by
  refine Mt.ofWp rfl (by exact (Nat.le_of_ble_eq_true rfl)) (Wp.fewer (L' := [some (.ref 20), some (.int x1), none, none, none]) (show ab_leL _ _ from ⟨rfl, ⟨rfl, trivial⟩⟩) ?_)
  refine ab_aload_n (i := 0) dX5_readPart_0 rfl rfl ?_
  refine ab_getR (b := 21) f_X5_15 rfl (sh_k hs 20 5 (by decide) rfl) (sh_r hs 27 rfl) dX5_readPart_1 ?_
  refine ab_aload_n (i := 0) dX5_readPart_4 rfl rfl ?_
  refine ab_getI f_X5_31 rfl (sh_k hs 20 5 (by decide) rfl) dX5_readPart_5 ?_
  obtain ⟨hc1, ht⟩ := ht
  refine ab_iald (sh_k hs 21 14 (by decide) rfl) hc1 dX5_readPart_8 ?_
  refine ab_istore_n (i := 2) (L' := [some (.ref 20), some (.int x1), some (.int (ah_i h 21 (Int32.toNatClampNeg (ah_i h 20 6)))), none, none]) dX5_readPart_9 rfl (by exact (Nat.le_of_ble_eq_true rfl)) rfl rfl ?_
  refine ab_iload_n (i := 2) dX5_readPart_10 rfl rfl ?_
  refine ab_sipush (v := 191) dX5_readPart_11 (by decide) ?_
  refine ab_icmp_ne (tgt := 74) dX5_readPart_14 (by decide) (fun c2 => ?_) (fun c2 => ?_)
  · have ht := ht.1 c2
    refine ab_iload_n (i := 2) dX5_readPart_74 rfl rfl ?_
    refine ab_sipush (v := 1000) dX5_readPart_75 (by decide) ?_
    refine ab_icmp_lt (tgt := 92) dX5_readPart_78 (by decide) (fun c3 => ?_) (fun c3 => ?_)
    · have ht := ht.1 c3
      refine ab_iconst (v := 0) dX5_readPart_92 (by decide) ?_
      refine ab_istore_n (i := 3) (L' := [some (.ref 20), some (.int x1), some (.int (ah_i h 21 (Int32.toNatClampNeg (ah_i h 20 6)))), some (.int 0), none]) dX5_readPart_93 rfl (by exact (Nat.le_of_ble_eq_true rfl)) rfl rfl ?_
      refine ab_iload_n (i := 2) dX5_readPart_94 rfl rfl ?_
      refine ab_bipush (v := 13) dX5_readPart_95 (by decide) ?_
      refine ab_icmp_ge (tgt := 115) dX5_readPart_97 (by decide) (fun c4 => ?_) (fun c4 => ?_)
      · have ht := ht.1 c4
        refine ab_iconst (v := 0) dX5_readPart_115 (by decide) ?_
        refine ab_istore (i := 4) (L' := [some (.ref 20), some (.int x1), some (.int (ah_i h 21 (Int32.toNatClampNeg (ah_i h 20 6)))), some (.int 0), some (.int 0)]) dX5_readPart_116 (by exact (Nat.le_of_ble_eq_true rfl)) rfl rfl ?_
        refine ab_iload_n (i := 3) dX5_readPart_118 rfl rfl ?_
        refine ab_if_ne (tgt := 127) dX5_readPart_119 (by decide) (fun q => absurd (by decide) q) (fun _ => ?_)
        refine ab_iload (i := 4) dX5_readPart_122 rfl ?_
        refine ab_if_eq (tgt := 136) dX5_readPart_124 (by decide) (fun _ => ?_) (fun q => absurd (by decide) q)
        refine ab_iconst (v := 0) dX5_readPart_136 (by decide) ?_
        exact ab_zret rfl rfl dX5_readPart_137 (Nat.le_of_ble_eq_true rfl) (Nat.le_of_ble_eq_true rfl) ht
      · have ht := ht.2 c4
        refine ab_aload_n (i := 0) dX5_readPart_100 rfl rfl ?_
        refine ab_getI f_X5_40 rfl (sh_k hs 20 5 (by decide) rfl) dX5_readPart_101 ?_
        refine ab_iload_n (i := 2) dX5_readPart_104 rfl rfl ?_
        refine ab_ishr dX5_readPart_105 ?_
        refine ab_iconst (v := 1) dX5_readPart_106 (by decide) ?_
        refine ab_iand dX5_readPart_107 ?_
        refine ab_if_eq (tgt := 115) dX5_readPart_108 (by decide) (fun c5 => ?_) (fun c5 => ?_)
        · have ht := ht.1 c5
          refine ab_iconst (v := 0) dX5_readPart_115 (by decide) ?_
          refine ab_istore (i := 4) (L' := [some (.ref 20), some (.int x1), some (.int (ah_i h 21 (Int32.toNatClampNeg (ah_i h 20 6)))), some (.int 0), some (.int 0)]) dX5_readPart_116 (by exact (Nat.le_of_ble_eq_true rfl)) rfl rfl ?_
          refine ab_iload_n (i := 3) dX5_readPart_118 rfl rfl ?_
          refine ab_if_ne (tgt := 127) dX5_readPart_119 (by decide) (fun q => absurd (by decide) q) (fun _ => ?_)
          refine ab_iload (i := 4) dX5_readPart_122 rfl ?_
          refine ab_if_eq (tgt := 136) dX5_readPart_124 (by decide) (fun _ => ?_) (fun q => absurd (by decide) q)
          refine ab_iconst (v := 0) dX5_readPart_136 (by decide) ?_
          exact ab_zret rfl rfl dX5_readPart_137 (Nat.le_of_ble_eq_true rfl) (Nat.le_of_ble_eq_true rfl) ht
        · have ht := ht.2 c5
          refine ab_iconst (v := 1) dX5_readPart_111 (by decide) ?_
          refine ab_goto (tgt := 116) dX5_readPart_112 (by decide) ?_
          refine ab_istore (i := 4) (L' := [some (.ref 20), some (.int x1), some (.int (ah_i h 21 (Int32.toNatClampNeg (ah_i h 20 6)))), some (.int 0), some (.int 1)]) dX5_readPart_116 (by exact (Nat.le_of_ble_eq_true rfl)) rfl rfl ?_
          refine ab_iload_n (i := 3) dX5_readPart_118 rfl rfl ?_
          refine ab_if_ne (tgt := 127) dX5_readPart_119 (by decide) (fun q => absurd (by decide) q) (fun _ => ?_)
          refine ab_iload (i := 4) dX5_readPart_122 rfl ?_
          refine ab_if_eq (tgt := 136) dX5_readPart_124 (by decide) (fun q => absurd q (by decide)) (fun _ => ?_)
          refine ab_aload_n (i := 0) dX5_readPart_127 rfl rfl ?_
          refine ab_getI f_X5_37 rfl (sh_k hs 20 5 (by decide) rfl) dX5_readPart_128 ?_
          refine ab_bipush (v := 50) dX5_readPart_131 (by decide) ?_
          refine ab_icmp_lt (tgt := 138) dX5_readPart_133 (by decide) (fun c6 => ?_) (fun c6 => ?_)
          · have ht := ht.1 c6
            refine ab_iload_n (i := 3) dX5_readPart_138 rfl rfl ?_
            refine ab_if_eq (tgt := 156) dX5_readPart_139 (by decide) (fun _ => ?_) (fun q => absurd (by decide) q)
            refine ab_aload_n (i := 0) dX5_readPart_156 rfl rfl ?_
            refine ab_iconst (v := 2) dX5_readPart_157 (by decide) ?_
            refine ab_iload_n (i := 2) dX5_readPart_158 rfl rfl ?_
            refine ab_callV (b := 20) (As := [.int 2, .int (ah_i h 21 (Int32.toNatClampNeg (ah_i h 20 6)))]) ht (Y_X5_emit) l_X5_111 in_X5_emit se_X5_emit (sh_k hs 20 5 (by decide) rfl) (by decide) rfl rfl ⟨(show 1 + 1 ≤ d by omega), (Nat.le_of_ble_eq_true rfl), (Nat.le_of_ble_eq_true rfl), (Nat.le_of_ble_eq_true rfl)⟩ dX5_readPart_159 ?_
            rintro _ h7 ⟨v9, rfl, hs8, ht⟩
            refine ab_pop dX5_readPart_162 rfl ?_
            refine ab_aload_n (i := 0) dX5_readPart_163 rfl rfl ?_
            refine ab_dup dX5_readPart_164 rfl ?_
            refine ab_getI f_X5_43 rfl (sh_k hs8 20 5 (by decide) rfl) dX5_readPart_165 ?_
            refine ab_iconst (v := 1) dX5_readPart_168 (by decide) ?_
            refine ab_iload_n (i := 2) dX5_readPart_169 rfl rfl ?_
            refine ab_ishl dX5_readPart_170 ?_
            refine ab_ior dX5_readPart_171 ?_
            refine ab_putI f_X5_43 (Or.inl rfl) rfl (sh_k hs8 20 5 (by decide) rfl) rfl rfl dX5_readPart_172 ?_
            refine Wp.nm fun h10 e11 => ?_
            have ht := ht h10 e11
            have hs12 : Sh h10 := by rw [e11]; exact sh_si hs8
            refine ab_aload_n (i := 0) dX5_readPart_175 rfl rfl ?_
            refine ab_dup dX5_readPart_176 rfl ?_
            refine ab_getI f_X5_37 rfl (sh_k hs12 20 5 (by decide) rfl) dX5_readPart_177 ?_
            refine ab_iconst (v := 1) dX5_readPart_180 (by decide) ?_
            refine ab_iadd dX5_readPart_181 ?_
            refine ab_putI f_X5_37 (Or.inl rfl) rfl (sh_k hs12 20 5 (by decide) rfl) rfl rfl dX5_readPart_182 ?_
            refine Wp.nm fun h13 e14 => ?_
            have ht := ht h13 e14
            have hs15 : Sh h13 := by rw [e14]; exact sh_si hs12
            refine ab_aload_n (i := 0) dX5_readPart_185 rfl rfl ?_
            refine ab_dup dX5_readPart_186 rfl ?_
            refine ab_getI f_X5_31 rfl (sh_k hs15 20 5 (by decide) rfl) dX5_readPart_187 ?_
            refine ab_iconst (v := 1) dX5_readPart_190 (by decide) ?_
            refine ab_iadd dX5_readPart_191 ?_
            refine ab_putI f_X5_31 (Or.inl rfl) rfl (sh_k hs15 20 5 (by decide) rfl) rfl rfl dX5_readPart_192 ?_
            refine Wp.nm fun h16 e17 => ?_
            have ht := ht h16 e17
            have hs18 : Sh h16 := by rw [e17]; exact sh_si hs15
            refine ab_iconst (v := 1) dX5_readPart_195 (by decide) ?_
            exact ab_zret rfl rfl dX5_readPart_196 (Nat.le_of_ble_eq_true rfl) (Nat.le_of_ble_eq_true rfl) ht
          · have ht := ht.2 c6
            refine ab_iconst (v := 0) dX5_readPart_136 (by decide) ?_
            exact ab_zret rfl rfl dX5_readPart_137 (Nat.le_of_ble_eq_true rfl) (Nat.le_of_ble_eq_true rfl) ht
    · have ht := ht.2 c3
      refine ab_iload_n (i := 2) dX5_readPart_81 rfl rfl ?_
      refine ab_sipush (v := 2000) dX5_readPart_82 (by decide) ?_
      refine ab_icmp_gt (tgt := 92) dX5_readPart_85 (by decide) (fun c19 => ?_) (fun c19 => ?_)
      · have ht := ht.1 c19
        refine ab_iconst (v := 0) dX5_readPart_92 (by decide) ?_
        refine ab_istore_n (i := 3) (L' := [some (.ref 20), some (.int x1), some (.int (ah_i h 21 (Int32.toNatClampNeg (ah_i h 20 6)))), some (.int 0), none]) dX5_readPart_93 rfl (by exact (Nat.le_of_ble_eq_true rfl)) rfl rfl ?_
        refine ab_iload_n (i := 2) dX5_readPart_94 rfl rfl ?_
        refine ab_bipush (v := 13) dX5_readPart_95 (by decide) ?_
        refine ab_icmp_ge (tgt := 115) dX5_readPart_97 (by decide) (fun c20 => ?_) (fun c20 => ?_)
        · have ht := ht.1 c20
          refine ab_iconst (v := 0) dX5_readPart_115 (by decide) ?_
          refine ab_istore (i := 4) (L' := [some (.ref 20), some (.int x1), some (.int (ah_i h 21 (Int32.toNatClampNeg (ah_i h 20 6)))), some (.int 0), some (.int 0)]) dX5_readPart_116 (by exact (Nat.le_of_ble_eq_true rfl)) rfl rfl ?_
          refine ab_iload_n (i := 3) dX5_readPart_118 rfl rfl ?_
          refine ab_if_ne (tgt := 127) dX5_readPart_119 (by decide) (fun q => absurd (by decide) q) (fun _ => ?_)
          refine ab_iload (i := 4) dX5_readPart_122 rfl ?_
          refine ab_if_eq (tgt := 136) dX5_readPart_124 (by decide) (fun _ => ?_) (fun q => absurd (by decide) q)
          refine ab_iconst (v := 0) dX5_readPart_136 (by decide) ?_
          exact ab_zret rfl rfl dX5_readPart_137 (Nat.le_of_ble_eq_true rfl) (Nat.le_of_ble_eq_true rfl) ht
        · have ht := ht.2 c20
          refine ab_aload_n (i := 0) dX5_readPart_100 rfl rfl ?_
          refine ab_getI f_X5_40 rfl (sh_k hs 20 5 (by decide) rfl) dX5_readPart_101 ?_
          refine ab_iload_n (i := 2) dX5_readPart_104 rfl rfl ?_
          refine ab_ishr dX5_readPart_105 ?_
          refine ab_iconst (v := 1) dX5_readPart_106 (by decide) ?_
          refine ab_iand dX5_readPart_107 ?_
          refine ab_if_eq (tgt := 115) dX5_readPart_108 (by decide) (fun c21 => ?_) (fun c21 => ?_)
          · have ht := ht.1 c21
            refine ab_iconst (v := 0) dX5_readPart_115 (by decide) ?_
            refine ab_istore (i := 4) (L' := [some (.ref 20), some (.int x1), some (.int (ah_i h 21 (Int32.toNatClampNeg (ah_i h 20 6)))), some (.int 0), some (.int 0)]) dX5_readPart_116 (by exact (Nat.le_of_ble_eq_true rfl)) rfl rfl ?_
            refine ab_iload_n (i := 3) dX5_readPart_118 rfl rfl ?_
            refine ab_if_ne (tgt := 127) dX5_readPart_119 (by decide) (fun q => absurd (by decide) q) (fun _ => ?_)
            refine ab_iload (i := 4) dX5_readPart_122 rfl ?_
            refine ab_if_eq (tgt := 136) dX5_readPart_124 (by decide) (fun _ => ?_) (fun q => absurd (by decide) q)
            refine ab_iconst (v := 0) dX5_readPart_136 (by decide) ?_
            exact ab_zret rfl rfl dX5_readPart_137 (Nat.le_of_ble_eq_true rfl) (Nat.le_of_ble_eq_true rfl) ht
          · have ht := ht.2 c21
            refine ab_iconst (v := 1) dX5_readPart_111 (by decide) ?_
            refine ab_goto (tgt := 116) dX5_readPart_112 (by decide) ?_
            refine ab_istore (i := 4) (L' := [some (.ref 20), some (.int x1), some (.int (ah_i h 21 (Int32.toNatClampNeg (ah_i h 20 6)))), some (.int 0), some (.int 1)]) dX5_readPart_116 (by exact (Nat.le_of_ble_eq_true rfl)) rfl rfl ?_
            refine ab_iload_n (i := 3) dX5_readPart_118 rfl rfl ?_
            refine ab_if_ne (tgt := 127) dX5_readPart_119 (by decide) (fun q => absurd (by decide) q) (fun _ => ?_)
            refine ab_iload (i := 4) dX5_readPart_122 rfl ?_
            refine ab_if_eq (tgt := 136) dX5_readPart_124 (by decide) (fun q => absurd q (by decide)) (fun _ => ?_)
            refine ab_aload_n (i := 0) dX5_readPart_127 rfl rfl ?_
            refine ab_getI f_X5_37 rfl (sh_k hs 20 5 (by decide) rfl) dX5_readPart_128 ?_
            refine ab_bipush (v := 50) dX5_readPart_131 (by decide) ?_
            refine ab_icmp_lt (tgt := 138) dX5_readPart_133 (by decide) (fun c22 => ?_) (fun c22 => ?_)
            · have ht := ht.1 c22
              refine ab_iload_n (i := 3) dX5_readPart_138 rfl rfl ?_
              refine ab_if_eq (tgt := 156) dX5_readPart_139 (by decide) (fun _ => ?_) (fun q => absurd (by decide) q)
              refine ab_aload_n (i := 0) dX5_readPart_156 rfl rfl ?_
              refine ab_iconst (v := 2) dX5_readPart_157 (by decide) ?_
              refine ab_iload_n (i := 2) dX5_readPart_158 rfl rfl ?_
              refine ab_callV (b := 20) (As := [.int 2, .int (ah_i h 21 (Int32.toNatClampNeg (ah_i h 20 6)))]) ht (Y_X5_emit) l_X5_111 in_X5_emit se_X5_emit (sh_k hs 20 5 (by decide) rfl) (by decide) rfl rfl ⟨(show 1 + 1 ≤ d by omega), (Nat.le_of_ble_eq_true rfl), (Nat.le_of_ble_eq_true rfl), (Nat.le_of_ble_eq_true rfl)⟩ dX5_readPart_159 ?_
              rintro _ h23 ⟨v25, rfl, hs24, ht⟩
              refine ab_pop dX5_readPart_162 rfl ?_
              refine ab_aload_n (i := 0) dX5_readPart_163 rfl rfl ?_
              refine ab_dup dX5_readPart_164 rfl ?_
              refine ab_getI f_X5_43 rfl (sh_k hs24 20 5 (by decide) rfl) dX5_readPart_165 ?_
              refine ab_iconst (v := 1) dX5_readPart_168 (by decide) ?_
              refine ab_iload_n (i := 2) dX5_readPart_169 rfl rfl ?_
              refine ab_ishl dX5_readPart_170 ?_
              refine ab_ior dX5_readPart_171 ?_
              refine ab_putI f_X5_43 (Or.inl rfl) rfl (sh_k hs24 20 5 (by decide) rfl) rfl rfl dX5_readPart_172 ?_
              refine Wp.nm fun h26 e27 => ?_
              have ht := ht h26 e27
              have hs28 : Sh h26 := by rw [e27]; exact sh_si hs24
              refine ab_aload_n (i := 0) dX5_readPart_175 rfl rfl ?_
              refine ab_dup dX5_readPart_176 rfl ?_
              refine ab_getI f_X5_37 rfl (sh_k hs28 20 5 (by decide) rfl) dX5_readPart_177 ?_
              refine ab_iconst (v := 1) dX5_readPart_180 (by decide) ?_
              refine ab_iadd dX5_readPart_181 ?_
              refine ab_putI f_X5_37 (Or.inl rfl) rfl (sh_k hs28 20 5 (by decide) rfl) rfl rfl dX5_readPart_182 ?_
              refine Wp.nm fun h29 e30 => ?_
              have ht := ht h29 e30
              have hs31 : Sh h29 := by rw [e30]; exact sh_si hs28
              refine ab_aload_n (i := 0) dX5_readPart_185 rfl rfl ?_
              refine ab_dup dX5_readPart_186 rfl ?_
              refine ab_getI f_X5_31 rfl (sh_k hs31 20 5 (by decide) rfl) dX5_readPart_187 ?_
              refine ab_iconst (v := 1) dX5_readPart_190 (by decide) ?_
              refine ab_iadd dX5_readPart_191 ?_
              refine ab_putI f_X5_31 (Or.inl rfl) rfl (sh_k hs31 20 5 (by decide) rfl) rfl rfl dX5_readPart_192 ?_
              refine Wp.nm fun h32 e33 => ?_
              have ht := ht h32 e33
              have hs34 : Sh h32 := by rw [e33]; exact sh_si hs31
              refine ab_iconst (v := 1) dX5_readPart_195 (by decide) ?_
              exact ab_zret rfl rfl dX5_readPart_196 (Nat.le_of_ble_eq_true rfl) (Nat.le_of_ble_eq_true rfl) ht
            · have ht := ht.2 c22
              refine ab_iconst (v := 0) dX5_readPart_136 (by decide) ?_
              exact ab_zret rfl rfl dX5_readPart_137 (Nat.le_of_ble_eq_true rfl) (Nat.le_of_ble_eq_true rfl) ht
      · have ht := ht.2 c19
        refine ab_iconst (v := 1) dX5_readPart_88 (by decide) ?_
        refine ab_goto (tgt := 93) dX5_readPart_89 (by decide) ?_
        refine ab_istore_n (i := 3) (L' := [some (.ref 20), some (.int x1), some (.int (ah_i h 21 (Int32.toNatClampNeg (ah_i h 20 6)))), some (.int 1), none]) dX5_readPart_93 rfl (by exact (Nat.le_of_ble_eq_true rfl)) rfl rfl ?_
        refine ab_iload_n (i := 2) dX5_readPart_94 rfl rfl ?_
        refine ab_bipush (v := 13) dX5_readPart_95 (by decide) ?_
        refine ab_icmp_ge (tgt := 115) dX5_readPart_97 (by decide) (fun c35 => ?_) (fun c35 => ?_)
        · have ht := ht.1 c35
          refine ab_iconst (v := 0) dX5_readPart_115 (by decide) ?_
          refine ab_istore (i := 4) (L' := [some (.ref 20), some (.int x1), some (.int (ah_i h 21 (Int32.toNatClampNeg (ah_i h 20 6)))), some (.int 1), some (.int 0)]) dX5_readPart_116 (by exact (Nat.le_of_ble_eq_true rfl)) rfl rfl ?_
          refine ab_iload_n (i := 3) dX5_readPart_118 rfl rfl ?_
          refine ab_if_ne (tgt := 127) dX5_readPart_119 (by decide) (fun _ => ?_) (fun q => absurd q (by decide))
          refine ab_aload_n (i := 0) dX5_readPart_127 rfl rfl ?_
          refine ab_getI f_X5_37 rfl (sh_k hs 20 5 (by decide) rfl) dX5_readPart_128 ?_
          refine ab_bipush (v := 50) dX5_readPart_131 (by decide) ?_
          refine ab_icmp_lt (tgt := 138) dX5_readPart_133 (by decide) (fun c36 => ?_) (fun c36 => ?_)
          · have ht := ht.1 c36
            refine ab_iload_n (i := 3) dX5_readPart_138 rfl rfl ?_
            refine ab_if_eq (tgt := 156) dX5_readPart_139 (by decide) (fun q => absurd q (by decide)) (fun _ => ?_)
            refine ab_aload_n (i := 0) dX5_readPart_142 rfl rfl ?_
            refine ab_iconst (v := 1) dX5_readPart_143 (by decide) ?_
            refine ab_iload_n (i := 2) dX5_readPart_144 rfl rfl ?_
            refine ab_sipush (v := 1000) dX5_readPart_145 (by decide) ?_
            refine ab_isub dX5_readPart_148 ?_
            refine ab_callV (b := 20) (As := [.int 1, .int ((ah_i h 21 (Int32.toNatClampNeg (ah_i h 20 6))) - 1000)]) ht (Y_X5_emit) l_X5_111 in_X5_emit se_X5_emit (sh_k hs 20 5 (by decide) rfl) (by decide) rfl rfl ⟨(show 1 + 1 ≤ d by omega), (Nat.le_of_ble_eq_true rfl), (Nat.le_of_ble_eq_true rfl), (Nat.le_of_ble_eq_true rfl)⟩ dX5_readPart_149 ?_
            rintro _ h37 ⟨v39, rfl, hs38, ht⟩
            refine ab_pop dX5_readPart_152 rfl ?_
            refine ab_goto (tgt := 175) dX5_readPart_153 (by decide) ?_
            refine ab_aload_n (i := 0) dX5_readPart_175 rfl rfl ?_
            refine ab_dup dX5_readPart_176 rfl ?_
            refine ab_getI f_X5_37 rfl (sh_k hs38 20 5 (by decide) rfl) dX5_readPart_177 ?_
            refine ab_iconst (v := 1) dX5_readPart_180 (by decide) ?_
            refine ab_iadd dX5_readPart_181 ?_
            refine ab_putI f_X5_37 (Or.inl rfl) rfl (sh_k hs38 20 5 (by decide) rfl) rfl rfl dX5_readPart_182 ?_
            refine Wp.nm fun h40 e41 => ?_
            have ht := ht h40 e41
            have hs42 : Sh h40 := by rw [e41]; exact sh_si hs38
            refine ab_aload_n (i := 0) dX5_readPart_185 rfl rfl ?_
            refine ab_dup dX5_readPart_186 rfl ?_
            refine ab_getI f_X5_31 rfl (sh_k hs42 20 5 (by decide) rfl) dX5_readPart_187 ?_
            refine ab_iconst (v := 1) dX5_readPart_190 (by decide) ?_
            refine ab_iadd dX5_readPart_191 ?_
            refine ab_putI f_X5_31 (Or.inl rfl) rfl (sh_k hs42 20 5 (by decide) rfl) rfl rfl dX5_readPart_192 ?_
            refine Wp.nm fun h43 e44 => ?_
            have ht := ht h43 e44
            have hs45 : Sh h43 := by rw [e44]; exact sh_si hs42
            refine ab_iconst (v := 1) dX5_readPart_195 (by decide) ?_
            exact ab_zret rfl rfl dX5_readPart_196 (Nat.le_of_ble_eq_true rfl) (Nat.le_of_ble_eq_true rfl) ht
          · have ht := ht.2 c36
            refine ab_iconst (v := 0) dX5_readPart_136 (by decide) ?_
            exact ab_zret rfl rfl dX5_readPart_137 (Nat.le_of_ble_eq_true rfl) (Nat.le_of_ble_eq_true rfl) ht
        · have ht := ht.2 c35
          refine ab_aload_n (i := 0) dX5_readPart_100 rfl rfl ?_
          refine ab_getI f_X5_40 rfl (sh_k hs 20 5 (by decide) rfl) dX5_readPart_101 ?_
          refine ab_iload_n (i := 2) dX5_readPart_104 rfl rfl ?_
          refine ab_ishr dX5_readPart_105 ?_
          refine ab_iconst (v := 1) dX5_readPart_106 (by decide) ?_
          refine ab_iand dX5_readPart_107 ?_
          refine ab_if_eq (tgt := 115) dX5_readPart_108 (by decide) (fun c46 => ?_) (fun c46 => ?_)
          · have ht := ht.1 c46
            refine ab_iconst (v := 0) dX5_readPart_115 (by decide) ?_
            refine ab_istore (i := 4) (L' := [some (.ref 20), some (.int x1), some (.int (ah_i h 21 (Int32.toNatClampNeg (ah_i h 20 6)))), some (.int 1), some (.int 0)]) dX5_readPart_116 (by exact (Nat.le_of_ble_eq_true rfl)) rfl rfl ?_
            refine ab_iload_n (i := 3) dX5_readPart_118 rfl rfl ?_
            refine ab_if_ne (tgt := 127) dX5_readPart_119 (by decide) (fun _ => ?_) (fun q => absurd q (by decide))
            refine ab_aload_n (i := 0) dX5_readPart_127 rfl rfl ?_
            refine ab_getI f_X5_37 rfl (sh_k hs 20 5 (by decide) rfl) dX5_readPart_128 ?_
            refine ab_bipush (v := 50) dX5_readPart_131 (by decide) ?_
            refine ab_icmp_lt (tgt := 138) dX5_readPart_133 (by decide) (fun c47 => ?_) (fun c47 => ?_)
            · have ht := ht.1 c47
              refine ab_iload_n (i := 3) dX5_readPart_138 rfl rfl ?_
              refine ab_if_eq (tgt := 156) dX5_readPart_139 (by decide) (fun q => absurd q (by decide)) (fun _ => ?_)
              refine ab_aload_n (i := 0) dX5_readPart_142 rfl rfl ?_
              refine ab_iconst (v := 1) dX5_readPart_143 (by decide) ?_
              refine ab_iload_n (i := 2) dX5_readPart_144 rfl rfl ?_
              refine ab_sipush (v := 1000) dX5_readPart_145 (by decide) ?_
              refine ab_isub dX5_readPart_148 ?_
              refine ab_callV (b := 20) (As := [.int 1, .int ((ah_i h 21 (Int32.toNatClampNeg (ah_i h 20 6))) - 1000)]) ht (Y_X5_emit) l_X5_111 in_X5_emit se_X5_emit (sh_k hs 20 5 (by decide) rfl) (by decide) rfl rfl ⟨(show 1 + 1 ≤ d by omega), (Nat.le_of_ble_eq_true rfl), (Nat.le_of_ble_eq_true rfl), (Nat.le_of_ble_eq_true rfl)⟩ dX5_readPart_149 ?_
              rintro _ h48 ⟨v50, rfl, hs49, ht⟩
              refine ab_pop dX5_readPart_152 rfl ?_
              refine ab_goto (tgt := 175) dX5_readPart_153 (by decide) ?_
              refine ab_aload_n (i := 0) dX5_readPart_175 rfl rfl ?_
              refine ab_dup dX5_readPart_176 rfl ?_
              refine ab_getI f_X5_37 rfl (sh_k hs49 20 5 (by decide) rfl) dX5_readPart_177 ?_
              refine ab_iconst (v := 1) dX5_readPart_180 (by decide) ?_
              refine ab_iadd dX5_readPart_181 ?_
              refine ab_putI f_X5_37 (Or.inl rfl) rfl (sh_k hs49 20 5 (by decide) rfl) rfl rfl dX5_readPart_182 ?_
              refine Wp.nm fun h51 e52 => ?_
              have ht := ht h51 e52
              have hs53 : Sh h51 := by rw [e52]; exact sh_si hs49
              refine ab_aload_n (i := 0) dX5_readPart_185 rfl rfl ?_
              refine ab_dup dX5_readPart_186 rfl ?_
              refine ab_getI f_X5_31 rfl (sh_k hs53 20 5 (by decide) rfl) dX5_readPart_187 ?_
              refine ab_iconst (v := 1) dX5_readPart_190 (by decide) ?_
              refine ab_iadd dX5_readPart_191 ?_
              refine ab_putI f_X5_31 (Or.inl rfl) rfl (sh_k hs53 20 5 (by decide) rfl) rfl rfl dX5_readPart_192 ?_
              refine Wp.nm fun h54 e55 => ?_
              have ht := ht h54 e55
              have hs56 : Sh h54 := by rw [e55]; exact sh_si hs53
              refine ab_iconst (v := 1) dX5_readPart_195 (by decide) ?_
              exact ab_zret rfl rfl dX5_readPart_196 (Nat.le_of_ble_eq_true rfl) (Nat.le_of_ble_eq_true rfl) ht
            · have ht := ht.2 c47
              refine ab_iconst (v := 0) dX5_readPart_136 (by decide) ?_
              exact ab_zret rfl rfl dX5_readPart_137 (Nat.le_of_ble_eq_true rfl) (Nat.le_of_ble_eq_true rfl) ht
          · have ht := ht.2 c46
            refine ab_iconst (v := 1) dX5_readPart_111 (by decide) ?_
            refine ab_goto (tgt := 116) dX5_readPart_112 (by decide) ?_
            refine ab_istore (i := 4) (L' := [some (.ref 20), some (.int x1), some (.int (ah_i h 21 (Int32.toNatClampNeg (ah_i h 20 6)))), some (.int 1), some (.int 1)]) dX5_readPart_116 (by exact (Nat.le_of_ble_eq_true rfl)) rfl rfl ?_
            refine ab_iload_n (i := 3) dX5_readPart_118 rfl rfl ?_
            refine ab_if_ne (tgt := 127) dX5_readPart_119 (by decide) (fun _ => ?_) (fun q => absurd q (by decide))
            refine ab_aload_n (i := 0) dX5_readPart_127 rfl rfl ?_
            refine ab_getI f_X5_37 rfl (sh_k hs 20 5 (by decide) rfl) dX5_readPart_128 ?_
            refine ab_bipush (v := 50) dX5_readPart_131 (by decide) ?_
            refine ab_icmp_lt (tgt := 138) dX5_readPart_133 (by decide) (fun c57 => ?_) (fun c57 => ?_)
            · have ht := ht.1 c57
              refine ab_iload_n (i := 3) dX5_readPart_138 rfl rfl ?_
              refine ab_if_eq (tgt := 156) dX5_readPart_139 (by decide) (fun q => absurd q (by decide)) (fun _ => ?_)
              refine ab_aload_n (i := 0) dX5_readPart_142 rfl rfl ?_
              refine ab_iconst (v := 1) dX5_readPart_143 (by decide) ?_
              refine ab_iload_n (i := 2) dX5_readPart_144 rfl rfl ?_
              refine ab_sipush (v := 1000) dX5_readPart_145 (by decide) ?_
              refine ab_isub dX5_readPart_148 ?_
              refine ab_callV (b := 20) (As := [.int 1, .int ((ah_i h 21 (Int32.toNatClampNeg (ah_i h 20 6))) - 1000)]) ht (Y_X5_emit) l_X5_111 in_X5_emit se_X5_emit (sh_k hs 20 5 (by decide) rfl) (by decide) rfl rfl ⟨(show 1 + 1 ≤ d by omega), (Nat.le_of_ble_eq_true rfl), (Nat.le_of_ble_eq_true rfl), (Nat.le_of_ble_eq_true rfl)⟩ dX5_readPart_149 ?_
              rintro _ h58 ⟨v60, rfl, hs59, ht⟩
              refine ab_pop dX5_readPart_152 rfl ?_
              refine ab_goto (tgt := 175) dX5_readPart_153 (by decide) ?_
              refine ab_aload_n (i := 0) dX5_readPart_175 rfl rfl ?_
              refine ab_dup dX5_readPart_176 rfl ?_
              refine ab_getI f_X5_37 rfl (sh_k hs59 20 5 (by decide) rfl) dX5_readPart_177 ?_
              refine ab_iconst (v := 1) dX5_readPart_180 (by decide) ?_
              refine ab_iadd dX5_readPart_181 ?_
              refine ab_putI f_X5_37 (Or.inl rfl) rfl (sh_k hs59 20 5 (by decide) rfl) rfl rfl dX5_readPart_182 ?_
              refine Wp.nm fun h61 e62 => ?_
              have ht := ht h61 e62
              have hs63 : Sh h61 := by rw [e62]; exact sh_si hs59
              refine ab_aload_n (i := 0) dX5_readPart_185 rfl rfl ?_
              refine ab_dup dX5_readPart_186 rfl ?_
              refine ab_getI f_X5_31 rfl (sh_k hs63 20 5 (by decide) rfl) dX5_readPart_187 ?_
              refine ab_iconst (v := 1) dX5_readPart_190 (by decide) ?_
              refine ab_iadd dX5_readPart_191 ?_
              refine ab_putI f_X5_31 (Or.inl rfl) rfl (sh_k hs63 20 5 (by decide) rfl) rfl rfl dX5_readPart_192 ?_
              refine Wp.nm fun h64 e65 => ?_
              have ht := ht h64 e65
              have hs66 : Sh h64 := by rw [e65]; exact sh_si hs63
              refine ab_iconst (v := 1) dX5_readPart_195 (by decide) ?_
              exact ab_zret rfl rfl dX5_readPart_196 (Nat.le_of_ble_eq_true rfl) (Nat.le_of_ble_eq_true rfl) ht
            · have ht := ht.2 c57
              refine ab_iconst (v := 0) dX5_readPart_136 (by decide) ?_
              exact ab_zret rfl rfl dX5_readPart_137 (Nat.le_of_ble_eq_true rfl) (Nat.le_of_ble_eq_true rfl) ht
  · have ht := ht.2 c2
    refine ab_iload_n (i := 1) dX5_readPart_17 rfl rfl ?_
    refine ab_bipush (v := 8) dX5_readPart_18 (by decide) ?_
    refine ab_icmp_lt (tgt := 25) dX5_readPart_20 (by decide) (fun c67 => ?_) (fun c67 => ?_)
    · have ht := ht.1 c67
      refine ab_aload_n (i := 0) dX5_readPart_25 rfl rfl ?_
      refine ab_dup dX5_readPart_26 rfl ?_
      refine ab_getI f_X5_31 rfl (sh_k hs 20 5 (by decide) rfl) dX5_readPart_27 ?_
      refine ab_iconst (v := 1) dX5_readPart_30 (by decide) ?_
      refine ab_iadd dX5_readPart_31 ?_
      refine ab_putI f_X5_31 (Or.inl rfl) rfl (sh_k hs 20 5 (by decide) rfl) rfl rfl dX5_readPart_32 ?_
      refine Wp.nm fun h68 e69 => ?_
      have ht := ht h68 e69
      have hs70 : Sh h68 := by rw [e69]; exact sh_si hs
      refine ab_aload_n (i := 0) dX5_readPart_35 rfl rfl ?_
      refine ab_iload_n (i := 1) dX5_readPart_36 rfl rfl ?_
      refine ab_iconst (v := 1) dX5_readPart_37 (by decide) ?_
      refine ab_iadd dX5_readPart_38 ?_
      refine ab_callV (b := 20) (As := [.int (x1 + 1)]) ht (Y_X5_readSum _) l_X5_108 in_X5_readSum se_X5_readSum (sh_k hs70 20 5 (by decide) rfl) (by decide) rfl rfl ⟨(show d - 1 + 1 ≤ d by omega), (Nat.le_of_ble_eq_true rfl), (Nat.le_of_ble_eq_true rfl), (Nat.le_of_ble_eq_true rfl)⟩ dX5_readPart_39 ?_
      rintro _ h71 ⟨v73, rfl, hs72, ht⟩
      refine ab_if_eq (tgt := 60) dX5_readPart_42 (by decide) (fun c74 => ?_) (fun c74 => ?_)
      · have ht := ht.1 c74
        refine ab_iconst (v := 0) dX5_readPart_60 (by decide) ?_
        exact ab_zret rfl rfl dX5_readPart_61 (Nat.le_of_ble_eq_true rfl) (Nat.le_of_ble_eq_true rfl) ht
      · have ht := ht.2 c74
        refine ab_aload_n (i := 0) dX5_readPart_45 rfl rfl ?_
        refine ab_getR (b := 21) f_X5_15 rfl (sh_k hs72 20 5 (by decide) rfl) (sh_r hs72 27 rfl) dX5_readPart_46 ?_
        refine ab_aload_n (i := 0) dX5_readPart_49 rfl rfl ?_
        refine ab_getI f_X5_31 rfl (sh_k hs72 20 5 (by decide) rfl) dX5_readPart_50 ?_
        obtain ⟨hc75, ht⟩ := ht
        refine ab_iald (sh_k hs72 21 14 (by decide) rfl) hc75 dX5_readPart_53 ?_
        refine ab_sipush (v := 193) dX5_readPart_54 (by decide) ?_
        refine ab_icmp_eq (tgt := 62) dX5_readPart_57 (by decide) (fun c76 => ?_) (fun c76 => ?_)
        · have ht := ht.1 c76
          refine ab_aload_n (i := 0) dX5_readPart_62 rfl rfl ?_
          refine ab_dup dX5_readPart_63 rfl ?_
          refine ab_getI f_X5_31 rfl (sh_k hs72 20 5 (by decide) rfl) dX5_readPart_64 ?_
          refine ab_iconst (v := 1) dX5_readPart_67 (by decide) ?_
          refine ab_iadd dX5_readPart_68 ?_
          refine ab_putI f_X5_31 (Or.inl rfl) rfl (sh_k hs72 20 5 (by decide) rfl) rfl rfl dX5_readPart_69 ?_
          refine Wp.nm fun h77 e78 => ?_
          have ht := ht h77 e78
          have hs79 : Sh h77 := by rw [e78]; exact sh_si hs72
          refine ab_iconst (v := 1) dX5_readPart_72 (by decide) ?_
          exact ab_zret rfl rfl dX5_readPart_73 (Nat.le_of_ble_eq_true rfl) (Nat.le_of_ble_eq_true rfl) ht
        · have ht := ht.2 c76
          refine ab_iconst (v := 0) dX5_readPart_60 (by decide) ?_
          exact ab_zret rfl rfl dX5_readPart_61 (Nat.le_of_ble_eq_true rfl) (Nat.le_of_ble_eq_true rfl) ht
    · have ht := ht.2 c67
      refine ab_iconst (v := 0) dX5_readPart_23 (by decide) ?_
      exact ab_zret rfl rfl dX5_readPart_24 (Nat.le_of_ble_eq_true rfl) (Nat.le_of_ble_eq_true rfl) ht
theorem dX5_emit_0 : decode cX5_emit 0 = .ok (.aload_n 0, 1) := by decide +kernel
theorem dX5_emit_1 : decode cX5_emit 1 = .ok (.getfield 34, 3) := by decide +kernel
theorem dX5_emit_4 : decode cX5_emit 4 = .ok (.sipush 500, 3) := by decide +kernel
theorem dX5_emit_7 : decode cX5_emit 7 = .ok (.if_icmp .lt 5, 3) := by decide +kernel
theorem dX5_emit_10 : decode cX5_emit 10 = .ok (.iconst (-1), 1) := by decide +kernel
theorem dX5_emit_11 : decode cX5_emit 11 = .ok (.ireturn, 1) := by decide +kernel
theorem dX5_emit_12 : decode cX5_emit 12 = .ok (.aload_n 0, 1) := by decide +kernel
theorem dX5_emit_13 : decode cX5_emit 13 = .ok (.getfield 22, 3) := by decide +kernel
theorem dX5_emit_16 : decode cX5_emit 16 = .ok (.aload_n 0, 1) := by decide +kernel
theorem dX5_emit_17 : decode cX5_emit 17 = .ok (.getfield 34, 3) := by decide +kernel
theorem dX5_emit_20 : decode cX5_emit 20 = .ok (.iload_n 1, 1) := by decide +kernel
theorem dX5_emit_21 : decode cX5_emit 21 = .ok (.iload_n 2, 1) := by decide +kernel
theorem dX5_emit_22 : decode cX5_emit 22 = .ok (.iconst 5, 1) := by decide +kernel
theorem dX5_emit_23 : decode cX5_emit 23 = .ok (.ishl, 1) := by decide +kernel
theorem dX5_emit_24 : decode cX5_emit 24 = .ok (.ior, 1) := by decide +kernel
theorem dX5_emit_25 : decode cX5_emit 25 = .ok (.iastore, 1) := by decide +kernel
theorem dX5_emit_26 : decode cX5_emit 26 = .ok (.aload_n 0, 1) := by decide +kernel
theorem dX5_emit_27 : decode cX5_emit 27 = .ok (.dup, 1) := by decide +kernel
theorem dX5_emit_28 : decode cX5_emit 28 = .ok (.getfield 34, 3) := by decide +kernel
theorem dX5_emit_31 : decode cX5_emit 31 = .ok (.iconst 1, 1) := by decide +kernel
theorem dX5_emit_32 : decode cX5_emit 32 = .ok (.iadd, 1) := by decide +kernel
theorem dX5_emit_33 : decode cX5_emit 33 = .ok (.putfield 34, 3) := by decide +kernel
theorem dX5_emit_36 : decode cX5_emit 36 = .ok (.aload_n 0, 1) := by decide +kernel
theorem dX5_emit_37 : decode cX5_emit 37 = .ok (.getfield 34, 3) := by decide +kernel
theorem dX5_emit_40 : decode cX5_emit 40 = .ok (.iconst 1, 1) := by decide +kernel
theorem dX5_emit_41 : decode cX5_emit 41 = .ok (.isub, 1) := by decide +kernel
theorem dX5_emit_42 : decode cX5_emit 42 = .ok (.ireturn, 1) := by decide +kernel
set_option maxRecDepth 20000 in
theorem T_X5_emit {Q : Option Value → ah_T → Prop} {h : ah_T} (hs : Sh h) (x1 : Int32) (x2 : Int32) (ht : (((ah_i h 20 7) < 500 → (vp_in (ah_i h 20 7) (ah_n h 23)) ∧ (∀ h3, h3 = ah_si h 23 (Int32.toNatClampNeg (ah_i h 20 7)) (x1 ||| (x2 <<< (5 &&& 31))) → (∀ h6, h6 = ah_si h3 20 7 ((ah_i h3 20 7) + 1) → Q (some (.int ((ah_i h6 20 7) - 1))) h6))) ∧ (¬ (ah_i h 20 7) < 500 → Q (some (.int (-1))) h))) : Mt mX5_emit [.ref 20, .int x1, .int x2] h Q := by
  refine Mt.ofWp rfl (by exact (Nat.le_of_ble_eq_true rfl)) (Wp.fewer (L' := [some (.ref 20), some (.int x1), some (.int x2)]) (show ab_leL _ _ from ⟨rfl, ⟨rfl, ⟨rfl, trivial⟩⟩⟩) ?_)
  refine ab_aload_n (i := 0) dX5_emit_0 rfl rfl ?_
  refine ab_getI f_X5_34 rfl (sh_k hs 20 5 (by decide) rfl) dX5_emit_1 ?_
  refine ab_sipush (v := 500) dX5_emit_4 (by decide) ?_
  refine ab_icmp_lt (tgt := 12) dX5_emit_7 (by decide) (fun c1 => ?_) (fun c1 => ?_)
  · have ht := ht.1 c1
    refine ab_aload_n (i := 0) dX5_emit_12 rfl rfl ?_
    refine ab_getR (b := 23) f_X5_22 rfl (sh_k hs 20 5 (by decide) rfl) (sh_r hs 29 rfl) dX5_emit_13 ?_
    refine ab_aload_n (i := 0) dX5_emit_16 rfl rfl ?_
    refine ab_getI f_X5_34 rfl (sh_k hs 20 5 (by decide) rfl) dX5_emit_17 ?_
    refine ab_iload_n (i := 1) dX5_emit_20 rfl rfl ?_
    refine ab_iload_n (i := 2) dX5_emit_21 rfl rfl ?_
    refine ab_iconst (v := 5) dX5_emit_22 (by decide) ?_
    refine ab_ishl dX5_emit_23 ?_
    refine ab_ior dX5_emit_24 ?_
    obtain ⟨hc2, ht⟩ := ht
    refine ab_iast (sh_k hs 23 14 (by decide) rfl) hc2 dX5_emit_25 ?_
    refine Wp.nm fun h3 e4 => ?_
    have ht := ht h3 e4
    have hs5 : Sh h3 := by rw [e4]; exact sh_si hs
    refine ab_aload_n (i := 0) dX5_emit_26 rfl rfl ?_
    refine ab_dup dX5_emit_27 rfl ?_
    refine ab_getI f_X5_34 rfl (sh_k hs5 20 5 (by decide) rfl) dX5_emit_28 ?_
    refine ab_iconst (v := 1) dX5_emit_31 (by decide) ?_
    refine ab_iadd dX5_emit_32 ?_
    refine ab_putI f_X5_34 (Or.inl rfl) rfl (sh_k hs5 20 5 (by decide) rfl) rfl rfl dX5_emit_33 ?_
    refine Wp.nm fun h6 e7 => ?_
    have ht := ht h6 e7
    have hs8 : Sh h6 := by rw [e7]; exact sh_si hs5
    refine ab_aload_n (i := 0) dX5_emit_36 rfl rfl ?_
    refine ab_getI f_X5_34 rfl (sh_k hs8 20 5 (by decide) rfl) dX5_emit_37 ?_
    refine ab_iconst (v := 1) dX5_emit_40 (by decide) ?_
    refine ab_isub dX5_emit_41 ?_
    exact ab_iret rfl dX5_emit_42 (Nat.le_of_ble_eq_true rfl) (Nat.le_of_ble_eq_true rfl) ht
  · have ht := ht.2 c1
    refine ab_iconst (v := (-1)) dX5_emit_10 (by decide) ?_
    exact ab_iret rfl dX5_emit_11 (Nat.le_of_ble_eq_true rfl) (Nat.le_of_ble_eq_true rfl) ht
theorem dX5_aim_0 : decode cX5_aim 0 = .ok (.iload_n 1, 1) := by decide +kernel
theorem dX5_aim_1 : decode cX5_aim 1 = .ok (.ifCond .lt 25, 3) := by decide +kernel
theorem dX5_aim_4 : decode cX5_aim 4 = .ok (.iload_n 1, 1) := by decide +kernel
theorem dX5_aim_5 : decode cX5_aim 5 = .ok (.sipush 500, 3) := by decide +kernel
theorem dX5_aim_8 : decode cX5_aim 8 = .ok (.if_icmp .ge 18, 3) := by decide +kernel
theorem dX5_aim_11 : decode cX5_aim 11 = .ok (.aload_n 0, 1) := by decide +kernel
theorem dX5_aim_12 : decode cX5_aim 12 = .ok (.getfield 22, 3) := by decide +kernel
theorem dX5_aim_15 : decode cX5_aim 15 = .ok (.iload_n 1, 1) := by decide +kernel
theorem dX5_aim_16 : decode cX5_aim 16 = .ok (.dup2, 1) := by decide +kernel
theorem dX5_aim_17 : decode cX5_aim 17 = .ok (.iaload, 1) := by decide +kernel
theorem dX5_aim_18 : decode cX5_aim 18 = .ok (.aload_n 0, 1) := by decide +kernel
theorem dX5_aim_19 : decode cX5_aim 19 = .ok (.getfield 34, 3) := by decide +kernel
theorem dX5_aim_22 : decode cX5_aim 22 = .ok (.iconst 5, 1) := by decide +kernel
theorem dX5_aim_23 : decode cX5_aim 23 = .ok (.ishl, 1) := by decide +kernel
theorem dX5_aim_24 : decode cX5_aim 24 = .ok (.ior, 1) := by decide +kernel
theorem dX5_aim_25 : decode cX5_aim 25 = .ok (.iastore, 1) := by decide +kernel
theorem dX5_aim_26 : decode cX5_aim 26 = .ok (.return_, 1) := by decide +kernel
set_option maxRecDepth 20000 in
theorem T_X5_aim {Q : Option Value → ah_T → Prop} {h : ah_T} (hs : Sh h) (x1 : Int32) (ht : ((x1 < 0 → Q none h) ∧ (¬ x1 < 0 → ((500 ≤ x1 → Q none h) ∧ (¬ 500 ≤ x1 → (vp_in x1 (ah_n h 23)) ∧ (vp_in x1 (ah_n h 23)) ∧ (∀ h5, h5 = ah_si h 23 (Int32.toNatClampNeg x1) ((ah_i h 23 (Int32.toNatClampNeg x1)) ||| ((ah_i h 20 7) <<< (5 &&& 31))) → Q none h5)))))) : Mt mX5_aim [.ref 20, .int x1] h Q := by
  refine Mt.ofWp rfl (by exact (Nat.le_of_ble_eq_true rfl)) (Wp.fewer (L' := [some (.ref 20), some (.int x1)]) (show ab_leL _ _ from ⟨rfl, ⟨rfl, trivial⟩⟩) ?_)
  refine ab_iload_n (i := 1) dX5_aim_0 rfl rfl ?_
  refine ab_if_lt (tgt := 26) dX5_aim_1 (by decide) (fun c1 => ?_) (fun c1 => ?_)
  · have ht := ht.1 c1
    exact ab_vret rfl dX5_aim_26 (Nat.le_of_ble_eq_true rfl) (Nat.le_of_ble_eq_true rfl) ht
  · have ht := ht.2 c1
    refine ab_iload_n (i := 1) dX5_aim_4 rfl rfl ?_
    refine ab_sipush (v := 500) dX5_aim_5 (by decide) ?_
    refine ab_icmp_ge (tgt := 26) dX5_aim_8 (by decide) (fun c2 => ?_) (fun c2 => ?_)
    · have ht := ht.1 c2
      exact ab_vret rfl dX5_aim_26 (Nat.le_of_ble_eq_true rfl) (Nat.le_of_ble_eq_true rfl) ht
    · have ht := ht.2 c2
      refine ab_aload_n (i := 0) dX5_aim_11 rfl rfl ?_
      refine ab_getR (b := 23) f_X5_22 rfl (sh_k hs 20 5 (by decide) rfl) (sh_r hs 29 rfl) dX5_aim_12 ?_
      refine ab_iload_n (i := 1) dX5_aim_15 rfl rfl ?_
      refine ab_dup2 dX5_aim_16 rfl rfl ?_
      obtain ⟨hc3, ht⟩ := ht
      refine ab_iald (sh_k hs 23 14 (by decide) rfl) hc3 dX5_aim_17 ?_
      refine ab_aload_n (i := 0) dX5_aim_18 rfl rfl ?_
      refine ab_getI f_X5_34 rfl (sh_k hs 20 5 (by decide) rfl) dX5_aim_19 ?_
      refine ab_iconst (v := 5) dX5_aim_22 (by decide) ?_
      refine ab_ishl dX5_aim_23 ?_
      refine ab_ior dX5_aim_24 ?_
      obtain ⟨hc4, ht⟩ := ht
      refine ab_iast (sh_k hs 23 14 (by decide) rfl) hc4 dX5_aim_25 ?_
      refine Wp.nm fun h5 e6 => ?_
      have ht := ht h5 e6
      have hs7 : Sh h5 := by rw [e6]; exact sh_si hs
      exact ab_vret rfl dX5_aim_26 (Nat.le_of_ble_eq_true rfl) (Nat.le_of_ble_eq_true rfl) ht
