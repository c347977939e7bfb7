/-! ===== blocks of methods (printed by wip/whole/mkall.py) ===== -/
theorem dX6_survey_0 : decode cX6_survey 0 = .ok (.aload_n 0, 1) := by decide +kernel
theorem dX6_survey_1 : decode cX6_survey 1 = .ok (.getfield 9, 3) := by decide +kernel
theorem dX6_survey_4 : decode cX6_survey 4 = .ok (.iconst 0, 1) := by decide +kernel
theorem dX6_survey_5 : decode cX6_survey 5 = .ok (.invokestatic 57, 3) := by decide +kernel
theorem dX6_survey_8 : decode cX6_survey 8 = .ok (.aload_n 0, 1) := by decide +kernel
theorem dX6_survey_9 : decode cX6_survey 9 = .ok (.getfield 15, 3) := by decide +kernel
theorem dX6_survey_12 : decode cX6_survey 12 = .ok (.iconst 0, 1) := by decide +kernel
theorem dX6_survey_13 : decode cX6_survey 13 = .ok (.invokestatic 57, 3) := by decide +kernel
theorem dX6_survey_16 : decode cX6_survey 16 = .ok (.iconst 0, 1) := by decide +kernel
theorem dX6_survey_17 : decode cX6_survey 17 = .ok (.istore_n 1, 1) := by decide +kernel
theorem dX6_survey_18 : decode cX6_survey 18 = .ok (.iload_n 1, 1) := by decide +kernel
theorem dX6_survey_19 : decode cX6_survey 19 = .ok (.aload_n 0, 1) := by decide +kernel
theorem dX6_survey_20 : decode cX6_survey 20 = .ok (.getfield 53, 3) := by decide +kernel
theorem dX6_survey_23 : decode cX6_survey 23 = .ok (.getfield 63, 3) := by decide +kernel
theorem dX6_survey_26 : decode cX6_survey 26 = .ok (.getfield 69, 3) := by decide +kernel
theorem dX6_survey_29 : decode cX6_survey 29 = .ok (.if_icmp .ge 98, 3) := by decide +kernel
theorem dX6_survey_32 : decode cX6_survey 32 = .ok (.aload_n 0, 1) := by decide +kernel
theorem dX6_survey_33 : decode cX6_survey 33 = .ok (.getfield 53, 3) := by decide +kernel
theorem dX6_survey_36 : decode cX6_survey 36 = .ok (.getfield 63, 3) := by decide +kernel
theorem dX6_survey_39 : decode cX6_survey 39 = .ok (.iload_n 1, 1) := by decide +kernel
theorem dX6_survey_40 : decode cX6_survey 40 = .ok (.iconst 0, 1) := by decide +kernel
theorem dX6_survey_41 : decode cX6_survey 41 = .ok (.invokevirtual 74, 3) := by decide +kernel
theorem dX6_survey_44 : decode cX6_survey 44 = .ok (.istore_n 2, 1) := by decide +kernel
theorem dX6_survey_45 : decode cX6_survey 45 = .ok (.aload_n 0, 1) := by decide +kernel
theorem dX6_survey_46 : decode cX6_survey 46 = .ok (.getfield 53, 3) := by decide +kernel
theorem dX6_survey_49 : decode cX6_survey 49 = .ok (.getfield 63, 3) := by decide +kernel
theorem dX6_survey_52 : decode cX6_survey 52 = .ok (.iload_n 1, 1) := by decide +kernel
theorem dX6_survey_53 : decode cX6_survey 53 = .ok (.iconst 1, 1) := by decide +kernel
theorem dX6_survey_54 : decode cX6_survey 54 = .ok (.invokevirtual 74, 3) := by decide +kernel
theorem dX6_survey_57 : decode cX6_survey 57 = .ok (.istore_n 3, 1) := by decide +kernel
theorem dX6_survey_58 : decode cX6_survey 58 = .ok (.aload_n 0, 1) := by decide +kernel
theorem dX6_survey_59 : decode cX6_survey 59 = .ok (.getfield 9, 3) := by decide +kernel
theorem dX6_survey_62 : decode cX6_survey 62 = .ok (.iload_n 2, 1) := by decide +kernel
theorem dX6_survey_63 : decode cX6_survey 63 = .ok (.dup2, 1) := by decide +kernel
theorem dX6_survey_64 : decode cX6_survey 64 = .ok (.iaload, 1) := by decide +kernel
theorem dX6_survey_65 : decode cX6_survey 65 = .ok (.iconst 1, 1) := by decide +kernel
theorem dX6_survey_66 : decode cX6_survey 66 = .ok (.iload_n 3, 1) := by decide +kernel
theorem dX6_survey_67 : decode cX6_survey 67 = .ok (.ishl, 1) := by decide +kernel
theorem dX6_survey_68 : decode cX6_survey 68 = .ok (.ior, 1) := by decide +kernel
theorem dX6_survey_69 : decode cX6_survey 69 = .ok (.iastore, 1) := by decide +kernel
theorem dX6_survey_70 : decode cX6_survey 70 = .ok (.aload_n 0, 1) := by decide +kernel
theorem dX6_survey_71 : decode cX6_survey 71 = .ok (.getfield 9, 3) := by decide +kernel
theorem dX6_survey_74 : decode cX6_survey 74 = .ok (.iload_n 3, 1) := by decide +kernel
theorem dX6_survey_75 : decode cX6_survey 75 = .ok (.dup2, 1) := by decide +kernel
theorem dX6_survey_76 : decode cX6_survey 76 = .ok (.iaload, 1) := by decide +kernel
theorem dX6_survey_77 : decode cX6_survey 77 = .ok (.iconst 1, 1) := by decide +kernel
theorem dX6_survey_78 : decode cX6_survey 78 = .ok (.iload_n 2, 1) := by decide +kernel
theorem dX6_survey_79 : decode cX6_survey 79 = .ok (.ishl, 1) := by decide +kernel
theorem dX6_survey_80 : decode cX6_survey 80 = .ok (.ior, 1) := by decide +kernel
theorem dX6_survey_81 : decode cX6_survey 81 = .ok (.iastore, 1) := by decide +kernel
theorem dX6_survey_82 : decode cX6_survey 82 = .ok (.aload_n 0, 1) := by decide +kernel
theorem dX6_survey_83 : decode cX6_survey 83 = .ok (.getfield 53, 3) := by decide +kernel
theorem dX6_survey_86 : decode cX6_survey 86 = .ok (.getfield 63, 3) := by decide +kernel
theorem dX6_survey_89 : decode cX6_survey 89 = .ok (.iload_n 1, 1) := by decide +kernel
theorem dX6_survey_90 : decode cX6_survey 90 = .ok (.iconst 2, 1) := by decide +kernel
theorem dX6_survey_91 : decode cX6_survey 91 = .ok (.invokevirtual 74, 3) := by decide +kernel
theorem dX6_survey_94 : decode cX6_survey 94 = .ok (.ifCond .ne 27, 3) := by decide +kernel
theorem dX6_survey_97 : decode cX6_survey 97 = .ok (.aload_n 0, 1) := by decide +kernel
theorem dX6_survey_98 : decode cX6_survey 98 = .ok (.getfield 15, 3) := by decide +kernel
theorem dX6_survey_101 : decode cX6_survey 101 = .ok (.iload_n 2, 1) := by decide +kernel
theorem dX6_survey_102 : decode cX6_survey 102 = .ok (.dup2, 1) := by decide +kernel
theorem dX6_survey_103 : decode cX6_survey 103 = .ok (.iaload, 1) := by decide +kernel
theorem dX6_survey_104 : decode cX6_survey 104 = .ok (.iconst 1, 1) := by decide +kernel
theorem dX6_survey_105 : decode cX6_survey 105 = .ok (.iload_n 3, 1) := by decide +kernel
theorem dX6_survey_106 : decode cX6_survey 106 = .ok (.ishl, 1) := by decide +kernel
theorem dX6_survey_107 : decode cX6_survey 107 = .ok (.ior, 1) := by decide +kernel
theorem dX6_survey_108 : decode cX6_survey 108 = .ok (.iastore, 1) := by decide +kernel
theorem dX6_survey_109 : decode cX6_survey 109 = .ok (.aload_n 0, 1) := by decide +kernel
theorem dX6_survey_110 : decode cX6_survey 110 = .ok (.getfield 15, 3) := by decide +kernel
theorem dX6_survey_113 : decode cX6_survey 113 = .ok (.iload_n 3, 1) := by decide +kernel
theorem dX6_survey_114 : decode cX6_survey 114 = .ok (.dup2, 1) := by decide +kernel
theorem dX6_survey_115 : decode cX6_survey 115 = .ok (.iaload, 1) := by decide +kernel
theorem dX6_survey_116 : decode cX6_survey 116 = .ok (.iconst 1, 1) := by decide +kernel
theorem dX6_survey_117 : decode cX6_survey 117 = .ok (.iload_n 2, 1) := by decide +kernel
theorem dX6_survey_118 : decode cX6_survey 118 = .ok (.ishl, 1) := by decide +kernel
theorem dX6_survey_119 : decode cX6_survey 119 = .ok (.ior, 1) := by decide +kernel
theorem dX6_survey_120 : decode cX6_survey 120 = .ok (.iastore, 1) := by decide +kernel
theorem dX6_survey_121 : decode cX6_survey 121 = .ok (.iinc 1 1, 3) := by decide +kernel
theorem dX6_survey_124 : decode cX6_survey 124 = .ok (.goto (-106), 3) := by decide +kernel
theorem dX6_survey_127 : decode cX6_survey 127 = .ok (.iconst 0, 1) := by decide +kernel
theorem dX6_survey_128 : decode cX6_survey 128 = .ok (.istore_n 1, 1) := by decide +kernel
theorem dX6_survey_129 : decode cX6_survey 129 = .ok (.iload_n 1, 1) := by decide +kernel
theorem dX6_survey_130 : decode cX6_survey 130 = .ok (.bipush 12, 2) := by decide +kernel
theorem dX6_survey_132 : decode cX6_survey 132 = .ok (.if_icmp .ge 41, 3) := by decide +kernel
theorem dX6_survey_135 : decode cX6_survey 135 = .ok (.aload_n 0, 1) := by decide +kernel
theorem dX6_survey_136 : decode cX6_survey 136 = .ok (.getfield 9, 3) := by decide +kernel
theorem dX6_survey_139 : decode cX6_survey 139 = .ok (.iload_n 1, 1) := by decide +kernel
theorem dX6_survey_140 : decode cX6_survey 140 = .ok (.aload_n 0, 1) := by decide +kernel
theorem dX6_survey_141 : decode cX6_survey 141 = .ok (.getfield 25, 3) := by decide +kernel
theorem dX6_survey_144 : decode cX6_survey 144 = .ok (.iload_n 1, 1) := by decide +kernel
theorem dX6_survey_145 : decode cX6_survey 145 = .ok (.bipush 12, 2) := by decide +kernel
theorem dX6_survey_147 : decode cX6_survey 147 = .ok (.imul, 1) := by decide +kernel
theorem dX6_survey_148 : decode cX6_survey 148 = .ok (.invokestatic 78, 3) := by decide +kernel
theorem dX6_survey_151 : decode cX6_survey 151 = .ok (.aload_n 0, 1) := by decide +kernel
theorem dX6_survey_152 : decode cX6_survey 152 = .ok (.getfield 15, 3) := by decide +kernel
theorem dX6_survey_155 : decode cX6_survey 155 = .ok (.iload_n 1, 1) := by decide +kernel
theorem dX6_survey_156 : decode cX6_survey 156 = .ok (.aload_n 0, 1) := by decide +kernel
theorem dX6_survey_157 : decode cX6_survey 157 = .ok (.getfield 28, 3) := by decide +kernel
theorem dX6_survey_160 : decode cX6_survey 160 = .ok (.iload_n 1, 1) := by decide +kernel
theorem dX6_survey_161 : decode cX6_survey 161 = .ok (.bipush 12, 2) := by decide +kernel
theorem dX6_survey_163 : decode cX6_survey 163 = .ok (.imul, 1) := by decide +kernel
theorem dX6_survey_164 : decode cX6_survey 164 = .ok (.invokestatic 78, 3) := by decide +kernel
theorem dX6_survey_167 : decode cX6_survey 167 = .ok (.iinc 1 1, 3) := by decide +kernel
theorem dX6_survey_170 : decode cX6_survey 170 = .ok (.goto (-41), 3) := by decide +kernel
theorem dX6_survey_173 : decode cX6_survey 173 = .ok (.aload_n 0, 1) := by decide +kernel
theorem dX6_survey_174 : decode cX6_survey 174 = .ok (.getfield 31, 3) := by decide +kernel
theorem dX6_survey_177 : decode cX6_survey 177 = .ok (.iconst (-1), 1) := by decide +kernel
theorem dX6_survey_178 : decode cX6_survey 178 = .ok (.invokestatic 57, 3) := by decide +kernel
theorem dX6_survey_181 : decode cX6_survey 181 = .ok (.aload_n 0, 1) := by decide +kernel
theorem dX6_survey_182 : decode cX6_survey 182 = .ok (.iconst 0, 1) := by decide +kernel
theorem dX6_survey_183 : decode cX6_survey 183 = .ok (.putfield 46, 3) := by decide +kernel
theorem dX6_survey_186 : decode cX6_survey 186 = .ok (.aload_n 0, 1) := by decide +kernel
theorem dX6_survey_187 : decode cX6_survey 187 = .ok (.iconst (-1), 1) := by decide +kernel
theorem dX6_survey_188 : decode cX6_survey 188 = .ok (.putfield 50, 3) := by decide +kernel
theorem dX6_survey_191 : decode cX6_survey 191 = .ok (.return_, 1) := by decide +kernel
set_option maxRecDepth 20000 in
theorem T_X6_survey_18 {Q : Option Value → ah_T → Prop} {h : ah_T} (hs : Sh h) (x1 : Int32) (ht : (((ah_i h 2 3) ≤ x1 → Wp mX6_survey Q 0 0 129 [some (.ref 29), some (.int 0), none, none] [] h) ∧ (¬ (ah_i h 2 3) ≤ x1 → (Mt mX7_get [.ref 2, .int x1, .int 0] h (ab_qi fun v10 h8 => Sh h8 ∧ (Mt mX7_get [.ref 2, .int x1, .int 1] h8 (ab_qi fun v13 h11 => Sh h11 ∧ (vp_in v10 (ah_n h11 30)) ∧ (vp_in v10 (ah_n h11 30)) ∧ (∀ h16, h16 = ah_si h11 30 (Int32.toNatClampNeg v10) ((ah_i h11 30 (Int32.toNatClampNeg v10)) ||| ((1 : Int32) <<< (v13 &&& 31))) → (vp_in v13 (ah_n h16 30)) ∧ (vp_in v13 (ah_n h16 30)) ∧ (∀ h21, h21 = ah_si h16 30 (Int32.toNatClampNeg v13) ((ah_i h16 30 (Int32.toNatClampNeg v13)) ||| ((1 : Int32) <<< (v10 &&& 31))) → (Mt mX7_get [.ref 2, .int x1, .int 2] h21 (ab_qi fun v26 h24 => Sh h24 ∧ ((¬ v26 = 0 → Wp mX6_survey Q 0 0 18 [some (.ref 29), some (.int (x1 + 1)), none, none] [] h24) ∧ (v26 = 0 → (vp_in v10 (ah_n h24 31)) ∧ (vp_in v10 (ah_n h24 31)) ∧ (∀ h30, h30 = ah_si h24 31 (Int32.toNatClampNeg v10) ((ah_i h24 31 (Int32.toNatClampNeg v10)) ||| ((1 : Int32) <<< (v13 &&& 31))) → (vp_in v13 (ah_n h30 31)) ∧ (vp_in v13 (ah_n h30 31)) ∧ (∀ h35, h35 = ah_si h30 31 (Int32.toNatClampNeg v13) ((ah_i h30 31 (Int32.toNatClampNeg v13)) ||| ((1 : Int32) <<< (v10 &&& 31))) → Wp mX6_survey Q 0 0 18 [some (.ref 29), some (.int (x1 + 1)), none, none] [] h35))))))))))))))) : Wp mX6_survey Q 0 0 18 [some (.ref 29), some (.int x1), none, none] [] h := by
  refine ab_iload_n (i := 1) dX6_survey_18 rfl rfl ?_
  refine ab_aload_n (i := 0) dX6_survey_19 rfl rfl ?_
  refine ab_getR (b := 1) f_X6_53 rfl (sh_k hs 29 6 (by decide) rfl) (sh_r hs 37 rfl) dX6_survey_20 ?_
  refine ab_getR (b := 2) f_X6_63 rfl (sh_k hs 1 10 (by decide) rfl) (sh_r hs 13 rfl) dX6_survey_23 ?_
  refine ab_getI f_X6_69 rfl (sh_k hs 2 7 (by decide) rfl) dX6_survey_26 ?_
  refine ab_icmp_ge (tgt := 127) dX6_survey_29 (by decide) (fun c7 => ?_) (fun c7 => ?_)
  · have ht := ht.1 c7
    refine ab_iconst (v := 0) dX6_survey_127 (by decide) ?_
    refine ab_istore_n (i := 1) (L' := [some (.ref 29), some (.int 0), none, none]) dX6_survey_128 rfl (by exact (Nat.le_of_ble_eq_true rfl)) rfl rfl ?_
    exact Wp.fewer (L' := [some (.ref 29), some (.int 0), none, none]) (show ab_leL _ _ from ⟨rfl, ⟨rfl, trivial⟩⟩) ht
  · have ht := ht.2 c7
    refine ab_aload_n (i := 0) dX6_survey_32 rfl rfl ?_
    refine ab_getR (b := 1) f_X6_53 rfl (sh_k hs 29 6 (by decide) rfl) (sh_r hs 37 rfl) dX6_survey_33 ?_
    refine ab_getR (b := 2) f_X6_63 rfl (sh_k hs 1 10 (by decide) rfl) (sh_r hs 13 rfl) dX6_survey_36 ?_
    refine ab_iload_n (i := 1) dX6_survey_39 rfl rfl ?_
    refine ab_iconst (v := 0) dX6_survey_40 (by decide) ?_
    refine ab_callV (b := 2) (As := [.int x1, .int 0]) ht (Y_X7_get) l_X6_74 in_X7_get se_X7_get (sh_k hs 2 7 (by decide) rfl) (by decide) rfl rfl ⟨(Nat.le_of_ble_eq_true rfl), (Nat.le_of_ble_eq_true rfl), (Nat.le_of_ble_eq_true rfl), (Nat.le_of_ble_eq_true rfl)⟩ dX6_survey_41 ?_
    rintro _ h8 ⟨v10, rfl, hs9, ht⟩
    refine ab_istore_n (i := 2) (L' := [some (.ref 29), some (.int x1), some (.int v10), none]) dX6_survey_44 rfl (by exact (Nat.le_of_ble_eq_true rfl)) rfl rfl ?_
    refine ab_aload_n (i := 0) dX6_survey_45 rfl rfl ?_
    refine ab_getR (b := 1) f_X6_53 rfl (sh_k hs9 29 6 (by decide) rfl) (sh_r hs9 37 rfl) dX6_survey_46 ?_
    refine ab_getR (b := 2) f_X6_63 rfl (sh_k hs9 1 10 (by decide) rfl) (sh_r hs9 13 rfl) dX6_survey_49 ?_
    refine ab_iload_n (i := 1) dX6_survey_52 rfl rfl ?_
    refine ab_iconst (v := 1) dX6_survey_53 (by decide) ?_
    refine ab_callV (b := 2) (As := [.int x1, .int 1]) ht (Y_X7_get) l_X6_74 in_X7_get se_X7_get (sh_k hs9 2 7 (by decide) rfl) (by decide) rfl rfl ⟨(Nat.le_of_ble_eq_true rfl), (Nat.le_of_ble_eq_true rfl), (Nat.le_of_ble_eq_true rfl), (Nat.le_of_ble_eq_true rfl)⟩ dX6_survey_54 ?_
    rintro _ h11 ⟨v13, rfl, hs12, ht⟩
    refine ab_istore_n (i := 3) (L' := [some (.ref 29), some (.int x1), some (.int v10), some (.int v13)]) dX6_survey_57 rfl (by exact (Nat.le_of_ble_eq_true rfl)) rfl rfl ?_
    refine ab_aload_n (i := 0) dX6_survey_58 rfl rfl ?_
    refine ab_getR (b := 30) f_X6_9 rfl (sh_k hs12 29 6 (by decide) rfl) (sh_r hs12 34 rfl) dX6_survey_59 ?_
    refine ab_iload_n (i := 2) dX6_survey_62 rfl rfl ?_
    refine ab_dup2 dX6_survey_63 rfl rfl ?_
    obtain ⟨hc14, ht⟩ := ht
    refine ab_iald (sh_k hs12 30 14 (by decide) rfl) hc14 dX6_survey_64 ?_
    refine ab_iconst (v := 1) dX6_survey_65 (by decide) ?_
    refine ab_iload_n (i := 3) dX6_survey_66 rfl rfl ?_
    refine ab_ishl dX6_survey_67 ?_
    refine ab_ior dX6_survey_68 ?_
    obtain ⟨hc15, ht⟩ := ht
    refine ab_iast (sh_k hs12 30 14 (by decide) rfl) hc15 dX6_survey_69 ?_
    refine Wp.nm fun h16 e17 => ?_
    have ht := ht h16 e17
    have hs18 : Sh h16 := by rw [e17]; exact sh_si hs12
    refine ab_aload_n (i := 0) dX6_survey_70 rfl rfl ?_
    refine ab_getR (b := 30) f_X6_9 rfl (sh_k hs18 29 6 (by decide) rfl) (sh_r hs18 34 rfl) dX6_survey_71 ?_
    refine ab_iload_n (i := 3) dX6_survey_74 rfl rfl ?_
    refine ab_dup2 dX6_survey_75 rfl rfl ?_
    obtain ⟨hc19, ht⟩ := ht
    refine ab_iald (sh_k hs18 30 14 (by decide) rfl) hc19 dX6_survey_76 ?_
    refine ab_iconst (v := 1) dX6_survey_77 (by decide) ?_
    refine ab_iload_n (i := 2) dX6_survey_78 rfl rfl ?_
    refine ab_ishl dX6_survey_79 ?_
    refine ab_ior dX6_survey_80 ?_
    obtain ⟨hc20, ht⟩ := ht
    refine ab_iast (sh_k hs18 30 14 (by decide) rfl) hc20 dX6_survey_81 ?_
    refine Wp.nm fun h21 e22 => ?_
    have ht := ht h21 e22
    have hs23 : Sh h21 := by rw [e22]; exact sh_si hs18
    refine ab_aload_n (i := 0) dX6_survey_82 rfl rfl ?_
    refine ab_getR (b := 1) f_X6_53 rfl (sh_k hs23 29 6 (by decide) rfl) (sh_r hs23 37 rfl) dX6_survey_83 ?_
    refine ab_getR (b := 2) f_X6_63 rfl (sh_k hs23 1 10 (by decide) rfl) (sh_r hs23 13 rfl) dX6_survey_86 ?_
    refine ab_iload_n (i := 1) dX6_survey_89 rfl rfl ?_
    refine ab_iconst (v := 2) dX6_survey_90 (by decide) ?_
    refine ab_callV (b := 2) (As := [.int x1, .int 2]) ht (Y_X7_get) l_X6_74 in_X7_get se_X7_get (sh_k hs23 2 7 (by decide) rfl) (by decide) rfl rfl ⟨(Nat.le_of_ble_eq_true rfl), (Nat.le_of_ble_eq_true rfl), (Nat.le_of_ble_eq_true rfl), (Nat.le_of_ble_eq_true rfl)⟩ dX6_survey_91 ?_
    rintro _ h24 ⟨v26, rfl, hs25, ht⟩
    refine ab_if_ne (tgt := 121) dX6_survey_94 (by decide) (fun c27 => ?_) (fun c27 => ?_)
    · have ht := ht.1 c27
      refine ab_iinc (i := 1) (x := x1) (v := (x1 + 1)) (L' := [some (.ref 29), some (.int (x1 + 1)), some (.int v10), some (.int v13)]) dX6_survey_121 rfl rfl (by exact (Nat.le_of_ble_eq_true rfl)) rfl rfl ?_
      refine ab_goto (tgt := 18) dX6_survey_124 (by decide) ?_
      exact Wp.fewer (L' := [some (.ref 29), some (.int (x1 + 1)), none, none]) (show ab_leL _ _ from ⟨rfl, ⟨rfl, trivial⟩⟩) ht
    · have ht := ht.2 c27
      refine ab_aload_n (i := 0) dX6_survey_97 rfl rfl ?_
      refine ab_getR (b := 31) f_X6_15 rfl (sh_k hs25 29 6 (by decide) rfl) (sh_r hs25 35 rfl) dX6_survey_98 ?_
      refine ab_iload_n (i := 2) dX6_survey_101 rfl rfl ?_
      refine ab_dup2 dX6_survey_102 rfl rfl ?_
      obtain ⟨hc28, ht⟩ := ht
      refine ab_iald (sh_k hs25 31 14 (by decide) rfl) hc28 dX6_survey_103 ?_
      refine ab_iconst (v := 1) dX6_survey_104 (by decide) ?_
      refine ab_iload_n (i := 3) dX6_survey_105 rfl rfl ?_
      refine ab_ishl dX6_survey_106 ?_
      refine ab_ior dX6_survey_107 ?_
      obtain ⟨hc29, ht⟩ := ht
      refine ab_iast (sh_k hs25 31 14 (by decide) rfl) hc29 dX6_survey_108 ?_
      refine Wp.nm fun h30 e31 => ?_
      have ht := ht h30 e31
      have hs32 : Sh h30 := by rw [e31]; exact sh_si hs25
      refine ab_aload_n (i := 0) dX6_survey_109 rfl rfl ?_
      refine ab_getR (b := 31) f_X6_15 rfl (sh_k hs32 29 6 (by decide) rfl) (sh_r hs32 35 rfl) dX6_survey_110 ?_
      refine ab_iload_n (i := 3) dX6_survey_113 rfl rfl ?_
      refine ab_dup2 dX6_survey_114 rfl rfl ?_
      obtain ⟨hc33, ht⟩ := ht
      refine ab_iald (sh_k hs32 31 14 (by decide) rfl) hc33 dX6_survey_115 ?_
      refine ab_iconst (v := 1) dX6_survey_116 (by decide) ?_
      refine ab_iload_n (i := 2) dX6_survey_117 rfl rfl ?_
      refine ab_ishl dX6_survey_118 ?_
      refine ab_ior dX6_survey_119 ?_
      obtain ⟨hc34, ht⟩ := ht
      refine ab_iast (sh_k hs32 31 14 (by decide) rfl) hc34 dX6_survey_120 ?_
      refine Wp.nm fun h35 e36 => ?_
      have ht := ht h35 e36
      have hs37 : Sh h35 := by rw [e36]; exact sh_si hs32
      refine ab_iinc (i := 1) (x := x1) (v := (x1 + 1)) (L' := [some (.ref 29), some (.int (x1 + 1)), some (.int v10), some (.int v13)]) dX6_survey_121 rfl rfl (by exact (Nat.le_of_ble_eq_true rfl)) rfl rfl ?_
      refine ab_goto (tgt := 18) dX6_survey_124 (by decide) ?_
      exact Wp.fewer (L' := [some (.ref 29), some (.int (x1 + 1)), none, none]) (show ab_leL _ _ from ⟨rfl, ⟨rfl, trivial⟩⟩) ht
set_option maxRecDepth 20000 in
theorem T_X6_survey_129 {Q : Option Value → ah_T → Prop} {h : ah_T} (hs : Sh h) (x1 : Int32) (ht : ((12 ≤ x1 → (Mt mJ7_fill_53178 [.ref 35, .int (-1)] h (ab_qv fun h39 => Sh h39 ∧ (∀ h42, h42 = ah_si h39 29 12 0 → (∀ h45, h45 = ah_si h42 29 13 (-1) → Q none h45))))) ∧ (¬ 12 ≤ x1 → (Mt mX6_spread [.ref 30, .int x1, .ref 33, .int (x1 * 12)] h (ab_qv fun h48 => Sh h48 ∧ (Mt mX6_spread [.ref 31, .int x1, .ref 34, .int (x1 * 12)] h48 (ab_qv fun h51 => Sh h51 ∧ Wp mX6_survey Q 0 0 129 [some (.ref 29), some (.int (x1 + 1)), none, none] [] h51))))))) : Wp mX6_survey Q 0 0 129 [some (.ref 29), some (.int x1), none, none] [] h := by
  refine ab_iload_n (i := 1) dX6_survey_129 rfl rfl ?_
  refine ab_bipush (v := 12) dX6_survey_130 (by decide) ?_
  refine ab_icmp_ge (tgt := 173) dX6_survey_132 (by decide) (fun c38 => ?_) (fun c38 => ?_)
  · have ht := ht.1 c38
    refine ab_aload_n (i := 0) dX6_survey_173 rfl rfl ?_
    refine ab_getR (b := 35) f_X6_31 rfl (sh_k hs 29 6 (by decide) rfl) (sh_r hs 40 rfl) dX6_survey_174 ?_
    refine ab_iconst (v := (-1)) dX6_survey_177 (by decide) ?_
    refine ab_callS (As := [.ref 35, .int (-1)]) ht (Y_J7_fill_53178) l_X6_57 st_J7_fill_53178 rfl ⟨(Nat.le_of_ble_eq_true rfl), (Nat.le_of_ble_eq_true rfl), (Nat.le_of_ble_eq_true rfl), (Nat.le_of_ble_eq_true rfl)⟩ dX6_survey_178 ?_
    rintro _ h39 ⟨rfl, hs40, ht⟩
    refine ab_aload_n (i := 0) dX6_survey_181 rfl rfl ?_
    refine ab_iconst (v := 0) dX6_survey_182 (by decide) ?_
    refine ab_putI f_X6_46 (Or.inl rfl) rfl (sh_k hs40 29 6 (by decide) rfl) rfl rfl dX6_survey_183 ?_
    refine Wp.nm fun h42 e43 => ?_
    have ht := ht h42 e43
    have hs44 : Sh h42 := by rw [e43]; exact sh_si hs40
    refine ab_aload_n (i := 0) dX6_survey_186 rfl rfl ?_
    refine ab_iconst (v := (-1)) dX6_survey_187 (by decide) ?_
    refine ab_putI f_X6_50 (Or.inl rfl) rfl (sh_k hs44 29 6 (by decide) rfl) rfl rfl dX6_survey_188 ?_
    refine Wp.nm fun h45 e46 => ?_
    have ht := ht h45 e46
    have hs47 : Sh h45 := by rw [e46]; exact sh_si hs44
    exact ab_vret rfl dX6_survey_191 (Nat.le_of_ble_eq_true rfl) (Nat.le_of_ble_eq_true rfl) ht
  · have ht := ht.2 c38
    refine ab_aload_n (i := 0) dX6_survey_135 rfl rfl ?_
    refine ab_getR (b := 30) f_X6_9 rfl (sh_k hs 29 6 (by decide) rfl) (sh_r hs 34 rfl) dX6_survey_136 ?_
    refine ab_iload_n (i := 1) dX6_survey_139 rfl rfl ?_
    refine ab_aload_n (i := 0) dX6_survey_140 rfl rfl ?_
    refine ab_getR (b := 33) f_X6_25 rfl (sh_k hs 29 6 (by decide) rfl) (sh_r hs 38 rfl) dX6_survey_141 ?_
    refine ab_iload_n (i := 1) dX6_survey_144 rfl rfl ?_
    refine ab_bipush (v := 12) dX6_survey_145 (by decide) ?_
    refine ab_imul dX6_survey_147 ?_
    refine ab_callS (As := [.ref 30, .int x1, .ref 33, .int (x1 * 12)]) ht (Y_X6_spread) l_X6_78 st_X6_spread rfl ⟨(Nat.le_of_ble_eq_true rfl), (Nat.le_of_ble_eq_true rfl), (Nat.le_of_ble_eq_true rfl), (Nat.le_of_ble_eq_true rfl)⟩ dX6_survey_148 ?_
    rintro _ h48 ⟨rfl, hs49, ht⟩
    refine ab_aload_n (i := 0) dX6_survey_151 rfl rfl ?_
    refine ab_getR (b := 31) f_X6_15 rfl (sh_k hs49 29 6 (by decide) rfl) (sh_r hs49 35 rfl) dX6_survey_152 ?_
    refine ab_iload_n (i := 1) dX6_survey_155 rfl rfl ?_
    refine ab_aload_n (i := 0) dX6_survey_156 rfl rfl ?_
    refine ab_getR (b := 34) f_X6_28 rfl (sh_k hs49 29 6 (by decide) rfl) (sh_r hs49 39 rfl) dX6_survey_157 ?_
    refine ab_iload_n (i := 1) dX6_survey_160 rfl rfl ?_
    refine ab_bipush (v := 12) dX6_survey_161 (by decide) ?_
    refine ab_imul dX6_survey_163 ?_
    refine ab_callS (As := [.ref 31, .int x1, .ref 34, .int (x1 * 12)]) ht (Y_X6_spread) l_X6_78 st_X6_spread rfl ⟨(Nat.le_of_ble_eq_true rfl), (Nat.le_of_ble_eq_true rfl), (Nat.le_of_ble_eq_true rfl), (Nat.le_of_ble_eq_true rfl)⟩ dX6_survey_164 ?_
    rintro _ h51 ⟨rfl, hs52, ht⟩
    refine ab_iinc (i := 1) (x := x1) (v := (x1 + 1)) (L' := [some (.ref 29), some (.int (x1 + 1)), none, none]) dX6_survey_167 rfl rfl (by exact (Nat.le_of_ble_eq_true rfl)) rfl rfl ?_
    refine ab_goto (tgt := 129) dX6_survey_170 (by decide) ?_
    exact Wp.fewer (L' := [some (.ref 29), some (.int (x1 + 1)), none, none]) (show ab_leL _ _ from ⟨rfl, ⟨rfl, trivial⟩⟩) ht
set_option maxRecDepth 20000 in
theorem T_X6_survey {Q : Option Value → ah_T → Prop} {h : ah_T} (hs : Sh h)  (ht : (Mt mJ7_fill_53178 [.ref 30, .int 0] h (ab_qv fun h1 => Sh h1 ∧ (Mt mJ7_fill_53178 [.ref 31, .int 0] h1 (ab_qv fun h4 => Sh h4 ∧ Wp mX6_survey Q 0 0 18 [some (.ref 29), some (.int 0), none, none] [] h4))))) : Mt mX6_survey [.ref 29] h Q := by
  refine Mt.ofWp rfl (by exact (Nat.le_of_ble_eq_true rfl)) (Wp.fewer (L' := [some (.ref 29), none, none, none]) (show ab_leL _ _ from ⟨rfl, trivial⟩) ?_)
  refine ab_aload_n (i := 0) dX6_survey_0 rfl rfl ?_
  refine ab_getR (b := 30) f_X6_9 rfl (sh_k hs 29 6 (by decide) rfl) (sh_r hs 34 rfl) dX6_survey_1 ?_
  refine ab_iconst (v := 0) dX6_survey_4 (by decide) ?_
  refine ab_callS (As := [.ref 30, .int 0]) ht (Y_J7_fill_53178) l_X6_57 st_J7_fill_53178 rfl ⟨(Nat.le_of_ble_eq_true rfl), (Nat.le_of_ble_eq_true rfl), (Nat.le_of_ble_eq_true rfl), (Nat.le_of_ble_eq_true rfl)⟩ dX6_survey_5 ?_
  rintro _ h1 ⟨rfl, hs2, ht⟩
  refine ab_aload_n (i := 0) dX6_survey_8 rfl rfl ?_
  refine ab_getR (b := 31) f_X6_15 rfl (sh_k hs2 29 6 (by decide) rfl) (sh_r hs2 35 rfl) dX6_survey_9 ?_
  refine ab_iconst (v := 0) dX6_survey_12 (by decide) ?_
  refine ab_callS (As := [.ref 31, .int 0]) ht (Y_J7_fill_53178) l_X6_57 st_J7_fill_53178 rfl ⟨(Nat.le_of_ble_eq_true rfl), (Nat.le_of_ble_eq_true rfl), (Nat.le_of_ble_eq_true rfl), (Nat.le_of_ble_eq_true rfl)⟩ dX6_survey_13 ?_
  rintro _ h4 ⟨rfl, hs5, ht⟩
  refine ab_iconst (v := 0) dX6_survey_16 (by decide) ?_
  refine ab_istore_n (i := 1) (L' := [some (.ref 29), some (.int 0), none, none]) dX6_survey_17 rfl (by exact (Nat.le_of_ble_eq_true rfl)) rfl rfl ?_
  exact Wp.fewer (L' := [some (.ref 29), some (.int 0), none, none]) (show ab_leL _ _ from ⟨rfl, ⟨rfl, trivial⟩⟩) ht
theorem dX6_spread_0 : decode cX6_spread 0 = .ok (.iload_n 3, 1) := by decide +kernel
theorem dX6_spread_1 : decode cX6_spread 1 = .ok (.ifCond .lt 22, 3) := by decide +kernel
theorem dX6_spread_4 : decode cX6_spread 4 = .ok (.iload_n 3, 1) := by decide +kernel
theorem dX6_spread_5 : decode cX6_spread 5 = .ok (.bipush 12, 2) := by decide +kernel
theorem dX6_spread_7 : decode cX6_spread 7 = .ok (.iadd, 1) := by decide +kernel
theorem dX6_spread_8 : decode cX6_spread 8 = .ok (.aload_n 2, 1) := by decide +kernel
theorem dX6_spread_9 : decode cX6_spread 9 = .ok (.arraylength, 1) := by decide +kernel
theorem dX6_spread_10 : decode cX6_spread 10 = .ok (.if_icmp .gt 13, 3) := by decide +kernel
theorem dX6_spread_13 : decode cX6_spread 13 = .ok (.iload_n 1, 1) := by decide +kernel
theorem dX6_spread_14 : decode cX6_spread 14 = .ok (.ifCond .lt 9, 3) := by decide +kernel
theorem dX6_spread_17 : decode cX6_spread 17 = .ok (.iload_n 1, 1) := by decide +kernel
theorem dX6_spread_18 : decode cX6_spread 18 = .ok (.bipush 12, 2) := by decide +kernel
theorem dX6_spread_20 : decode cX6_spread 20 = .ok (.if_icmp .lt 4, 3) := by decide +kernel
theorem dX6_spread_23 : decode cX6_spread 23 = .ok (.return_, 1) := by decide +kernel
theorem dX6_spread_24 : decode cX6_spread 24 = .ok (.aload_n 2, 1) := by decide +kernel
theorem dX6_spread_25 : decode cX6_spread 25 = .ok (.iload_n 3, 1) := by decide +kernel
theorem dX6_spread_26 : decode cX6_spread 26 = .ok (.iload_n 3, 1) := by decide +kernel
theorem dX6_spread_27 : decode cX6_spread 27 = .ok (.bipush 12, 2) := by decide +kernel
theorem dX6_spread_29 : decode cX6_spread 29 = .ok (.iadd, 1) := by decide +kernel
theorem dX6_spread_30 : decode cX6_spread 30 = .ok (.iconst (-1), 1) := by decide +kernel
theorem dX6_spread_31 : decode cX6_spread 31 = .ok (.invokestatic 82, 3) := by decide +kernel
theorem dX6_spread_34 : decode cX6_spread 34 = .ok (.iconst 1, 1) := by decide +kernel
theorem dX6_spread_35 : decode cX6_spread 35 = .ok (.iload_n 1, 1) := by decide +kernel
theorem dX6_spread_36 : decode cX6_spread 36 = .ok (.ishl, 1) := by decide +kernel
theorem dX6_spread_37 : decode cX6_spread 37 = .ok (.istore 4, 2) := by decide +kernel
theorem dX6_spread_39 : decode cX6_spread 39 = .ok (.iload 4, 2) := by decide +kernel
theorem dX6_spread_41 : decode cX6_spread 41 = .ok (.istore 5, 2) := by decide +kernel
theorem dX6_spread_43 : decode cX6_spread 43 = .ok (.iconst 0, 1) := by decide +kernel
theorem dX6_spread_44 : decode cX6_spread 44 = .ok (.istore 6, 2) := by decide +kernel
theorem dX6_spread_46 : decode cX6_spread 46 = .ok (.iload 6, 2) := by decide +kernel
theorem dX6_spread_48 : decode cX6_spread 48 = .ok (.bipush 12, 2) := by decide +kernel
theorem dX6_spread_50 : decode cX6_spread 50 = .ok (.if_icmp .ge 76, 3) := by decide +kernel
theorem dX6_spread_53 : decode cX6_spread 53 = .ok (.iload 5, 2) := by decide +kernel
theorem dX6_spread_55 : decode cX6_spread 55 = .ok (.ifCond .eq 71, 3) := by decide +kernel
theorem dX6_spread_58 : decode cX6_spread 58 = .ok (.iconst 0, 1) := by decide +kernel
theorem dX6_spread_59 : decode cX6_spread 59 = .ok (.istore 7, 2) := by decide +kernel
theorem dX6_spread_61 : decode cX6_spread 61 = .ok (.iconst 0, 1) := by decide +kernel
theorem dX6_spread_62 : decode cX6_spread 62 = .ok (.istore 8, 2) := by decide +kernel
theorem dX6_spread_64 : decode cX6_spread 64 = .ok (.iload 8, 2) := by decide +kernel
theorem dX6_spread_66 : decode cX6_spread 66 = .ok (.bipush 12, 2) := by decide +kernel
theorem dX6_spread_68 : decode cX6_spread 68 = .ok (.if_icmp .ge 36, 3) := by decide +kernel
theorem dX6_spread_71 : decode cX6_spread 71 = .ok (.iload 5, 2) := by decide +kernel
theorem dX6_spread_73 : decode cX6_spread 73 = .ok (.iload 8, 2) := by decide +kernel
theorem dX6_spread_75 : decode cX6_spread 75 = .ok (.ishr, 1) := by decide +kernel
theorem dX6_spread_76 : decode cX6_spread 76 = .ok (.iconst 1, 1) := by decide +kernel
theorem dX6_spread_77 : decode cX6_spread 77 = .ok (.iand, 1) := by decide +kernel
theorem dX6_spread_78 : decode cX6_spread 78 = .ok (.ifCond .eq 20, 3) := by decide +kernel
theorem dX6_spread_81 : decode cX6_spread 81 = .ok (.aload_n 2, 1) := by decide +kernel
theorem dX6_spread_82 : decode cX6_spread 82 = .ok (.iload_n 3, 1) := by decide +kernel
theorem dX6_spread_83 : decode cX6_spread 83 = .ok (.iload 8, 2) := by decide +kernel
theorem dX6_spread_85 : decode cX6_spread 85 = .ok (.iadd, 1) := by decide +kernel
theorem dX6_spread_86 : decode cX6_spread 86 = .ok (.iload 6, 2) := by decide +kernel
theorem dX6_spread_88 : decode cX6_spread 88 = .ok (.iastore, 1) := by decide +kernel
theorem dX6_spread_89 : decode cX6_spread 89 = .ok (.iload 7, 2) := by decide +kernel
theorem dX6_spread_91 : decode cX6_spread 91 = .ok (.aload_n 0, 1) := by decide +kernel
theorem dX6_spread_92 : decode cX6_spread 92 = .ok (.iload 8, 2) := by decide +kernel
theorem dX6_spread_94 : decode cX6_spread 94 = .ok (.iaload, 1) := by decide +kernel
theorem dX6_spread_95 : decode cX6_spread 95 = .ok (.ior, 1) := by decide +kernel
theorem dX6_spread_96 : decode cX6_spread 96 = .ok (.istore 7, 2) := by decide +kernel
theorem dX6_spread_98 : decode cX6_spread 98 = .ok (.iinc 8 1, 3) := by decide +kernel
theorem dX6_spread_101 : decode cX6_spread 101 = .ok (.goto (-37), 3) := by decide +kernel
theorem dX6_spread_104 : decode cX6_spread 104 = .ok (.iload 7, 2) := by decide +kernel
theorem dX6_spread_106 : decode cX6_spread 106 = .ok (.iload 4, 2) := by decide +kernel
theorem dX6_spread_108 : decode cX6_spread 108 = .ok (.iconst (-1), 1) := by decide +kernel
theorem dX6_spread_109 : decode cX6_spread 109 = .ok (.ixor, 1) := by decide +kernel
theorem dX6_spread_110 : decode cX6_spread 110 = .ok (.iand, 1) := by decide +kernel
theorem dX6_spread_111 : decode cX6_spread 111 = .ok (.istore 5, 2) := by decide +kernel
theorem dX6_spread_113 : decode cX6_spread 113 = .ok (.iload 4, 2) := by decide +kernel
theorem dX6_spread_115 : decode cX6_spread 115 = .ok (.iload 5, 2) := by decide +kernel
theorem dX6_spread_117 : decode cX6_spread 117 = .ok (.ior, 1) := by decide +kernel
theorem dX6_spread_118 : decode cX6_spread 118 = .ok (.istore 4, 2) := by decide +kernel
theorem dX6_spread_120 : decode cX6_spread 120 = .ok (.iinc 6 1, 3) := by decide +kernel
theorem dX6_spread_123 : decode cX6_spread 123 = .ok (.goto (-77), 3) := by decide +kernel
theorem dX6_spread_126 : decode cX6_spread 126 = .ok (.return_, 1) := by decide +kernel
set_option maxRecDepth 20000 in
theorem T_X6_spread_46 {Q : Option Value → ah_T → Prop} {h : ah_T} (hs : Sh h) (a0 : Nat) (a2 : Nat) (x3 : Int32) (x4 : Int32) (x5 : Int32) (x6 : Int32) (hk_a0 : ah_k h a0 = 14) (hk_a2 : ah_k h a2 = 14) (ht : ((12 ≤ x6 → Q none h) ∧ (¬ 12 ≤ x6 → ((x5 = 0 → Q none h) ∧ (¬ x5 = 0 → Wp mX6_spread Q 0 0 64 [some (.ref a0), none, some (.ref a2), some (.int x3), some (.int x4), some (.int x5), some (.int x6), some (.int 0), some (.int 0)] [] h))))) : Wp mX6_spread Q 0 0 46 [some (.ref a0), none, some (.ref a2), some (.int x3), some (.int x4), some (.int x5), some (.int x6), none, none] [] h := by
  refine ab_iload (i := 6) dX6_spread_46 rfl ?_
  refine ab_bipush (v := 12) dX6_spread_48 (by decide) ?_
  refine ab_icmp_ge (tgt := 126) dX6_spread_50 (by decide) (fun c10 => ?_) (fun c10 => ?_)
  · have ht := ht.1 c10
    exact ab_vret rfl dX6_spread_126 (Nat.le_of_ble_eq_true rfl) (Nat.le_of_ble_eq_true rfl) ht
  · have ht := ht.2 c10
    refine ab_iload (i := 5) dX6_spread_53 rfl ?_
    refine ab_if_eq (tgt := 126) dX6_spread_55 (by decide) (fun c11 => ?_) (fun c11 => ?_)
    · have ht := ht.1 c11
      exact ab_vret rfl dX6_spread_126 (Nat.le_of_ble_eq_true rfl) (Nat.le_of_ble_eq_true rfl) ht
    · have ht := ht.2 c11
      refine ab_iconst (v := 0) dX6_spread_58 (by decide) ?_
      refine ab_istore (i := 7) (L' := [some (.ref a0), none, some (.ref a2), some (.int x3), some (.int x4), some (.int x5), some (.int x6), some (.int 0), none]) dX6_spread_59 (by exact (Nat.le_of_ble_eq_true rfl)) rfl rfl ?_
      refine ab_iconst (v := 0) dX6_spread_61 (by decide) ?_
      refine ab_istore (i := 8) (L' := [some (.ref a0), none, some (.ref a2), some (.int x3), some (.int x4), some (.int x5), some (.int x6), some (.int 0), some (.int 0)]) dX6_spread_62 (by exact (Nat.le_of_ble_eq_true rfl)) rfl rfl ?_
      exact Wp.fewer (L' := [some (.ref a0), none, some (.ref a2), some (.int x3), some (.int x4), some (.int x5), some (.int x6), some (.int 0), some (.int 0)]) (show ab_leL _ _ from ⟨rfl, ⟨rfl, ⟨rfl, ⟨rfl, ⟨rfl, ⟨rfl, ⟨rfl, ⟨rfl, trivial⟩⟩⟩⟩⟩⟩⟩⟩) ht
set_option maxRecDepth 20000 in
theorem T_X6_spread_64 {Q : Option Value → ah_T → Prop} {h : ah_T} (hs : Sh h) (a0 : Nat) (a2 : Nat) (x3 : Int32) (x4 : Int32) (x5 : Int32) (x6 : Int32) (x7 : Int32) (x8 : Int32) (hk_a0 : ah_k h a0 = 14) (hk_a2 : ah_k h a2 = 14) (ht : ((12 ≤ x8 → Wp mX6_spread Q 0 0 46 [some (.ref a0), none, some (.ref a2), some (.int x3), some (.int (x4 ||| (x7 &&& (x4 ^^^ (-1))))), some (.int (x7 &&& (x4 ^^^ (-1)))), some (.int (x6 + 1)), none, none] [] h) ∧ (¬ 12 ≤ x8 → ((((x5 >>> (x8 &&& 31)) &&& 1) = 0 → Wp mX6_spread Q 0 0 64 [some (.ref a0), none, some (.ref a2), some (.int x3), some (.int x4), some (.int x5), some (.int x6), some (.int x7), some (.int (x8 + 1))] [] h) ∧ (¬ ((x5 >>> (x8 &&& 31)) &&& 1) = 0 → (vp_in (x3 + x8) (ah_n h a2)) ∧ (∀ h15, h15 = ah_si h a2 (Int32.toNatClampNeg (x3 + x8)) x6 → (vp_in x8 (ah_n h15 a0)) ∧ Wp mX6_spread Q 0 0 64 [some (.ref a0), none, some (.ref a2), some (.int x3), some (.int x4), some (.int x5), some (.int x6), some (.int (x7 ||| (ah_i h15 a0 (Int32.toNatClampNeg x8)))), some (.int (x8 + 1))] [] h15)))))) : Wp mX6_spread Q 0 0 64 [some (.ref a0), none, some (.ref a2), some (.int x3), some (.int x4), some (.int x5), some (.int x6), some (.int x7), some (.int x8)] [] h := by
  refine ab_iload (i := 8) dX6_spread_64 rfl ?_
  refine ab_bipush (v := 12) dX6_spread_66 (by decide) ?_
  refine ab_icmp_ge (tgt := 104) dX6_spread_68 (by decide) (fun c12 => ?_) (fun c12 => ?_)
  · have ht := ht.1 c12
    refine ab_iload (i := 7) dX6_spread_104 rfl ?_
    refine ab_iload (i := 4) dX6_spread_106 rfl ?_
    refine ab_iconst (v := (-1)) dX6_spread_108 (by decide) ?_
    refine ab_ixor dX6_spread_109 ?_
    refine ab_iand dX6_spread_110 ?_
    refine ab_istore (i := 5) (L' := [some (.ref a0), none, some (.ref a2), some (.int x3), some (.int x4), some (.int (x7 &&& (x4 ^^^ (-1)))), some (.int x6), some (.int x7), some (.int x8)]) dX6_spread_111 (by exact (Nat.le_of_ble_eq_true rfl)) rfl rfl ?_
    refine ab_iload (i := 4) dX6_spread_113 rfl ?_
    refine ab_iload (i := 5) dX6_spread_115 rfl ?_
    refine ab_ior dX6_spread_117 ?_
    refine ab_istore (i := 4) (L' := [some (.ref a0), none, some (.ref a2), some (.int x3), some (.int (x4 ||| (x7 &&& (x4 ^^^ (-1))))), some (.int (x7 &&& (x4 ^^^ (-1)))), some (.int x6), some (.int x7), some (.int x8)]) dX6_spread_118 (by exact (Nat.le_of_ble_eq_true rfl)) rfl rfl ?_
    refine ab_iinc (i := 6) (x := x6) (v := (x6 + 1)) (L' := [some (.ref a0), none, some (.ref a2), some (.int x3), some (.int (x4 ||| (x7 &&& (x4 ^^^ (-1))))), some (.int (x7 &&& (x4 ^^^ (-1)))), some (.int (x6 + 1)), some (.int x7), some (.int x8)]) dX6_spread_120 rfl rfl (by exact (Nat.le_of_ble_eq_true rfl)) rfl rfl ?_
    refine ab_goto (tgt := 46) dX6_spread_123 (by decide) ?_
    exact Wp.fewer (L' := [some (.ref a0), none, some (.ref a2), some (.int x3), some (.int (x4 ||| (x7 &&& (x4 ^^^ (-1))))), some (.int (x7 &&& (x4 ^^^ (-1)))), some (.int (x6 + 1)), none, none]) (show ab_leL _ _ from ⟨rfl, ⟨rfl, ⟨rfl, ⟨rfl, ⟨rfl, ⟨rfl, trivial⟩⟩⟩⟩⟩⟩) ht
  · have ht := ht.2 c12
    refine ab_iload (i := 5) dX6_spread_71 rfl ?_
    refine ab_iload (i := 8) dX6_spread_73 rfl ?_
    refine ab_ishr dX6_spread_75 ?_
    refine ab_iconst (v := 1) dX6_spread_76 (by decide) ?_
    refine ab_iand dX6_spread_77 ?_
    refine ab_if_eq (tgt := 98) dX6_spread_78 (by decide) (fun c13 => ?_) (fun c13 => ?_)
    · have ht := ht.1 c13
      refine ab_iinc (i := 8) (x := x8) (v := (x8 + 1)) (L' := [some (.ref a0), none, some (.ref a2), some (.int x3), some (.int x4), some (.int x5), some (.int x6), some (.int x7), some (.int (x8 + 1))]) dX6_spread_98 rfl rfl (by exact (Nat.le_of_ble_eq_true rfl)) rfl rfl ?_
      refine ab_goto (tgt := 64) dX6_spread_101 (by decide) ?_
      exact Wp.fewer (L' := [some (.ref a0), none, some (.ref a2), some (.int x3), some (.int x4), some (.int x5), some (.int x6), some (.int x7), some (.int (x8 + 1))]) (show ab_leL _ _ from ⟨rfl, ⟨rfl, ⟨rfl, ⟨rfl, ⟨rfl, ⟨rfl, ⟨rfl, ⟨rfl, trivial⟩⟩⟩⟩⟩⟩⟩⟩) ht
    · have ht := ht.2 c13
      refine ab_aload_n (i := 2) dX6_spread_81 rfl rfl ?_
      refine ab_iload_n (i := 3) dX6_spread_82 rfl rfl ?_
      refine ab_iload (i := 8) dX6_spread_83 rfl ?_
      refine ab_iadd dX6_spread_85 ?_
      refine ab_iload (i := 6) dX6_spread_86 rfl ?_
      obtain ⟨hc14, ht⟩ := ht
      refine ab_iast hk_a2 hc14 dX6_spread_88 ?_
      refine Wp.nm fun h15 e16 => ?_
      have ht := ht h15 e16
      have hs17 : Sh h15 := by rw [e16]; exact sh_si hs
      have hk18 : ah_k h15 a0 = 14 := by rw [e16]; exact hk_a0
      have hk19 : ah_k h15 a2 = 14 := by rw [e16]; exact hk_a2
      refine ab_iload (i := 7) dX6_spread_89 rfl ?_
      refine ab_aload_n (i := 0) dX6_spread_91 rfl rfl ?_
      refine ab_iload (i := 8) dX6_spread_92 rfl ?_
      obtain ⟨hc20, ht⟩ := ht
      refine ab_iald hk18 hc20 dX6_spread_94 ?_
      refine ab_ior dX6_spread_95 ?_
      refine ab_istore (i := 7) (L' := [some (.ref a0), none, some (.ref a2), some (.int x3), some (.int x4), some (.int x5), some (.int x6), some (.int (x7 ||| (ah_i h15 a0 (Int32.toNatClampNeg x8)))), some (.int x8)]) dX6_spread_96 (by exact (Nat.le_of_ble_eq_true rfl)) rfl rfl ?_
      refine ab_iinc (i := 8) (x := x8) (v := (x8 + 1)) (L' := [some (.ref a0), none, some (.ref a2), some (.int x3), some (.int x4), some (.int x5), some (.int x6), some (.int (x7 ||| (ah_i h15 a0 (Int32.toNatClampNeg x8)))), some (.int (x8 + 1))]) dX6_spread_98 rfl rfl (by exact (Nat.le_of_ble_eq_true rfl)) rfl rfl ?_
      refine ab_goto (tgt := 64) dX6_spread_101 (by decide) ?_
      exact Wp.fewer (L' := [some (.ref a0), none, some (.ref a2), some (.int x3), some (.int x4), some (.int x5), some (.int x6), some (.int (x7 ||| (ah_i h15 a0 (Int32.toNatClampNeg x8)))), some (.int (x8 + 1))]) (show ab_leL _ _ from ⟨rfl, ⟨rfl, ⟨rfl, ⟨rfl, ⟨rfl, ⟨rfl, ⟨rfl, ⟨rfl, trivial⟩⟩⟩⟩⟩⟩⟩⟩) ht
set_option maxRecDepth 20000 in
theorem T_X6_spread {Q : Option Value → ah_T → Prop} {h : ah_T} (hs : Sh h) (a0 : Nat) (x1 : Int32) (a2 : Nat) (x3 : Int32) (hk_a0 : ah_k h a0 = 14) (hk_a2 : ah_k h a2 = 14) (ht : ((x3 < 0 → Q none h) ∧ (¬ x3 < 0 → (((Int32.ofNat (ah_n h a2)) < (x3 + 12) → Q none h) ∧ (¬ (Int32.ofNat (ah_n h a2)) < (x3 + 12) → ((x1 < 0 → Q none h) ∧ (¬ x1 < 0 → ((x1 < 12 → (Mt mJ7_fill_fda19 [.ref a2, .int x3, .int (x3 + 12), .int (-1)] h (ab_qv fun h5 => Sh h5 ∧ ah_k h5 a0 = 14 ∧ ah_k h5 a2 = 14 ∧ Wp mX6_spread Q 0 0 46 [some (.ref a0), none, some (.ref a2), some (.int x3), some (.int ((1 : Int32) <<< (x1 &&& 31))), some (.int ((1 : Int32) <<< (x1 &&& 31))), some (.int 0), none, none] [] h5))) ∧ (¬ x1 < 12 → Q none h))))))))) : Mt mX6_spread [.ref a0, .int x1, .ref a2, .int x3] h Q := by
  refine Mt.ofWp rfl (by exact (Nat.le_of_ble_eq_true rfl)) (Wp.fewer (L' := [some (.ref a0), some (.int x1), some (.ref a2), some (.int x3), none, none, none, none, none]) (show ab_leL _ _ from ⟨rfl, ⟨rfl, ⟨rfl, ⟨rfl, trivial⟩⟩⟩⟩) ?_)
  refine ab_iload_n (i := 3) dX6_spread_0 rfl rfl ?_
  refine ab_if_lt (tgt := 23) dX6_spread_1 (by decide) (fun c1 => ?_) (fun c1 => ?_)
  · have ht := ht.1 c1
    exact ab_vret rfl dX6_spread_23 (Nat.le_of_ble_eq_true rfl) (Nat.le_of_ble_eq_true rfl) ht
  · have ht := ht.2 c1
    refine ab_iload_n (i := 3) dX6_spread_4 rfl rfl ?_
    refine ab_bipush (v := 12) dX6_spread_5 (by decide) ?_
    refine ab_iadd dX6_spread_7 ?_
    refine ab_aload_n (i := 2) dX6_spread_8 rfl rfl ?_
    refine ab_alen 14 (by decide) hk_a2 rfl dX6_spread_9 ?_
    refine ab_icmp_gt (tgt := 23) dX6_spread_10 (by decide) (fun c2 => ?_) (fun c2 => ?_)
    · have ht := ht.1 c2
      exact ab_vret rfl dX6_spread_23 (Nat.le_of_ble_eq_true rfl) (Nat.le_of_ble_eq_true rfl) ht
    · have ht := ht.2 c2
      refine ab_iload_n (i := 1) dX6_spread_13 rfl rfl ?_
      refine ab_if_lt (tgt := 23) dX6_spread_14 (by decide) (fun c3 => ?_) (fun c3 => ?_)
      · have ht := ht.1 c3
        exact ab_vret rfl dX6_spread_23 (Nat.le_of_ble_eq_true rfl) (Nat.le_of_ble_eq_true rfl) ht
      · have ht := ht.2 c3
        refine ab_iload_n (i := 1) dX6_spread_17 rfl rfl ?_
        refine ab_bipush (v := 12) dX6_spread_18 (by decide) ?_
        refine ab_icmp_lt (tgt := 24) dX6_spread_20 (by decide) (fun c4 => ?_) (fun c4 => ?_)
        · have ht := ht.1 c4
          refine ab_aload_n (i := 2) dX6_spread_24 rfl rfl ?_
          refine ab_iload_n (i := 3) dX6_spread_25 rfl rfl ?_
          refine ab_iload_n (i := 3) dX6_spread_26 rfl rfl ?_
          refine ab_bipush (v := 12) dX6_spread_27 (by decide) ?_
          refine ab_iadd dX6_spread_29 ?_
          refine ab_iconst (v := (-1)) dX6_spread_30 (by decide) ?_
          refine ab_callS (As := [.ref a2, .int x3, .int (x3 + 12), .int (-1)]) ht (Y_J7_fill_fda19) l_X6_82 st_J7_fill_fda19 rfl ⟨(Nat.le_of_ble_eq_true rfl), (Nat.le_of_ble_eq_true rfl), (Nat.le_of_ble_eq_true rfl), (Nat.le_of_ble_eq_true rfl)⟩ dX6_spread_31 ?_
          rintro _ h5 ⟨rfl, hs6, hk8, hk9, ht⟩
          refine ab_iconst (v := 1) dX6_spread_34 (by decide) ?_
          refine ab_iload_n (i := 1) dX6_spread_35 rfl rfl ?_
          refine ab_ishl dX6_spread_36 ?_
          refine ab_istore (i := 4) (L' := [some (.ref a0), some (.int x1), some (.ref a2), some (.int x3), some (.int ((1 : Int32) <<< (x1 &&& 31))), none, none, none, none]) dX6_spread_37 (by exact (Nat.le_of_ble_eq_true rfl)) rfl rfl ?_
          refine ab_iload (i := 4) dX6_spread_39 rfl ?_
          refine ab_istore (i := 5) (L' := [some (.ref a0), some (.int x1), some (.ref a2), some (.int x3), some (.int ((1 : Int32) <<< (x1 &&& 31))), some (.int ((1 : Int32) <<< (x1 &&& 31))), none, none, none]) dX6_spread_41 (by exact (Nat.le_of_ble_eq_true rfl)) rfl rfl ?_
          refine ab_iconst (v := 0) dX6_spread_43 (by decide) ?_
          refine ab_istore (i := 6) (L' := [some (.ref a0), some (.int x1), some (.ref a2), some (.int x3), some (.int ((1 : Int32) <<< (x1 &&& 31))), some (.int ((1 : Int32) <<< (x1 &&& 31))), some (.int 0), none, none]) dX6_spread_44 (by exact (Nat.le_of_ble_eq_true rfl)) rfl rfl ?_
          exact Wp.fewer (L' := [some (.ref a0), none, some (.ref a2), some (.int x3), some (.int ((1 : Int32) <<< (x1 &&& 31))), some (.int ((1 : Int32) <<< (x1 &&& 31))), some (.int 0), none, none]) (show ab_leL _ _ from ⟨rfl, ⟨rfl, ⟨rfl, ⟨rfl, ⟨rfl, ⟨rfl, trivial⟩⟩⟩⟩⟩⟩) ht
        · have ht := ht.2 c4
          exact ab_vret rfl dX6_spread_23 (Nat.le_of_ble_eq_true rfl) (Nat.le_of_ble_eq_true rfl) ht
theorem dX6_within_0 : decode cX6_within 0 = .ok (.iload_n 1, 1) := by decide +kernel
theorem dX6_within_1 : decode cX6_within 1 = .ok (.bipush 12, 2) := by decide +kernel
theorem dX6_within_3 : decode cX6_within 3 = .ok (.invokestatic 85, 3) := by decide +kernel
theorem dX6_within_6 : decode cX6_within 6 = .ok (.ifCond .eq 12, 3) := by decide +kernel
theorem dX6_within_9 : decode cX6_within 9 = .ok (.iload_n 2, 1) := by decide +kernel
theorem dX6_within_10 : decode cX6_within 10 = .ok (.bipush 10, 2) := by decide +kernel
theorem dX6_within_12 : decode cX6_within 12 = .ok (.invokestatic 85, 3) := by decide +kernel
theorem dX6_within_15 : decode cX6_within 15 = .ok (.ifCond .ne 5, 3) := by decide +kernel
theorem dX6_within_18 : decode cX6_within 18 = .ok (.iconst 0, 1) := by decide +kernel
theorem dX6_within_19 : decode cX6_within 19 = .ok (.ireturn, 1) := by decide +kernel
theorem dX6_within_20 : decode cX6_within 20 = .ok (.iload_n 1, 1) := by decide +kernel
theorem dX6_within_21 : decode cX6_within 21 = .ok (.bipush 10, 2) := by decide +kernel
theorem dX6_within_23 : decode cX6_within 23 = .ok (.imul, 1) := by decide +kernel
theorem dX6_within_24 : decode cX6_within 24 = .ok (.iload_n 2, 1) := by decide +kernel
theorem dX6_within_25 : decode cX6_within 25 = .ok (.iadd, 1) := by decide +kernel
theorem dX6_within_26 : decode cX6_within 26 = .ok (.istore_n 3, 1) := by decide +kernel
theorem dX6_within_27 : decode cX6_within 27 = .ok (.aload_n 0, 1) := by decide +kernel
theorem dX6_within_28 : decode cX6_within 28 = .ok (.getfield 31, 3) := by decide +kernel
theorem dX6_within_31 : decode cX6_within 31 = .ok (.iload_n 3, 1) := by decide +kernel
theorem dX6_within_32 : decode cX6_within 32 = .ok (.iaload, 1) := by decide +kernel
theorem dX6_within_33 : decode cX6_within 33 = .ok (.iconst (-1), 1) := by decide +kernel
theorem dX6_within_34 : decode cX6_within 34 = .ok (.if_icmp .ne 60, 3) := by decide +kernel
theorem dX6_within_37 : decode cX6_within 37 = .ok (.iconst 0, 1) := by decide +kernel
theorem dX6_within_38 : decode cX6_within 38 = .ok (.istore 4, 2) := by decide +kernel
theorem dX6_within_40 : decode cX6_within 40 = .ok (.iconst 0, 1) := by decide +kernel
theorem dX6_within_41 : decode cX6_within 41 = .ok (.istore 5, 2) := by decide +kernel
theorem dX6_within_43 : decode cX6_within 43 = .ok (.iload 5, 2) := by decide +kernel
theorem dX6_within_45 : decode cX6_within 45 = .ok (.bipush 12, 2) := by decide +kernel
theorem dX6_within_47 : decode cX6_within 47 = .ok (.if_icmp .ge 39, 3) := by decide +kernel
theorem dX6_within_50 : decode cX6_within 50 = .ok (.aload_n 0, 1) := by decide +kernel
theorem dX6_within_51 : decode cX6_within 51 = .ok (.iload_n 1, 1) := by decide +kernel
theorem dX6_within_52 : decode cX6_within 52 = .ok (.iload 5, 2) := by decide +kernel
theorem dX6_within_54 : decode cX6_within 54 = .ok (.invokevirtual 89, 3) := by decide +kernel
theorem dX6_within_57 : decode cX6_within 57 = .ok (.istore 6, 2) := by decide +kernel
theorem dX6_within_59 : decode cX6_within 59 = .ok (.iload 6, 2) := by decide +kernel
theorem dX6_within_61 : decode cX6_within 61 = .ok (.iconst (-1), 1) := by decide +kernel
theorem dX6_within_62 : decode cX6_within 62 = .ok (.if_icmp .eq 18, 3) := by decide +kernel
theorem dX6_within_65 : decode cX6_within 65 = .ok (.iload 6, 2) := by decide +kernel
theorem dX6_within_67 : decode cX6_within 67 = .ok (.iload_n 2, 1) := by decide +kernel
theorem dX6_within_68 : decode cX6_within 68 = .ok (.if_icmp .gt 12, 3) := by decide +kernel
theorem dX6_within_71 : decode cX6_within 71 = .ok (.iload 4, 2) := by decide +kernel
theorem dX6_within_73 : decode cX6_within 73 = .ok (.iconst 1, 1) := by decide +kernel
theorem dX6_within_74 : decode cX6_within 74 = .ok (.iload 5, 2) := by decide +kernel
theorem dX6_within_76 : decode cX6_within 76 = .ok (.ishl, 1) := by decide +kernel
theorem dX6_within_77 : decode cX6_within 77 = .ok (.ior, 1) := by decide +kernel
theorem dX6_within_78 : decode cX6_within 78 = .ok (.istore 4, 2) := by decide +kernel
theorem dX6_within_80 : decode cX6_within 80 = .ok (.iinc 5 1, 3) := by decide +kernel
theorem dX6_within_83 : decode cX6_within 83 = .ok (.goto (-40), 3) := by decide +kernel
theorem dX6_within_86 : decode cX6_within 86 = .ok (.aload_n 0, 1) := by decide +kernel
theorem dX6_within_87 : decode cX6_within 87 = .ok (.getfield 31, 3) := by decide +kernel
theorem dX6_within_90 : decode cX6_within 90 = .ok (.iload_n 3, 1) := by decide +kernel
theorem dX6_within_91 : decode cX6_within 91 = .ok (.iload 4, 2) := by decide +kernel
theorem dX6_within_93 : decode cX6_within 93 = .ok (.iastore, 1) := by decide +kernel
theorem dX6_within_94 : decode cX6_within 94 = .ok (.aload_n 0, 1) := by decide +kernel
theorem dX6_within_95 : decode cX6_within 95 = .ok (.getfield 31, 3) := by decide +kernel
theorem dX6_within_98 : decode cX6_within 98 = .ok (.iload_n 3, 1) := by decide +kernel
theorem dX6_within_99 : decode cX6_within 99 = .ok (.iaload, 1) := by decide +kernel
theorem dX6_within_100 : decode cX6_within 100 = .ok (.ireturn, 1) := by decide +kernel
set_option maxRecDepth 20000 in
theorem T_X6_within_43 {Q : Option Value → ah_T → Prop} {h : ah_T} (hs : Sh h) (x1 : Int32) (x2 : Int32) (x3 : Int32) (x4 : Int32) (x5 : Int32) (ht : ((12 ≤ x5 → (vp_in x3 (ah_n h 35)) ∧ (∀ h8, h8 = ah_si h 35 (Int32.toNatClampNeg x3) x4 → (vp_in x3 (ah_n h8 35)) ∧ Q (some (.int (ah_i h8 35 (Int32.toNatClampNeg x3)))) h8)) ∧ (¬ 12 ≤ x5 → ((¬ (f_X11_isIn x1 12) = 0 → (¬ (f_X11_isIn x5 12) = 0 → vp_in ((x1 * 12) + x5) (ah_n h 34)))) ∧ (((f_X6_sight h x1 x5) = (-1) → Wp mX6_within Q 0 0 43 [some (.ref 29), some (.int x1), some (.int x2), some (.int x3), some (.int x4), some (.int (x5 + 1)), none] [] h) ∧ (¬ (f_X6_sight h x1 x5) = (-1) → ((x2 < (f_X6_sight h x1 x5) → Wp mX6_within Q 0 0 43 [some (.ref 29), some (.int x1), some (.int x2), some (.int x3), some (.int x4), some (.int (x5 + 1)), none] [] h) ∧ (¬ x2 < (f_X6_sight h x1 x5) → Wp mX6_within Q 0 0 43 [some (.ref 29), some (.int x1), some (.int x2), some (.int x3), some (.int (x4 ||| ((1 : Int32) <<< (x5 &&& 31)))), some (.int (x5 + 1)), none] [] h))))))) : Wp mX6_within Q 0 0 43 [some (.ref 29), some (.int x1), some (.int x2), some (.int x3), some (.int x4), some (.int x5), none] [] h := by
  refine ab_iload (i := 5) dX6_within_43 rfl ?_
  refine ab_bipush (v := 12) dX6_within_45 (by decide) ?_
  refine ab_icmp_ge (tgt := 86) dX6_within_47 (by decide) (fun c6 => ?_) (fun c6 => ?_)
  · have ht := ht.1 c6
    refine ab_aload_n (i := 0) dX6_within_86 rfl rfl ?_
    refine ab_getR (b := 35) f_X6_31 rfl (sh_k hs 29 6 (by decide) rfl) (sh_r hs 40 rfl) dX6_within_87 ?_
    refine ab_iload_n (i := 3) dX6_within_90 rfl rfl ?_
    refine ab_iload (i := 4) dX6_within_91 rfl ?_
    obtain ⟨hc7, ht⟩ := ht
    refine ab_iast (sh_k hs 35 14 (by decide) rfl) hc7 dX6_within_93 ?_
    refine Wp.nm fun h8 e9 => ?_
    have ht := ht h8 e9
    have hs10 : Sh h8 := by rw [e9]; exact sh_si hs
    refine ab_aload_n (i := 0) dX6_within_94 rfl rfl ?_
    refine ab_getR (b := 35) f_X6_31 rfl (sh_k hs10 29 6 (by decide) rfl) (sh_r hs10 40 rfl) dX6_within_95 ?_
    refine ab_iload_n (i := 3) dX6_within_98 rfl rfl ?_
    obtain ⟨hc11, ht⟩ := ht
    refine ab_iald (sh_k hs10 35 14 (by decide) rfl) hc11 dX6_within_99 ?_
    exact ab_iret rfl dX6_within_100 (Nat.le_of_ble_eq_true rfl) (Nat.le_of_ble_eq_true rfl) ht
  · have ht := ht.2 c6
    refine ab_aload_n (i := 0) dX6_within_50 rfl rfl ?_
    refine ab_iload_n (i := 1) dX6_within_51 rfl rfl ?_
    refine ab_iload (i := 5) dX6_within_52 rfl ?_
    obtain ⟨hc12, ht⟩ := ht
    refine ab_callV (b := 29) (Q' := fun r h' => r = some (.int (f_X6_sight h x1 x5)) ∧ h = h') (As := [.int x1, .int x5]) (c_X6_sight hs x1 x5  hc12 ⟨rfl, rfl⟩) (Y_X6_sight) l_X6_89 in_X6_sight se_X6_sight (sh_k hs 29 6 (by decide) rfl) (by decide) rfl rfl ⟨(Nat.le_of_ble_eq_true rfl), (Nat.le_of_ble_eq_true rfl), (Nat.le_of_ble_eq_true rfl), (Nat.le_of_ble_eq_true rfl)⟩ dX6_within_54 ?_
    rintro _ _ ⟨rfl, rfl⟩
    refine ab_istore (i := 6) (L' := [some (.ref 29), some (.int x1), some (.int x2), some (.int x3), some (.int x4), some (.int x5), some (.int (f_X6_sight h x1 x5))]) dX6_within_57 (by exact (Nat.le_of_ble_eq_true rfl)) rfl rfl ?_
    refine ab_iload (i := 6) dX6_within_59 rfl ?_
    refine ab_iconst (v := (-1)) dX6_within_61 (by decide) ?_
    refine ab_icmp_eq (tgt := 80) dX6_within_62 (by decide) (fun c13 => ?_) (fun c13 => ?_)
    · have ht := ht.1 c13
      refine ab_iinc (i := 5) (x := x5) (v := (x5 + 1)) (L' := [some (.ref 29), some (.int x1), some (.int x2), some (.int x3), some (.int x4), some (.int (x5 + 1)), some (.int (f_X6_sight h x1 x5))]) dX6_within_80 rfl rfl (by exact (Nat.le_of_ble_eq_true rfl)) rfl rfl ?_
      refine ab_goto (tgt := 43) dX6_within_83 (by decide) ?_
      exact Wp.fewer (L' := [some (.ref 29), some (.int x1), some (.int x2), some (.int x3), some (.int x4), some (.int (x5 + 1)), none]) (show ab_leL _ _ from ⟨rfl, ⟨rfl, ⟨rfl, ⟨rfl, ⟨rfl, ⟨rfl, trivial⟩⟩⟩⟩⟩⟩) ht
    · have ht := ht.2 c13
      refine ab_iload (i := 6) dX6_within_65 rfl ?_
      refine ab_iload_n (i := 2) dX6_within_67 rfl rfl ?_
      refine ab_icmp_gt (tgt := 80) dX6_within_68 (by decide) (fun c14 => ?_) (fun c14 => ?_)
      · have ht := ht.1 c14
        refine ab_iinc (i := 5) (x := x5) (v := (x5 + 1)) (L' := [some (.ref 29), some (.int x1), some (.int x2), some (.int x3), some (.int x4), some (.int (x5 + 1)), some (.int (f_X6_sight h x1 x5))]) dX6_within_80 rfl rfl (by exact (Nat.le_of_ble_eq_true rfl)) rfl rfl ?_
        refine ab_goto (tgt := 43) dX6_within_83 (by decide) ?_
        exact Wp.fewer (L' := [some (.ref 29), some (.int x1), some (.int x2), some (.int x3), some (.int x4), some (.int (x5 + 1)), none]) (show ab_leL _ _ from ⟨rfl, ⟨rfl, ⟨rfl, ⟨rfl, ⟨rfl, ⟨rfl, trivial⟩⟩⟩⟩⟩⟩) ht
      · have ht := ht.2 c14
        refine ab_iload (i := 4) dX6_within_71 rfl ?_
        refine ab_iconst (v := 1) dX6_within_73 (by decide) ?_
        refine ab_iload (i := 5) dX6_within_74 rfl ?_
        refine ab_ishl dX6_within_76 ?_
        refine ab_ior dX6_within_77 ?_
        refine ab_istore (i := 4) (L' := [some (.ref 29), some (.int x1), some (.int x2), some (.int x3), some (.int (x4 ||| ((1 : Int32) <<< (x5 &&& 31)))), some (.int x5), some (.int (f_X6_sight h x1 x5))]) dX6_within_78 (by exact (Nat.le_of_ble_eq_true rfl)) rfl rfl ?_
        refine ab_iinc (i := 5) (x := x5) (v := (x5 + 1)) (L' := [some (.ref 29), some (.int x1), some (.int x2), some (.int x3), some (.int (x4 ||| ((1 : Int32) <<< (x5 &&& 31)))), some (.int (x5 + 1)), some (.int (f_X6_sight h x1 x5))]) dX6_within_80 rfl rfl (by exact (Nat.le_of_ble_eq_true rfl)) rfl rfl ?_
        refine ab_goto (tgt := 43) dX6_within_83 (by decide) ?_
        exact Wp.fewer (L' := [some (.ref 29), some (.int x1), some (.int x2), some (.int x3), some (.int (x4 ||| ((1 : Int32) <<< (x5 &&& 31)))), some (.int (x5 + 1)), none]) (show ab_leL _ _ from ⟨rfl, ⟨rfl, ⟨rfl, ⟨rfl, ⟨rfl, ⟨rfl, trivial⟩⟩⟩⟩⟩⟩) ht
set_option maxRecDepth 20000 in
theorem T_X6_within {Q : Option Value → ah_T → Prop} {h : ah_T} (hs : Sh h) (x1 : Int32) (x2 : Int32) (ht : (((f_X11_isIn x1 12) = 0 → Q (some (.int 0)) h) ∧ (¬ (f_X11_isIn x1 12) = 0 → ((¬ (f_X11_isIn x2 10) = 0 → (vp_in ((x1 * 10) + x2) (ah_n h 35)) ∧ ((¬ (ah_i h 35 (Int32.toNatClampNeg ((x1 * 10) + x2))) = (-1) → (vp_in ((x1 * 10) + x2) (ah_n h 35)) ∧ Q (some (.int (ah_i h 35 (Int32.toNatClampNeg ((x1 * 10) + x2))))) h) ∧ ((ah_i h 35 (Int32.toNatClampNeg ((x1 * 10) + x2))) = (-1) → Wp mX6_within Q 0 0 43 [some (.ref 29), some (.int x1), some (.int x2), some (.int ((x1 * 10) + x2)), some (.int 0), some (.int 0), none] [] h))) ∧ ((f_X11_isIn x2 10) = 0 → Q (some (.int 0)) h))))) : Mt mX6_within [.ref 29, .int x1, .int x2] h Q := by
  refine Mt.ofWp rfl (by exact (Nat.le_of_ble_eq_true rfl)) (Wp.fewer (L' := [some (.ref 29), some (.int x1), some (.int x2), none, none, none, none]) (show ab_leL _ _ from ⟨rfl, ⟨rfl, ⟨rfl, trivial⟩⟩⟩) ?_)
  refine ab_iload_n (i := 1) dX6_within_0 rfl rfl ?_
  refine ab_bipush (v := 12) dX6_within_1 (by decide) ?_
  refine ab_callSN (Q' := fun r h' => r = some (.int (f_X11_isIn x1 12)) ∧ h = h') (As := [.int x1, .int 12]) (c_X11_isIn hs x1 12 ⟨rfl, rfl⟩) (Y_X11_isIn) (fun g A s z => z.2.2.2.2.2.2.2.1) st_X11_isIn rfl ⟨(Nat.le_of_ble_eq_true rfl), (Nat.le_of_ble_eq_true rfl), (Nat.le_of_ble_eq_true rfl), (Nat.le_of_ble_eq_true rfl)⟩ dX6_within_3 ?_
  rintro _ _ ⟨rfl, rfl⟩
  refine ab_if_eq (tgt := 18) dX6_within_6 (by decide) (fun c1 => ?_) (fun c1 => ?_)
  · have ht := ht.1 c1
    refine ab_iconst (v := 0) dX6_within_18 (by decide) ?_
    exact ab_iret rfl dX6_within_19 (Nat.le_of_ble_eq_true rfl) (Nat.le_of_ble_eq_true rfl) ht
  · have ht := ht.2 c1
    refine ab_iload_n (i := 2) dX6_within_9 rfl rfl ?_
    refine ab_bipush (v := 10) dX6_within_10 (by decide) ?_
    refine ab_callSN (Q' := fun r h' => r = some (.int (f_X11_isIn x2 10)) ∧ h = h') (As := [.int x2, .int 10]) (c_X11_isIn hs x2 10 ⟨rfl, rfl⟩) (Y_X11_isIn) (fun g A s z => z.2.2.2.2.2.2.2.1) st_X11_isIn rfl ⟨(Nat.le_of_ble_eq_true rfl), (Nat.le_of_ble_eq_true rfl), (Nat.le_of_ble_eq_true rfl), (Nat.le_of_ble_eq_true rfl)⟩ dX6_within_12 ?_
    rintro _ _ ⟨rfl, rfl⟩
    refine ab_if_ne (tgt := 20) dX6_within_15 (by decide) (fun c2 => ?_) (fun c2 => ?_)
    · have ht := ht.1 c2
      refine ab_iload_n (i := 1) dX6_within_20 rfl rfl ?_
      refine ab_bipush (v := 10) dX6_within_21 (by decide) ?_
      refine ab_imul dX6_within_23 ?_
      refine ab_iload_n (i := 2) dX6_within_24 rfl rfl ?_
      refine ab_iadd dX6_within_25 ?_
      refine ab_istore_n (i := 3) (L' := [some (.ref 29), some (.int x1), some (.int x2), some (.int ((x1 * 10) + x2)), none, none, none]) dX6_within_26 rfl (by exact (Nat.le_of_ble_eq_true rfl)) rfl rfl ?_
      refine ab_aload_n (i := 0) dX6_within_27 rfl rfl ?_
      refine ab_getR (b := 35) f_X6_31 rfl (sh_k hs 29 6 (by decide) rfl) (sh_r hs 40 rfl) dX6_within_28 ?_
      refine ab_iload_n (i := 3) dX6_within_31 rfl rfl ?_
      obtain ⟨hc3, ht⟩ := ht
      refine ab_iald (sh_k hs 35 14 (by decide) rfl) hc3 dX6_within_32 ?_
      refine ab_iconst (v := (-1)) dX6_within_33 (by decide) ?_
      refine ab_icmp_ne (tgt := 94) dX6_within_34 (by decide) (fun c4 => ?_) (fun c4 => ?_)
      · have ht := ht.1 c4
        refine ab_aload_n (i := 0) dX6_within_94 rfl rfl ?_
        refine ab_getR (b := 35) f_X6_31 rfl (sh_k hs 29 6 (by decide) rfl) (sh_r hs 40 rfl) dX6_within_95 ?_
        refine ab_iload_n (i := 3) dX6_within_98 rfl rfl ?_
        obtain ⟨hc5, ht⟩ := ht
        refine ab_iald (sh_k hs 35 14 (by decide) rfl) hc5 dX6_within_99 ?_
        exact ab_iret rfl dX6_within_100 (Nat.le_of_ble_eq_true rfl) (Nat.le_of_ble_eq_true rfl) ht
      · have ht := ht.2 c4
        refine ab_iconst (v := 0) dX6_within_37 (by decide) ?_
        refine ab_istore (i := 4) (L' := [some (.ref 29), some (.int x1), some (.int x2), some (.int ((x1 * 10) + x2)), some (.int 0), none, none]) dX6_within_38 (by exact (Nat.le_of_ble_eq_true rfl)) rfl rfl ?_
        refine ab_iconst (v := 0) dX6_within_40 (by decide) ?_
        refine ab_istore (i := 5) (L' := [some (.ref 29), some (.int x1), some (.int x2), some (.int ((x1 * 10) + x2)), some (.int 0), some (.int 0), none]) dX6_within_41 (by exact (Nat.le_of_ble_eq_true rfl)) rfl rfl ?_
        exact Wp.fewer (L' := [some (.ref 29), some (.int x1), some (.int x2), some (.int ((x1 * 10) + x2)), some (.int 0), some (.int 0), none]) (show ab_leL _ _ from ⟨rfl, ⟨rfl, ⟨rfl, ⟨rfl, ⟨rfl, ⟨rfl, trivial⟩⟩⟩⟩⟩⟩) ht
    · have ht := ht.2 c2
      refine ab_iconst (v := 0) dX6_within_18 (by decide) ?_
      exact ab_iret rfl dX6_within_19 (Nat.le_of_ble_eq_true rfl) (Nat.le_of_ble_eq_true rfl) ht
theorem dX6_around_0 : decode cX6_around 0 = .ok (.iload_n 1, 1) := by decide +kernel
theorem dX6_around_1 : decode cX6_around 1 = .ok (.istore_n 2, 1) := by decide +kernel
theorem dX6_around_2 : decode cX6_around 2 = .ok (.iconst 0, 1) := by decide +kernel
theorem dX6_around_3 : decode cX6_around 3 = .ok (.istore_n 3, 1) := by decide +kernel
theorem dX6_around_4 : decode cX6_around 4 = .ok (.iload_n 3, 1) := by decide +kernel
theorem dX6_around_5 : decode cX6_around 5 = .ok (.bipush 12, 2) := by decide +kernel
theorem dX6_around_7 : decode cX6_around 7 = .ok (.if_icmp .ge 26, 3) := by decide +kernel
theorem dX6_around_10 : decode cX6_around 10 = .ok (.iload_n 1, 1) := by decide +kernel
theorem dX6_around_11 : decode cX6_around 11 = .ok (.iload_n 3, 1) := by decide +kernel
theorem dX6_around_12 : decode cX6_around 12 = .ok (.ishr, 1) := by decide +kernel
theorem dX6_around_13 : decode cX6_around 13 = .ok (.iconst 1, 1) := by decide +kernel
theorem dX6_around_14 : decode cX6_around 14 = .ok (.iand, 1) := by decide +kernel
theorem dX6_around_15 : decode cX6_around 15 = .ok (.ifCond .eq 12, 3) := by decide +kernel
theorem dX6_around_18 : decode cX6_around 18 = .ok (.iload_n 2, 1) := by decide +kernel
theorem dX6_around_19 : decode cX6_around 19 = .ok (.aload_n 0, 1) := by decide +kernel
theorem dX6_around_20 : decode cX6_around 20 = .ok (.getfield 9, 3) := by decide +kernel
theorem dX6_around_23 : decode cX6_around 23 = .ok (.iload_n 3, 1) := by decide +kernel
theorem dX6_around_24 : decode cX6_around 24 = .ok (.iaload, 1) := by decide +kernel
theorem dX6_around_25 : decode cX6_around 25 = .ok (.ior, 1) := by decide +kernel
theorem dX6_around_26 : decode cX6_around 26 = .ok (.istore_n 2, 1) := by decide +kernel
theorem dX6_around_27 : decode cX6_around 27 = .ok (.iinc 3 1, 3) := by decide +kernel
theorem dX6_around_30 : decode cX6_around 30 = .ok (.goto (-26), 3) := by decide +kernel
theorem dX6_around_33 : decode cX6_around 33 = .ok (.iload_n 2, 1) := by decide +kernel
theorem dX6_around_34 : decode cX6_around 34 = .ok (.ireturn, 1) := by decide +kernel
set_option maxRecDepth 20000 in
theorem T_X6_around_4 {Q : Option Value → ah_T → Prop} {h : ah_T} (hs : Sh h) (x1 : Int32) (x2 : Int32) (x3 : Int32) (ht : ((12 ≤ x3 → Q (some (.int x2)) h) ∧ (¬ 12 ≤ x3 → ((((x1 >>> (x3 &&& 31)) &&& 1) = 0 → Wp mX6_around Q 0 0 4 [some (.ref 29), some (.int x1), some (.int x2), some (.int (x3 + 1))] [] h) ∧ (¬ ((x1 >>> (x3 &&& 31)) &&& 1) = 0 → (vp_in x3 (ah_n h 30)) ∧ Wp mX6_around Q 0 0 4 [some (.ref 29), some (.int x1), some (.int (x2 ||| (ah_i h 30 (Int32.toNatClampNeg x3)))), some (.int (x3 + 1))] [] h))))) : Wp mX6_around Q 0 0 4 [some (.ref 29), some (.int x1), some (.int x2), some (.int x3)] [] h := by
  refine ab_iload_n (i := 3) dX6_around_4 rfl rfl ?_
  refine ab_bipush (v := 12) dX6_around_5 (by decide) ?_
  refine ab_icmp_ge (tgt := 33) dX6_around_7 (by decide) (fun c1 => ?_) (fun c1 => ?_)
  · have ht := ht.1 c1
    refine ab_iload_n (i := 2) dX6_around_33 rfl rfl ?_
    exact ab_iret rfl dX6_around_34 (Nat.le_of_ble_eq_true rfl) (Nat.le_of_ble_eq_true rfl) ht
  · have ht := ht.2 c1
    refine ab_iload_n (i := 1) dX6_around_10 rfl rfl ?_
    refine ab_iload_n (i := 3) dX6_around_11 rfl rfl ?_
    refine ab_ishr dX6_around_12 ?_
    refine ab_iconst (v := 1) dX6_around_13 (by decide) ?_
    refine ab_iand dX6_around_14 ?_
    refine ab_if_eq (tgt := 27) dX6_around_15 (by decide) (fun c2 => ?_) (fun c2 => ?_)
    · have ht := ht.1 c2
      refine ab_iinc (i := 3) (x := x3) (v := (x3 + 1)) (L' := [some (.ref 29), some (.int x1), some (.int x2), some (.int (x3 + 1))]) dX6_around_27 rfl rfl (by exact (Nat.le_of_ble_eq_true rfl)) rfl rfl ?_
      refine ab_goto (tgt := 4) dX6_around_30 (by decide) ?_
      exact Wp.fewer (L' := [some (.ref 29), some (.int x1), some (.int x2), some (.int (x3 + 1))]) (show ab_leL _ _ from ⟨rfl, ⟨rfl, ⟨rfl, ⟨rfl, trivial⟩⟩⟩⟩) ht
    · have ht := ht.2 c2
      refine ab_iload_n (i := 2) dX6_around_18 rfl rfl ?_
      refine ab_aload_n (i := 0) dX6_around_19 rfl rfl ?_
      refine ab_getR (b := 30) f_X6_9 rfl (sh_k hs 29 6 (by decide) rfl) (sh_r hs 34 rfl) dX6_around_20 ?_
      refine ab_iload_n (i := 3) dX6_around_23 rfl rfl ?_
      obtain ⟨hc3, ht⟩ := ht
      refine ab_iald (sh_k hs 30 14 (by decide) rfl) hc3 dX6_around_24 ?_
      refine ab_ior dX6_around_25 ?_
      refine ab_istore_n (i := 2) (L' := [some (.ref 29), some (.int x1), some (.int (x2 ||| (ah_i h 30 (Int32.toNatClampNeg x3)))), some (.int x3)]) dX6_around_26 rfl (by exact (Nat.le_of_ble_eq_true rfl)) rfl rfl ?_
      refine ab_iinc (i := 3) (x := x3) (v := (x3 + 1)) (L' := [some (.ref 29), some (.int x1), some (.int (x2 ||| (ah_i h 30 (Int32.toNatClampNeg x3)))), some (.int (x3 + 1))]) dX6_around_27 rfl rfl (by exact (Nat.le_of_ble_eq_true rfl)) rfl rfl ?_
      refine ab_goto (tgt := 4) dX6_around_30 (by decide) ?_
      exact Wp.fewer (L' := [some (.ref 29), some (.int x1), some (.int (x2 ||| (ah_i h 30 (Int32.toNatClampNeg x3)))), some (.int (x3 + 1))]) (show ab_leL _ _ from ⟨rfl, ⟨rfl, ⟨rfl, ⟨rfl, trivial⟩⟩⟩⟩) ht
set_option maxRecDepth 20000 in
theorem T_X6_around {Q : Option Value → ah_T → Prop} {h : ah_T} (hs : Sh h) (x1 : Int32) (ht : Wp mX6_around Q 0 0 4 [some (.ref 29), some (.int x1), some (.int x1), some (.int 0)] [] h) : Mt mX6_around [.ref 29, .int x1] h Q := by
  refine Mt.ofWp rfl (by exact (Nat.le_of_ble_eq_true rfl)) (Wp.fewer (L' := [some (.ref 29), some (.int x1), none, none]) (show ab_leL _ _ from ⟨rfl, ⟨rfl, trivial⟩⟩) ?_)
  refine ab_iload_n (i := 1) dX6_around_0 rfl rfl ?_
  refine ab_istore_n (i := 2) (L' := [some (.ref 29), some (.int x1), some (.int x1), none]) dX6_around_1 rfl (by exact (Nat.le_of_ble_eq_true rfl)) rfl rfl ?_
  refine ab_iconst (v := 0) dX6_around_2 (by decide) ?_
  refine ab_istore_n (i := 3) (L' := [some (.ref 29), some (.int x1), some (.int x1), some (.int 0)]) dX6_around_3 rfl (by exact (Nat.le_of_ble_eq_true rfl)) rfl rfl ?_
  exact Wp.fewer (L' := [some (.ref 29), some (.int x1), some (.int x1), some (.int 0)]) (show ab_leL _ _ from ⟨rfl, ⟨rfl, ⟨rfl, ⟨rfl, trivial⟩⟩⟩⟩) ht
theorem dX6_stagger_0 : decode cX6_stagger 0 = .ok (.iload_n 1, 1) := by decide +kernel
theorem dX6_stagger_1 : decode cX6_stagger 1 = .ok (.i2l, 1) := by decide +kernel
theorem dX6_stagger_2 : decode cX6_stagger 2 = .ok (.lstore 5, 2) := by decide +kernel
theorem dX6_stagger_4 : decode cX6_stagger 4 = .ok (.iload_n 2, 1) := by decide +kernel
theorem dX6_stagger_5 : decode cX6_stagger 5 = .ok (.istore 7, 2) := by decide +kernel
theorem dX6_stagger_7 : decode cX6_stagger 7 = .ok (.iconst 0, 1) := by decide +kernel
theorem dX6_stagger_8 : decode cX6_stagger 8 = .ok (.istore 8, 2) := by decide +kernel
theorem dX6_stagger_10 : decode cX6_stagger 10 = .ok (.iload 8, 2) := by decide +kernel
theorem dX6_stagger_12 : decode cX6_stagger 12 = .ok (.bipush 120, 2) := by decide +kernel
theorem dX6_stagger_14 : decode cX6_stagger 14 = .ok (.if_icmp .ge 77, 3) := by decide +kernel
theorem dX6_stagger_17 : decode cX6_stagger 17 = .ok (.iload 8, 2) := by decide +kernel
theorem dX6_stagger_19 : decode cX6_stagger 19 = .ok (.aload 4, 2) := by decide +kernel
theorem dX6_stagger_21 : decode cX6_stagger 21 = .ok (.arraylength, 1) := by decide +kernel
theorem dX6_stagger_22 : decode cX6_stagger 22 = .ok (.if_icmp .ge 69, 3) := by decide +kernel
theorem dX6_stagger_25 : decode cX6_stagger 25 = .ok (.iload 8, 2) := by decide +kernel
theorem dX6_stagger_27 : decode cX6_stagger 27 = .ok (.iconst 1, 1) := by decide +kernel
theorem dX6_stagger_28 : decode cX6_stagger 28 = .ok (.if_icmp .lt 50, 3) := by decide +kernel
theorem dX6_stagger_31 : decode cX6_stagger 31 = .ok (.iload 8, 2) := by decide +kernel
theorem dX6_stagger_33 : decode cX6_stagger 33 = .ok (.iload_n 3, 1) := by decide +kernel
theorem dX6_stagger_34 : decode cX6_stagger 34 = .ok (.if_icmp .gt 44, 3) := by decide +kernel
theorem dX6_stagger_37 : decode cX6_stagger 37 = .ok (.lload 5, 2) := by decide +kernel
theorem dX6_stagger_39 : decode cX6_stagger 39 = .ok (.ldc2_w 92, 3) := by decide +kernel
theorem dX6_stagger_42 : decode cX6_stagger 42 = .ok (.lmul, 1) := by decide +kernel
theorem dX6_stagger_43 : decode cX6_stagger 43 = .ok (.ldc2_w 94, 3) := by decide +kernel
theorem dX6_stagger_46 : decode cX6_stagger 46 = .ok (.ladd, 1) := by decide +kernel
theorem dX6_stagger_47 : decode cX6_stagger 47 = .ok (.ldc2_w 96, 3) := by decide +kernel
theorem dX6_stagger_50 : decode cX6_stagger 50 = .ok (.lrem, 1) := by decide +kernel
theorem dX6_stagger_51 : decode cX6_stagger 51 = .ok (.lstore 5, 2) := by decide +kernel
theorem dX6_stagger_53 : decode cX6_stagger 53 = .ok (.aload_n 0, 1) := by decide +kernel
theorem dX6_stagger_54 : decode cX6_stagger 54 = .ok (.iload 7, 2) := by decide +kernel
theorem dX6_stagger_56 : decode cX6_stagger 56 = .ok (.lload 5, 2) := by decide +kernel
theorem dX6_stagger_58 : decode cX6_stagger 58 = .ok (.aload_n 0, 1) := by decide +kernel
theorem dX6_stagger_59 : decode cX6_stagger 59 = .ok (.getfield 9, 3) := by decide +kernel
theorem dX6_stagger_62 : decode cX6_stagger 62 = .ok (.iload 7, 2) := by decide +kernel
theorem dX6_stagger_64 : decode cX6_stagger 64 = .ok (.iaload, 1) := by decide +kernel
theorem dX6_stagger_65 : decode cX6_stagger 65 = .ok (.invokestatic 98, 3) := by decide +kernel
theorem dX6_stagger_68 : decode cX6_stagger 68 = .ok (.iconst 1, 1) := by decide +kernel
theorem dX6_stagger_69 : decode cX6_stagger 69 = .ok (.iadd, 1) := by decide +kernel
theorem dX6_stagger_70 : decode cX6_stagger 70 = .ok (.i2l, 1) := by decide +kernel
theorem dX6_stagger_71 : decode cX6_stagger 71 = .ok (.lrem, 1) := by decide +kernel
theorem dX6_stagger_72 : decode cX6_stagger 72 = .ok (.l2i, 1) := by decide +kernel
theorem dX6_stagger_73 : decode cX6_stagger 73 = .ok (.invokevirtual 104, 3) := by decide +kernel
theorem dX6_stagger_76 : decode cX6_stagger 76 = .ok (.istore 7, 2) := by decide +kernel
theorem dX6_stagger_78 : decode cX6_stagger 78 = .ok (.aload 4, 2) := by decide +kernel
theorem dX6_stagger_80 : decode cX6_stagger 80 = .ok (.iload 8, 2) := by decide +kernel
theorem dX6_stagger_82 : decode cX6_stagger 82 = .ok (.iload 7, 2) := by decide +kernel
theorem dX6_stagger_84 : decode cX6_stagger 84 = .ok (.iastore, 1) := by decide +kernel
theorem dX6_stagger_85 : decode cX6_stagger 85 = .ok (.iinc 8 1, 3) := by decide +kernel
theorem dX6_stagger_88 : decode cX6_stagger 88 = .ok (.goto (-78), 3) := by decide +kernel
theorem dX6_stagger_91 : decode cX6_stagger 91 = .ok (.return_, 1) := by decide +kernel
set_option maxRecDepth 20000 in
theorem T_X6_stagger_10 {Q : Option Value → ah_T → Prop} {h : ah_T} (hs : Sh h) (x3 : Int32) (a4 : Nat) (x5 : Int64) (x7 : Int32) (x8 : Int32) (hk_a4 : ah_k h a4 = 14) (ht : ((120 ≤ x8 → Q none h) ∧ (¬ 120 ≤ x8 → (((Int32.ofNat (ah_n h a4)) ≤ x8 → Q none h) ∧ (¬ (Int32.ofNat (ah_n h a4)) ≤ x8 → ((x8 < 1 → (vp_in x8 (ah_n h a4)) ∧ (∀ h5, h5 = ah_si h a4 (Int32.toNatClampNeg x8) x7 → Wp mX6_stagger Q 0 0 10 [some (.ref 29), none, none, some (.int x3), some (.ref a4), some (.long x5), none, some (.int x7), some (.int (x8 + 1))] [] h5)) ∧ (¬ x8 < 1 → ((x3 < x8 → (vp_in x8 (ah_n h a4)) ∧ (∀ h11, h11 = ah_si h a4 (Int32.toNatClampNeg x8) x7 → Wp mX6_stagger Q 0 0 10 [some (.ref 29), none, none, some (.int x3), some (.ref a4), some (.long x5), none, some (.int x7), some (.int (x8 + 1))] [] h11)) ∧ (¬ x3 < x8 → (vp_in x7 (ah_n h 30)) ∧ (¬ (((f_J6_bitCount_0f7a4 (ah_i h 30 (Int32.toNatClampNeg x7))) + 1)).toInt64 = 0) ∧ (Mt mX6_leave [.ref 29, .int x7, .int ((((((x5 * (1103 : Int64)) + (12345 : Int64)) - ((x5 * (1103 : Int64)) + (12345 : Int64)) / (1000003 : Int64) * (1000003 : Int64)) - (((x5 * (1103 : Int64)) + (12345 : Int64)) - ((x5 * (1103 : Int64)) + (12345 : Int64)) / (1000003 : Int64) * (1000003 : Int64)) / (((f_J6_bitCount_0f7a4 (ah_i h 30 (Int32.toNatClampNeg x7))) + 1)).toInt64 * (((f_J6_bitCount_0f7a4 (ah_i h 30 (Int32.toNatClampNeg x7))) + 1)).toInt64)).toInt32)] h (ab_qi fun v19 h17 => Sh h17 ∧ ah_k h17 a4 = 14 ∧ (vp_in x8 (ah_n h17 a4)) ∧ (∀ h22, h22 = ah_si h17 a4 (Int32.toNatClampNeg x8) v19 → Wp mX6_stagger Q 0 0 10 [some (.ref 29), none, none, some (.int x3), some (.ref a4), some (.long (((x5 * (1103 : Int64)) + (12345 : Int64)) - ((x5 * (1103 : Int64)) + (12345 : Int64)) / (1000003 : Int64) * (1000003 : Int64))), none, some (.int v19), some (.int (x8 + 1))] [] h22)))))))))))) : Wp mX6_stagger Q 0 0 10 [some (.ref 29), none, none, some (.int x3), some (.ref a4), some (.long x5), none, some (.int x7), some (.int x8)] [] h := by
  refine ab_iload (i := 8) dX6_stagger_10 rfl ?_
  refine ab_bipush (v := 120) dX6_stagger_12 (by decide) ?_
  refine ab_icmp_ge (tgt := 91) dX6_stagger_14 (by decide) (fun c1 => ?_) (fun c1 => ?_)
  · have ht := ht.1 c1
    exact ab_vret rfl dX6_stagger_91 (Nat.le_of_ble_eq_true rfl) (Nat.le_of_ble_eq_true rfl) ht
  · have ht := ht.2 c1
    refine ab_iload (i := 8) dX6_stagger_17 rfl ?_
    refine ab_aload (i := 4) dX6_stagger_19 rfl ?_
    refine ab_alen 14 (by decide) hk_a4 rfl dX6_stagger_21 ?_
    refine ab_icmp_ge (tgt := 91) dX6_stagger_22 (by decide) (fun c2 => ?_) (fun c2 => ?_)
    · have ht := ht.1 c2
      exact ab_vret rfl dX6_stagger_91 (Nat.le_of_ble_eq_true rfl) (Nat.le_of_ble_eq_true rfl) ht
    · have ht := ht.2 c2
      refine ab_iload (i := 8) dX6_stagger_25 rfl ?_
      refine ab_iconst (v := 1) dX6_stagger_27 (by decide) ?_
      refine ab_icmp_lt (tgt := 78) dX6_stagger_28 (by decide) (fun c3 => ?_) (fun c3 => ?_)
      · have ht := ht.1 c3
        refine ab_aload (i := 4) dX6_stagger_78 rfl ?_
        refine ab_iload (i := 8) dX6_stagger_80 rfl ?_
        refine ab_iload (i := 7) dX6_stagger_82 rfl ?_
        obtain ⟨hc4, ht⟩ := ht
        refine ab_iast hk_a4 hc4 dX6_stagger_84 ?_
        refine Wp.nm fun h5 e6 => ?_
        have ht := ht h5 e6
        have hs7 : Sh h5 := by rw [e6]; exact sh_si hs
        have hk8 : ah_k h5 a4 = 14 := by rw [e6]; exact hk_a4
        refine ab_iinc (i := 8) (x := x8) (v := (x8 + 1)) (L' := [some (.ref 29), none, none, some (.int x3), some (.ref a4), some (.long x5), none, some (.int x7), some (.int (x8 + 1))]) dX6_stagger_85 rfl rfl (by exact (Nat.le_of_ble_eq_true rfl)) rfl rfl ?_
        refine ab_goto (tgt := 10) dX6_stagger_88 (by decide) ?_
        exact Wp.fewer (L' := [some (.ref 29), none, none, some (.int x3), some (.ref a4), some (.long x5), none, some (.int x7), some (.int (x8 + 1))]) (show ab_leL _ _ from ⟨rfl, ⟨rfl, ⟨rfl, ⟨rfl, ⟨rfl, ⟨rfl, trivial⟩⟩⟩⟩⟩⟩) ht
      · have ht := ht.2 c3
        refine ab_iload (i := 8) dX6_stagger_31 rfl ?_
        refine ab_iload_n (i := 3) dX6_stagger_33 rfl rfl ?_
        refine ab_icmp_gt (tgt := 78) dX6_stagger_34 (by decide) (fun c9 => ?_) (fun c9 => ?_)
        · have ht := ht.1 c9
          refine ab_aload (i := 4) dX6_stagger_78 rfl ?_
          refine ab_iload (i := 8) dX6_stagger_80 rfl ?_
          refine ab_iload (i := 7) dX6_stagger_82 rfl ?_
          obtain ⟨hc10, ht⟩ := ht
          refine ab_iast hk_a4 hc10 dX6_stagger_84 ?_
          refine Wp.nm fun h11 e12 => ?_
          have ht := ht h11 e12
          have hs13 : Sh h11 := by rw [e12]; exact sh_si hs
          have hk14 : ah_k h11 a4 = 14 := by rw [e12]; exact hk_a4
          refine ab_iinc (i := 8) (x := x8) (v := (x8 + 1)) (L' := [some (.ref 29), none, none, some (.int x3), some (.ref a4), some (.long x5), none, some (.int x7), some (.int (x8 + 1))]) dX6_stagger_85 rfl rfl (by exact (Nat.le_of_ble_eq_true rfl)) rfl rfl ?_
          refine ab_goto (tgt := 10) dX6_stagger_88 (by decide) ?_
          exact Wp.fewer (L' := [some (.ref 29), none, none, some (.int x3), some (.ref a4), some (.long x5), none, some (.int x7), some (.int (x8 + 1))]) (show ab_leL _ _ from ⟨rfl, ⟨rfl, ⟨rfl, ⟨rfl, ⟨rfl, ⟨rfl, trivial⟩⟩⟩⟩⟩⟩) ht
        · have ht := ht.2 c9
          refine ab_lload (i := 5) dX6_stagger_37 rfl ?_
          refine ab_ldc2 (v := 1103) (tb_6 (List.mem_of_getElem? (i := 170) (by decide +kernel)) rfl) dX6_stagger_39 ?_
          refine ab_lmul dX6_stagger_42 ?_
          refine ab_ldc2 (v := 12345) (tb_6 (List.mem_of_getElem? (i := 171) (by decide +kernel)) rfl) dX6_stagger_43 ?_
          refine ab_ladd dX6_stagger_46 ?_
          refine ab_ldc2 (v := 1000003) (tb_6 (List.mem_of_getElem? (i := 172) (by decide +kernel)) rfl) dX6_stagger_47 ?_
          refine ab_lrem dX6_stagger_50 (by decide) ?_
          refine ab_lstore (i := 5) (L' := [some (.ref 29), none, none, some (.int x3), some (.ref a4), some (.long (((x5 * (1103 : Int64)) + (12345 : Int64)) - ((x5 * (1103 : Int64)) + (12345 : Int64)) / (1000003 : Int64) * (1000003 : Int64))), none, some (.int x7), some (.int x8)]) dX6_stagger_51 (by exact (Nat.le_of_ble_eq_true rfl)) rfl rfl ?_
          refine ab_aload_n (i := 0) dX6_stagger_53 rfl rfl ?_
          refine ab_iload (i := 7) dX6_stagger_54 rfl ?_
          refine ab_lload (i := 5) dX6_stagger_56 rfl ?_
          refine ab_aload_n (i := 0) dX6_stagger_58 rfl rfl ?_
          refine ab_getR (b := 30) f_X6_9 rfl (sh_k hs 29 6 (by decide) rfl) (sh_r hs 34 rfl) dX6_stagger_59 ?_
          refine ab_iload (i := 7) dX6_stagger_62 rfl ?_
          obtain ⟨hc15, ht⟩ := ht
          refine ab_iald (sh_k hs 30 14 (by decide) rfl) hc15 dX6_stagger_64 ?_
          refine ab_callS (Q' := fun r h' => r = some (.int (f_J6_bitCount_0f7a4 (ah_i h 30 (Int32.toNatClampNeg x7)))) ∧ h = h') (As := [.int (ah_i h 30 (Int32.toNatClampNeg x7))]) (c_J6_bitCount_0f7a4 hs (ah_i h 30 (Int32.toNatClampNeg x7)) ⟨rfl, rfl⟩) (Y_J6_bitCount_0f7a4) l_X6_98 st_J6_bitCount_0f7a4 rfl ⟨(Nat.le_of_ble_eq_true rfl), (Nat.le_of_ble_eq_true rfl), (Nat.le_of_ble_eq_true rfl), (Nat.le_of_ble_eq_true rfl)⟩ dX6_stagger_65 ?_
          rintro _ _ ⟨rfl, rfl⟩
          refine ab_iconst (v := 1) dX6_stagger_68 (by decide) ?_
          refine ab_iadd dX6_stagger_69 ?_
          refine ab_i2l dX6_stagger_70 ?_
          obtain ⟨hc16, ht⟩ := ht
          refine ab_lrem dX6_stagger_71 hc16 ?_
          refine ab_l2i dX6_stagger_72 ?_
          refine ab_callV (b := 29) (As := [.int x7, .int ((((((x5 * (1103 : Int64)) + (12345 : Int64)) - ((x5 * (1103 : Int64)) + (12345 : Int64)) / (1000003 : Int64) * (1000003 : Int64)) - (((x5 * (1103 : Int64)) + (12345 : Int64)) - ((x5 * (1103 : Int64)) + (12345 : Int64)) / (1000003 : Int64) * (1000003 : Int64)) / (((f_J6_bitCount_0f7a4 (ah_i h 30 (Int32.toNatClampNeg x7))) + 1)).toInt64 * (((f_J6_bitCount_0f7a4 (ah_i h 30 (Int32.toNatClampNeg x7))) + 1)).toInt64)).toInt32)]) ht (Y_X6_leave) l_X6_104 in_X6_leave se_X6_leave (sh_k hs 29 6 (by decide) rfl) (by decide) rfl rfl ⟨(Nat.le_of_ble_eq_true rfl), (Nat.le_of_ble_eq_true rfl), (Nat.le_of_ble_eq_true rfl), (Nat.le_of_ble_eq_true rfl)⟩ dX6_stagger_73 ?_
          rintro _ h17 ⟨v19, rfl, hs18, hk20, ht⟩
          refine ab_istore (i := 7) (L' := [some (.ref 29), none, none, some (.int x3), some (.ref a4), some (.long (((x5 * (1103 : Int64)) + (12345 : Int64)) - ((x5 * (1103 : Int64)) + (12345 : Int64)) / (1000003 : Int64) * (1000003 : Int64))), none, some (.int v19), some (.int x8)]) dX6_stagger_76 (by exact (Nat.le_of_ble_eq_true rfl)) rfl rfl ?_
          refine ab_aload (i := 4) dX6_stagger_78 rfl ?_
          refine ab_iload (i := 8) dX6_stagger_80 rfl ?_
          refine ab_iload (i := 7) dX6_stagger_82 rfl ?_
          obtain ⟨hc21, ht⟩ := ht
          refine ab_iast hk20 hc21 dX6_stagger_84 ?_
          refine Wp.nm fun h22 e23 => ?_
          have ht := ht h22 e23
          have hs24 : Sh h22 := by rw [e23]; exact sh_si hs18
          have hk25 : ah_k h22 a4 = 14 := by rw [e23]; exact hk20
          refine ab_iinc (i := 8) (x := x8) (v := (x8 + 1)) (L' := [some (.ref 29), none, none, some (.int x3), some (.ref a4), some (.long (((x5 * (1103 : Int64)) + (12345 : Int64)) - ((x5 * (1103 : Int64)) + (12345 : Int64)) / (1000003 : Int64) * (1000003 : Int64))), none, some (.int v19), some (.int (x8 + 1))]) dX6_stagger_85 rfl rfl (by exact (Nat.le_of_ble_eq_true rfl)) rfl rfl ?_
          refine ab_goto (tgt := 10) dX6_stagger_88 (by decide) ?_
          exact Wp.fewer (L' := [some (.ref 29), none, none, some (.int x3), some (.ref a4), some (.long (((x5 * (1103 : Int64)) + (12345 : Int64)) - ((x5 * (1103 : Int64)) + (12345 : Int64)) / (1000003 : Int64) * (1000003 : Int64))), none, some (.int v19), some (.int (x8 + 1))]) (show ab_leL _ _ from ⟨rfl, ⟨rfl, ⟨rfl, ⟨rfl, ⟨rfl, ⟨rfl, trivial⟩⟩⟩⟩⟩⟩) ht
set_option maxRecDepth 20000 in
theorem T_X6_stagger {Q : Option Value → ah_T → Prop} {h : ah_T} (hs : Sh h) (x1 : Int32) (x2 : Int32) (x3 : Int32) (a4 : Nat) (hk_a4 : ah_k h a4 = 14) (ht : Wp mX6_stagger Q 0 0 10 [some (.ref 29), none, none, some (.int x3), some (.ref a4), some (.long ((x1).toInt64)), none, some (.int x2), some (.int 0)] [] h) : Mt mX6_stagger [.ref 29, .int x1, .int x2, .int x3, .ref a4] h Q := by
  refine Mt.ofWp rfl (by exact (Nat.le_of_ble_eq_true rfl)) (Wp.fewer (L' := [some (.ref 29), some (.int x1), some (.int x2), some (.int x3), some (.ref a4), none, none, none, none]) (show ab_leL _ _ from ⟨rfl, ⟨rfl, ⟨rfl, ⟨rfl, ⟨rfl, trivial⟩⟩⟩⟩⟩) ?_)
  refine ab_iload_n (i := 1) dX6_stagger_0 rfl rfl ?_
  refine ab_i2l dX6_stagger_1 ?_
  refine ab_lstore (i := 5) (L' := [some (.ref 29), some (.int x1), some (.int x2), some (.int x3), some (.ref a4), some (.long ((x1).toInt64)), none, none, none]) dX6_stagger_2 (by exact (Nat.le_of_ble_eq_true rfl)) rfl rfl ?_
  refine ab_iload_n (i := 2) dX6_stagger_4 rfl rfl ?_
  refine ab_istore (i := 7) (L' := [some (.ref 29), some (.int x1), some (.int x2), some (.int x3), some (.ref a4), some (.long ((x1).toInt64)), none, some (.int x2), none]) dX6_stagger_5 (by exact (Nat.le_of_ble_eq_true rfl)) rfl rfl ?_
  refine ab_iconst (v := 0) dX6_stagger_7 (by decide) ?_
  refine ab_istore (i := 8) (L' := [some (.ref 29), some (.int x1), some (.int x2), some (.int x3), some (.ref a4), some (.long ((x1).toInt64)), none, some (.int x2), some (.int 0)]) dX6_stagger_8 (by exact (Nat.le_of_ble_eq_true rfl)) rfl rfl ?_
  exact Wp.fewer (L' := [some (.ref 29), none, none, some (.int x3), some (.ref a4), some (.long ((x1).toInt64)), none, some (.int x2), some (.int 0)]) (show ab_leL _ _ from ⟨rfl, ⟨rfl, ⟨rfl, ⟨rfl, ⟨rfl, ⟨rfl, trivial⟩⟩⟩⟩⟩⟩) ht
theorem dX6_leave_0 : decode cX6_leave 0 = .ok (.iload_n 2, 1) := by decide +kernel
theorem dX6_leave_1 : decode cX6_leave 1 = .ok (.istore_n 3, 1) := by decide +kernel
theorem dX6_leave_2 : decode cX6_leave 2 = .ok (.iconst 0, 1) := by decide +kernel
theorem dX6_leave_3 : decode cX6_leave 3 = .ok (.istore 4, 2) := by decide +kernel
theorem dX6_leave_5 : decode cX6_leave 5 = .ok (.iload 4, 2) := by decide +kernel
theorem dX6_leave_7 : decode cX6_leave 7 = .ok (.aload_n 0, 1) := by decide +kernel
theorem dX6_leave_8 : decode cX6_leave 8 = .ok (.getfield 53, 3) := by decide +kernel
theorem dX6_leave_11 : decode cX6_leave 11 = .ok (.getfield 63, 3) := by decide +kernel
theorem dX6_leave_14 : decode cX6_leave 14 = .ok (.getfield 69, 3) := by decide +kernel
theorem dX6_leave_17 : decode cX6_leave 17 = .ok (.if_icmp .ge 76, 3) := by decide +kernel
theorem dX6_leave_20 : decode cX6_leave 20 = .ok (.iload_n 3, 1) := by decide +kernel
theorem dX6_leave_21 : decode cX6_leave 21 = .ok (.ifCond .le 72, 3) := by decide +kernel
theorem dX6_leave_24 : decode cX6_leave 24 = .ok (.aload_n 0, 1) := by decide +kernel
theorem dX6_leave_25 : decode cX6_leave 25 = .ok (.getfield 53, 3) := by decide +kernel
theorem dX6_leave_28 : decode cX6_leave 28 = .ok (.getfield 63, 3) := by decide +kernel
theorem dX6_leave_31 : decode cX6_leave 31 = .ok (.iload 4, 2) := by decide +kernel
theorem dX6_leave_33 : decode cX6_leave 33 = .ok (.iconst 0, 1) := by decide +kernel
theorem dX6_leave_34 : decode cX6_leave 34 = .ok (.invokevirtual 74, 3) := by decide +kernel
theorem dX6_leave_37 : decode cX6_leave 37 = .ok (.istore 5, 2) := by decide +kernel
theorem dX6_leave_39 : decode cX6_leave 39 = .ok (.aload_n 0, 1) := by decide +kernel
theorem dX6_leave_40 : decode cX6_leave 40 = .ok (.getfield 53, 3) := by decide +kernel
theorem dX6_leave_43 : decode cX6_leave 43 = .ok (.getfield 63, 3) := by decide +kernel
theorem dX6_leave_46 : decode cX6_leave 46 = .ok (.iload 4, 2) := by decide +kernel
theorem dX6_leave_48 : decode cX6_leave 48 = .ok (.iconst 1, 1) := by decide +kernel
theorem dX6_leave_49 : decode cX6_leave 49 = .ok (.invokevirtual 74, 3) := by decide +kernel
theorem dX6_leave_52 : decode cX6_leave 52 = .ok (.istore 6, 2) := by decide +kernel
theorem dX6_leave_54 : decode cX6_leave 54 = .ok (.iload 5, 2) := by decide +kernel
theorem dX6_leave_56 : decode cX6_leave 56 = .ok (.iload_n 1, 1) := by decide +kernel
theorem dX6_leave_57 : decode cX6_leave 57 = .ok (.if_icmp .eq 9, 3) := by decide +kernel
theorem dX6_leave_60 : decode cX6_leave 60 = .ok (.iload 6, 2) := by decide +kernel
theorem dX6_leave_62 : decode cX6_leave 62 = .ok (.iload_n 1, 1) := by decide +kernel
theorem dX6_leave_63 : decode cX6_leave 63 = .ok (.if_icmp .ne 24, 3) := by decide +kernel
theorem dX6_leave_66 : decode cX6_leave 66 = .ok (.iinc 3 (-1), 3) := by decide +kernel
theorem dX6_leave_69 : decode cX6_leave 69 = .ok (.iload_n 3, 1) := by decide +kernel
theorem dX6_leave_70 : decode cX6_leave 70 = .ok (.ifCond .ne 17, 3) := by decide +kernel
theorem dX6_leave_73 : decode cX6_leave 73 = .ok (.iload 5, 2) := by decide +kernel
theorem dX6_leave_75 : decode cX6_leave 75 = .ok (.iload_n 1, 1) := by decide +kernel
theorem dX6_leave_76 : decode cX6_leave 76 = .ok (.if_icmp .ne 8, 3) := by decide +kernel
theorem dX6_leave_79 : decode cX6_leave 79 = .ok (.iload 6, 2) := by decide +kernel
theorem dX6_leave_81 : decode cX6_leave 81 = .ok (.goto 5, 3) := by decide +kernel
theorem dX6_leave_84 : decode cX6_leave 84 = .ok (.iload 5, 2) := by decide +kernel
theorem dX6_leave_86 : decode cX6_leave 86 = .ok (.ireturn, 1) := by decide +kernel
theorem dX6_leave_87 : decode cX6_leave 87 = .ok (.iinc 4 1, 3) := by decide +kernel
theorem dX6_leave_90 : decode cX6_leave 90 = .ok (.goto (-85), 3) := by decide +kernel
theorem dX6_leave_93 : decode cX6_leave 93 = .ok (.iload_n 1, 1) := by decide +kernel
theorem dX6_leave_94 : decode cX6_leave 94 = .ok (.ireturn, 1) := by decide +kernel
set_option maxRecDepth 20000 in
theorem T_X6_leave_5 {Q : Option Value → ah_T → Prop} {h : ah_T} (hs : Sh h) (x1 : Int32) (x3 : Int32) (x4 : Int32) (ht : (((ah_i h 2 3) ≤ x4 → Q (some (.int x1)) h) ∧ (¬ (ah_i h 2 3) ≤ x4 → ((x3 ≤ 0 → Q (some (.int x1)) h) ∧ (¬ x3 ≤ 0 → (Mt mX7_get [.ref 2, .int x4, .int 0] h (ab_qi fun v5 h3 => Sh h3 ∧ (Mt mX7_get [.ref 2, .int x4, .int 1] h3 (ab_qi fun v8 h6 => Sh h6 ∧ ((v5 = x1 → ((¬ (x3 + (-1)) = 0 → Wp mX6_leave Q 0 0 5 [some (.ref 29), some (.int x1), none, some (.int (x3 + (-1))), some (.int (x4 + 1)), none, none] [] h6) ∧ ((x3 + (-1)) = 0 → ((¬ v5 = x1 → Q (some (.int v5)) h6) ∧ (v5 = x1 → Q (some (.int v8)) h6))))) ∧ (¬ v5 = x1 → ((¬ v8 = x1 → Wp mX6_leave Q 0 0 5 [some (.ref 29), some (.int x1), none, some (.int x3), some (.int (x4 + 1)), none, none] [] h6) ∧ (v8 = x1 → ((¬ (x3 + (-1)) = 0 → Wp mX6_leave Q 0 0 5 [some (.ref 29), some (.int x1), none, some (.int (x3 + (-1))), some (.int (x4 + 1)), none, none] [] h6) ∧ ((x3 + (-1)) = 0 → ((¬ v5 = x1 → Q (some (.int v5)) h6) ∧ (v5 = x1 → Q (some (.int v8)) h6))))))))))))))))) : Wp mX6_leave Q 0 0 5 [some (.ref 29), some (.int x1), none, some (.int x3), some (.int x4), none, none] [] h := by
  refine ab_iload (i := 4) dX6_leave_5 rfl ?_
  refine ab_aload_n (i := 0) dX6_leave_7 rfl rfl ?_
  refine ab_getR (b := 1) f_X6_53 rfl (sh_k hs 29 6 (by decide) rfl) (sh_r hs 37 rfl) dX6_leave_8 ?_
  refine ab_getR (b := 2) f_X6_63 rfl (sh_k hs 1 10 (by decide) rfl) (sh_r hs 13 rfl) dX6_leave_11 ?_
  refine ab_getI f_X6_69 rfl (sh_k hs 2 7 (by decide) rfl) dX6_leave_14 ?_
  refine ab_icmp_ge (tgt := 93) dX6_leave_17 (by decide) (fun c1 => ?_) (fun c1 => ?_)
  · have ht := ht.1 c1
    refine ab_iload_n (i := 1) dX6_leave_93 rfl rfl ?_
    exact ab_iret rfl dX6_leave_94 (Nat.le_of_ble_eq_true rfl) (Nat.le_of_ble_eq_true rfl) ht
  · have ht := ht.2 c1
    refine ab_iload_n (i := 3) dX6_leave_20 rfl rfl ?_
    refine ab_if_le (tgt := 93) dX6_leave_21 (by decide) (fun c2 => ?_) (fun c2 => ?_)
    · have ht := ht.1 c2
      refine ab_iload_n (i := 1) dX6_leave_93 rfl rfl ?_
      exact ab_iret rfl dX6_leave_94 (Nat.le_of_ble_eq_true rfl) (Nat.le_of_ble_eq_true rfl) ht
    · have ht := ht.2 c2
      refine ab_aload_n (i := 0) dX6_leave_24 rfl rfl ?_
      refine ab_getR (b := 1) f_X6_53 rfl (sh_k hs 29 6 (by decide) rfl) (sh_r hs 37 rfl) dX6_leave_25 ?_
      refine ab_getR (b := 2) f_X6_63 rfl (sh_k hs 1 10 (by decide) rfl) (sh_r hs 13 rfl) dX6_leave_28 ?_
      refine ab_iload (i := 4) dX6_leave_31 rfl ?_
      refine ab_iconst (v := 0) dX6_leave_33 (by decide) ?_
      refine ab_callV (b := 2) (As := [.int x4, .int 0]) ht (Y_X7_get) l_X6_74 in_X7_get se_X7_get (sh_k hs 2 7 (by decide) rfl) (by decide) rfl rfl ⟨(Nat.le_of_ble_eq_true rfl), (Nat.le_of_ble_eq_true rfl), (Nat.le_of_ble_eq_true rfl), (Nat.le_of_ble_eq_true rfl)⟩ dX6_leave_34 ?_
      rintro _ h3 ⟨v5, rfl, hs4, ht⟩
      refine ab_istore (i := 5) (L' := [some (.ref 29), some (.int x1), none, some (.int x3), some (.int x4), some (.int v5), none]) dX6_leave_37 (by exact (Nat.le_of_ble_eq_true rfl)) rfl rfl ?_
      refine ab_aload_n (i := 0) dX6_leave_39 rfl rfl ?_
      refine ab_getR (b := 1) f_X6_53 rfl (sh_k hs4 29 6 (by decide) rfl) (sh_r hs4 37 rfl) dX6_leave_40 ?_
      refine ab_getR (b := 2) f_X6_63 rfl (sh_k hs4 1 10 (by decide) rfl) (sh_r hs4 13 rfl) dX6_leave_43 ?_
      refine ab_iload (i := 4) dX6_leave_46 rfl ?_
      refine ab_iconst (v := 1) dX6_leave_48 (by decide) ?_
      refine ab_callV (b := 2) (As := [.int x4, .int 1]) ht (Y_X7_get) l_X6_74 in_X7_get se_X7_get (sh_k hs4 2 7 (by decide) rfl) (by decide) rfl rfl ⟨(Nat.le_of_ble_eq_true rfl), (Nat.le_of_ble_eq_true rfl), (Nat.le_of_ble_eq_true rfl), (Nat.le_of_ble_eq_true rfl)⟩ dX6_leave_49 ?_
      rintro _ h6 ⟨v8, rfl, hs7, ht⟩
      refine ab_istore (i := 6) (L' := [some (.ref 29), some (.int x1), none, some (.int x3), some (.int x4), some (.int v5), some (.int v8)]) dX6_leave_52 (by exact (Nat.le_of_ble_eq_true rfl)) rfl rfl ?_
      refine ab_iload (i := 5) dX6_leave_54 rfl ?_
      refine ab_iload_n (i := 1) dX6_leave_56 rfl rfl ?_
      refine ab_icmp_eq (tgt := 66) dX6_leave_57 (by decide) (fun c9 => ?_) (fun c9 => ?_)
      · have ht := ht.1 c9
        refine ab_iinc (i := 3) (x := x3) (v := (x3 + (-1))) (L' := [some (.ref 29), some (.int x1), none, some (.int (x3 + (-1))), some (.int x4), some (.int v5), some (.int v8)]) dX6_leave_66 rfl rfl (by exact (Nat.le_of_ble_eq_true rfl)) rfl rfl ?_
        refine ab_iload_n (i := 3) dX6_leave_69 rfl rfl ?_
        refine ab_if_ne (tgt := 87) dX6_leave_70 (by decide) (fun c10 => ?_) (fun c10 => ?_)
        · have ht := ht.1 c10
          refine ab_iinc (i := 4) (x := x4) (v := (x4 + 1)) (L' := [some (.ref 29), some (.int x1), none, some (.int (x3 + (-1))), some (.int (x4 + 1)), some (.int v5), some (.int v8)]) dX6_leave_87 rfl rfl (by exact (Nat.le_of_ble_eq_true rfl)) rfl rfl ?_
          refine ab_goto (tgt := 5) dX6_leave_90 (by decide) ?_
          exact Wp.fewer (L' := [some (.ref 29), some (.int x1), none, some (.int (x3 + (-1))), some (.int (x4 + 1)), none, none]) (show ab_leL _ _ from ⟨rfl, ⟨rfl, ⟨rfl, ⟨rfl, trivial⟩⟩⟩⟩) ht
        · have ht := ht.2 c10
          refine ab_iload (i := 5) dX6_leave_73 rfl ?_
          refine ab_iload_n (i := 1) dX6_leave_75 rfl rfl ?_
          refine ab_icmp_ne (tgt := 84) dX6_leave_76 (by decide) (fun c11 => ?_) (fun c11 => ?_)
          · have ht := ht.1 c11
            refine ab_iload (i := 5) dX6_leave_84 rfl ?_
            exact ab_iret rfl dX6_leave_86 (Nat.le_of_ble_eq_true rfl) (Nat.le_of_ble_eq_true rfl) ht
          · have ht := ht.2 c11
            refine ab_iload (i := 6) dX6_leave_79 rfl ?_
            refine ab_goto (tgt := 86) dX6_leave_81 (by decide) ?_
            exact ab_iret rfl dX6_leave_86 (Nat.le_of_ble_eq_true rfl) (Nat.le_of_ble_eq_true rfl) ht
      · have ht := ht.2 c9
        refine ab_iload (i := 6) dX6_leave_60 rfl ?_
        refine ab_iload_n (i := 1) dX6_leave_62 rfl rfl ?_
        refine ab_icmp_ne (tgt := 87) dX6_leave_63 (by decide) (fun c12 => ?_) (fun c12 => ?_)
        · have ht := ht.1 c12
          refine ab_iinc (i := 4) (x := x4) (v := (x4 + 1)) (L' := [some (.ref 29), some (.int x1), none, some (.int x3), some (.int (x4 + 1)), some (.int v5), some (.int v8)]) dX6_leave_87 rfl rfl (by exact (Nat.le_of_ble_eq_true rfl)) rfl rfl ?_
          refine ab_goto (tgt := 5) dX6_leave_90 (by decide) ?_
          exact Wp.fewer (L' := [some (.ref 29), some (.int x1), none, some (.int x3), some (.int (x4 + 1)), none, none]) (show ab_leL _ _ from ⟨rfl, ⟨rfl, ⟨rfl, ⟨rfl, trivial⟩⟩⟩⟩) ht
        · have ht := ht.2 c12
          refine ab_iinc (i := 3) (x := x3) (v := (x3 + (-1))) (L' := [some (.ref 29), some (.int x1), none, some (.int (x3 + (-1))), some (.int x4), some (.int v5), some (.int v8)]) dX6_leave_66 rfl rfl (by exact (Nat.le_of_ble_eq_true rfl)) rfl rfl ?_
          refine ab_iload_n (i := 3) dX6_leave_69 rfl rfl ?_
          refine ab_if_ne (tgt := 87) dX6_leave_70 (by decide) (fun c13 => ?_) (fun c13 => ?_)
          · have ht := ht.1 c13
            refine ab_iinc (i := 4) (x := x4) (v := (x4 + 1)) (L' := [some (.ref 29), some (.int x1), none, some (.int (x3 + (-1))), some (.int (x4 + 1)), some (.int v5), some (.int v8)]) dX6_leave_87 rfl rfl (by exact (Nat.le_of_ble_eq_true rfl)) rfl rfl ?_
            refine ab_goto (tgt := 5) dX6_leave_90 (by decide) ?_
            exact Wp.fewer (L' := [some (.ref 29), some (.int x1), none, some (.int (x3 + (-1))), some (.int (x4 + 1)), none, none]) (show ab_leL _ _ from ⟨rfl, ⟨rfl, ⟨rfl, ⟨rfl, trivial⟩⟩⟩⟩) ht
          · have ht := ht.2 c13
            refine ab_iload (i := 5) dX6_leave_73 rfl ?_
            refine ab_iload_n (i := 1) dX6_leave_75 rfl rfl ?_
            refine ab_icmp_ne (tgt := 84) dX6_leave_76 (by decide) (fun c14 => ?_) (fun c14 => ?_)
            · have ht := ht.1 c14
              refine ab_iload (i := 5) dX6_leave_84 rfl ?_
              exact ab_iret rfl dX6_leave_86 (Nat.le_of_ble_eq_true rfl) (Nat.le_of_ble_eq_true rfl) ht
            · have ht := ht.2 c14
              refine ab_iload (i := 6) dX6_leave_79 rfl ?_
              refine ab_goto (tgt := 86) dX6_leave_81 (by decide) ?_
              exact ab_iret rfl dX6_leave_86 (Nat.le_of_ble_eq_true rfl) (Nat.le_of_ble_eq_true rfl) ht
set_option maxRecDepth 20000 in
theorem T_X6_leave {Q : Option Value → ah_T → Prop} {h : ah_T} (hs : Sh h) (x1 : Int32) (x2 : Int32) (ht : Wp mX6_leave Q 0 0 5 [some (.ref 29), some (.int x1), none, some (.int x2), some (.int 0), none, none] [] h) : Mt mX6_leave [.ref 29, .int x1, .int x2] h Q := by
  refine Mt.ofWp rfl (by exact (Nat.le_of_ble_eq_true rfl)) (Wp.fewer (L' := [some (.ref 29), some (.int x1), some (.int x2), none, none, none, none]) (show ab_leL _ _ from ⟨rfl, ⟨rfl, ⟨rfl, trivial⟩⟩⟩) ?_)
  refine ab_iload_n (i := 2) dX6_leave_0 rfl rfl ?_
  refine ab_istore_n (i := 3) (L' := [some (.ref 29), some (.int x1), some (.int x2), some (.int x2), none, none, none]) dX6_leave_1 rfl (by exact (Nat.le_of_ble_eq_true rfl)) rfl rfl ?_
  refine ab_iconst (v := 0) dX6_leave_2 (by decide) ?_
  refine ab_istore (i := 4) (L' := [some (.ref 29), some (.int x1), some (.int x2), some (.int x2), some (.int 0), none, none]) dX6_leave_3 (by exact (Nat.le_of_ble_eq_true rfl)) rfl rfl ?_
  exact Wp.fewer (L' := [some (.ref 29), some (.int x1), none, some (.int x2), some (.int 0), none, none]) (show ab_leL _ _ from ⟨rfl, ⟨rfl, ⟨rfl, ⟨rfl, trivial⟩⟩⟩⟩) ht
theorem dX6_findRound_0 : decode cX6_findRound 0 = .ok (.aload_n 0, 1) := by decide +kernel
theorem dX6_findRound_1 : decode cX6_findRound 1 = .ok (.getfield 50, 3) := by decide +kernel
theorem dX6_findRound_4 : decode cX6_findRound 4 = .ok (.iload_n 1, 1) := by decide +kernel
theorem dX6_findRound_5 : decode cX6_findRound 5 = .ok (.if_icmp .ne 4, 3) := by decide +kernel
theorem dX6_findRound_8 : decode cX6_findRound 8 = .ok (.return_, 1) := by decide +kernel
theorem dX6_findRound_9 : decode cX6_findRound 9 = .ok (.aload_n 0, 1) := by decide +kernel
theorem dX6_findRound_10 : decode cX6_findRound 10 = .ok (.iload_n 1, 1) := by decide +kernel
theorem dX6_findRound_11 : decode cX6_findRound 11 = .ok (.putfield 50, 3) := by decide +kernel
theorem dX6_findRound_14 : decode cX6_findRound 14 = .ok (.aload_n 0, 1) := by decide +kernel
theorem dX6_findRound_15 : decode cX6_findRound 15 = .ok (.iconst (-1), 1) := by decide +kernel
theorem dX6_findRound_16 : decode cX6_findRound 16 = .ok (.putfield 18, 3) := by decide +kernel
theorem dX6_findRound_19 : decode cX6_findRound 19 = .ok (.iconst 0, 1) := by decide +kernel
theorem dX6_findRound_20 : decode cX6_findRound 20 = .ok (.istore_n 2, 1) := by decide +kernel
theorem dX6_findRound_21 : decode cX6_findRound 21 = .ok (.iload_n 2, 1) := by decide +kernel
theorem dX6_findRound_22 : decode cX6_findRound 22 = .ok (.aload_n 0, 1) := by decide +kernel
theorem dX6_findRound_23 : decode cX6_findRound 23 = .ok (.getfield 53, 3) := by decide +kernel
theorem dX6_findRound_26 : decode cX6_findRound 26 = .ok (.getfield 107, 3) := by decide +kernel
theorem dX6_findRound_29 : decode cX6_findRound 29 = .ok (.getfield 69, 3) := by decide +kernel
theorem dX6_findRound_32 : decode cX6_findRound 32 = .ok (.if_icmp .ge 31, 3) := by decide +kernel
theorem dX6_findRound_35 : decode cX6_findRound 35 = .ok (.aload_n 0, 1) := by decide +kernel
theorem dX6_findRound_36 : decode cX6_findRound 36 = .ok (.iload_n 1, 1) := by decide +kernel
theorem dX6_findRound_37 : decode cX6_findRound 37 = .ok (.aload_n 0, 1) := by decide +kernel
theorem dX6_findRound_38 : decode cX6_findRound 38 = .ok (.getfield 53, 3) := by decide +kernel
theorem dX6_findRound_41 : decode cX6_findRound 41 = .ok (.getfield 107, 3) := by decide +kernel
theorem dX6_findRound_44 : decode cX6_findRound 44 = .ok (.iload_n 2, 1) := by decide +kernel
theorem dX6_findRound_45 : decode cX6_findRound 45 = .ok (.iconst 0, 1) := by decide +kernel
theorem dX6_findRound_46 : decode cX6_findRound 46 = .ok (.invokevirtual 74, 3) := by decide +kernel
theorem dX6_findRound_49 : decode cX6_findRound 49 = .ok (.invokevirtual 110, 3) := by decide +kernel
theorem dX6_findRound_52 : decode cX6_findRound 52 = .ok (.iconst (-1), 1) := by decide +kernel
theorem dX6_findRound_53 : decode cX6_findRound 53 = .ok (.if_icmp .ne 4, 3) := by decide +kernel
theorem dX6_findRound_56 : decode cX6_findRound 56 = .ok (.return_, 1) := by decide +kernel
theorem dX6_findRound_57 : decode cX6_findRound 57 = .ok (.iinc 2 1, 3) := by decide +kernel
theorem dX6_findRound_60 : decode cX6_findRound 60 = .ok (.goto (-39), 3) := by decide +kernel
theorem dX6_findRound_63 : decode cX6_findRound 63 = .ok (.aload_n 0, 1) := by decide +kernel
theorem dX6_findRound_64 : decode cX6_findRound 64 = .ok (.getfield 46, 3) := by decide +kernel
theorem dX6_findRound_67 : decode cX6_findRound 67 = .ok (.ifCond .ne 16, 3) := by decide +kernel
theorem dX6_findRound_70 : decode cX6_findRound 70 = .ok (.aload_n 0, 1) := by decide +kernel
theorem dX6_findRound_71 : decode cX6_findRound 71 = .ok (.invokevirtual 113, 3) := by decide +kernel
theorem dX6_findRound_74 : decode cX6_findRound 74 = .ok (.aload_n 0, 1) := by decide +kernel
theorem dX6_findRound_75 : decode cX6_findRound 75 = .ok (.invokevirtual 116, 3) := by decide +kernel
theorem dX6_findRound_78 : decode cX6_findRound 78 = .ok (.aload_n 0, 1) := by decide +kernel
theorem dX6_findRound_79 : decode cX6_findRound 79 = .ok (.iconst 1, 1) := by decide +kernel
theorem dX6_findRound_80 : decode cX6_findRound 80 = .ok (.putfield 46, 3) := by decide +kernel
theorem dX6_findRound_83 : decode cX6_findRound 83 = .ok (.aload_n 0, 1) := by decide +kernel
theorem dX6_findRound_84 : decode cX6_findRound 84 = .ok (.aload_n 0, 1) := by decide +kernel
theorem dX6_findRound_85 : decode cX6_findRound 85 = .ok (.iload_n 1, 1) := by decide +kernel
theorem dX6_findRound_86 : decode cX6_findRound 86 = .ok (.aload_n 0, 1) := by decide +kernel
theorem dX6_findRound_87 : decode cX6_findRound 87 = .ok (.iconst 1, 1) := by decide +kernel
theorem dX6_findRound_88 : decode cX6_findRound 88 = .ok (.aload_n 0, 1) := by decide +kernel
theorem dX6_findRound_89 : decode cX6_findRound 89 = .ok (.getfield 53, 3) := by decide +kernel
theorem dX6_findRound_92 : decode cX6_findRound 92 = .ok (.getfield 107, 3) := by decide +kernel
theorem dX6_findRound_95 : decode cX6_findRound 95 = .ok (.getfield 69, 3) := by decide +kernel
theorem dX6_findRound_98 : decode cX6_findRound 98 = .ok (.ishl, 1) := by decide +kernel
theorem dX6_findRound_99 : decode cX6_findRound 99 = .ok (.iconst 1, 1) := by decide +kernel
theorem dX6_findRound_100 : decode cX6_findRound 100 = .ok (.isub, 1) := by decide +kernel
theorem dX6_findRound_101 : decode cX6_findRound 101 = .ok (.invokevirtual 119, 3) := by decide +kernel
theorem dX6_findRound_104 : decode cX6_findRound 104 = .ok (.invokevirtual 122, 3) := by decide +kernel
theorem dX6_findRound_107 : decode cX6_findRound 107 = .ok (.putfield 18, 3) := by decide +kernel
theorem dX6_findRound_110 : decode cX6_findRound 110 = .ok (.aload_n 0, 1) := by decide +kernel
theorem dX6_findRound_111 : decode cX6_findRound 111 = .ok (.iload_n 1, 1) := by decide +kernel
theorem dX6_findRound_112 : decode cX6_findRound 112 = .ok (.invokevirtual 125, 3) := by decide +kernel
theorem dX6_findRound_115 : decode cX6_findRound 115 = .ok (.return_, 1) := by decide +kernel
set_option maxRecDepth 20000 in
theorem T_X6_findRound_21 {Q : Option Value → ah_T → Prop} {h : ah_T} (hs : Sh h) (x1 : Int32) (x2 : Int32) (ht : (((ah_i h 4 3) ≤ x2 → ((¬ (ah_i h 29 12) = 0 → (Mt mX6_stopsOf [.ref 29, .int (((1 : Int32) <<< ((ah_i h 4 3) &&& 31)) - 1)] h (ab_qi fun v12 h10 => Sh h10 ∧ (Mt mX6_rest [.ref 29, .int x1, .int v12] h10 (ab_qi fun v15 h13 => Sh h13 ∧ (∀ h16, h16 = ah_si h13 29 2 v15 → (Mt mX6_layRow [.ref 29, .int x1] h16 (ab_qv fun h19 => Sh h19 ∧ Q none h19)))))))) ∧ ((ah_i h 29 12) = 0 → (Mt mX6_gatherStops [.ref 29] h (ab_qv fun h22 => Sh h22 ∧ (Mt mX6_fillCosts [.ref 29] h22 (ab_qv fun h25 => Sh h25 ∧ (∀ h28, h28 = ah_si h25 29 12 1 → (Mt mX6_stopsOf [.ref 29, .int (((1 : Int32) <<< ((ah_i h28 4 3) &&& 31)) - 1)] h28 (ab_qi fun v33 h31 => Sh h31 ∧ (Mt mX6_rest [.ref 29, .int x1, .int v33] h31 (ab_qi fun v36 h34 => Sh h34 ∧ (∀ h37, h37 = ah_si h34 29 2 v36 → (Mt mX6_layRow [.ref 29, .int x1] h37 (ab_qv fun h40 => Sh h40 ∧ Q none h40))))))))))))))) ∧ (¬ (ah_i h 4 3) ≤ x2 → (Mt mX7_get [.ref 4, .int x2, .int 0] h (ab_qi fun v45 h43 => Sh h43 ∧ ((¬ (f_X11_isIn x1 12) = 0 → (¬ (f_X11_isIn v45 12) = 0 → vp_in ((x1 * 12) + v45) (ah_n h43 33)))) ∧ ((¬ (f_X6_steps h43 x1 v45) = (-1) → Wp mX6_findRound Q 0 0 21 [some (.ref 29), some (.int x1), some (.int (x2 + 1))] [] h43) ∧ ((f_X6_steps h43 x1 v45) = (-1) → Q none h43))))))) : Wp mX6_findRound Q 0 0 21 [some (.ref 29), some (.int x1), some (.int x2)] [] h := by
  refine ab_iload_n (i := 2) dX6_findRound_21 rfl rfl ?_
  refine ab_aload_n (i := 0) dX6_findRound_22 rfl rfl ?_
  refine ab_getR (b := 1) f_X6_53 rfl (sh_k hs 29 6 (by decide) rfl) (sh_r hs 37 rfl) dX6_findRound_23 ?_
  refine ab_getR (b := 4) f_X6_107 rfl (sh_k hs 1 10 (by decide) rfl) (sh_r hs 14 rfl) dX6_findRound_26 ?_
  refine ab_getI f_X6_69 rfl (sh_k hs 4 7 (by decide) rfl) dX6_findRound_29 ?_
  refine ab_icmp_ge (tgt := 63) dX6_findRound_32 (by decide) (fun c8 => ?_) (fun c8 => ?_)
  · have ht := ht.1 c8
    refine ab_aload_n (i := 0) dX6_findRound_63 rfl rfl ?_
    refine ab_getI f_X6_46 rfl (sh_k hs 29 6 (by decide) rfl) dX6_findRound_64 ?_
    refine ab_if_ne (tgt := 83) dX6_findRound_67 (by decide) (fun c9 => ?_) (fun c9 => ?_)
    · have ht := ht.1 c9
      refine ab_aload_n (i := 0) dX6_findRound_83 rfl rfl ?_
      refine ab_aload_n (i := 0) dX6_findRound_84 rfl rfl ?_
      refine ab_iload_n (i := 1) dX6_findRound_85 rfl rfl ?_
      refine ab_aload_n (i := 0) dX6_findRound_86 rfl rfl ?_
      refine ab_iconst (v := 1) dX6_findRound_87 (by decide) ?_
      refine ab_aload_n (i := 0) dX6_findRound_88 rfl rfl ?_
      refine ab_getR (b := 1) f_X6_53 rfl (sh_k hs 29 6 (by decide) rfl) (sh_r hs 37 rfl) dX6_findRound_89 ?_
      refine ab_getR (b := 4) f_X6_107 rfl (sh_k hs 1 10 (by decide) rfl) (sh_r hs 14 rfl) dX6_findRound_92 ?_
      refine ab_getI f_X6_69 rfl (sh_k hs 4 7 (by decide) rfl) dX6_findRound_95 ?_
      refine ab_ishl dX6_findRound_98 ?_
      refine ab_iconst (v := 1) dX6_findRound_99 (by decide) ?_
      refine ab_isub dX6_findRound_100 ?_
      refine ab_callV (b := 29) (As := [.int (((1 : Int32) <<< ((ah_i h 4 3) &&& 31)) - 1)]) ht (Y_X6_stopsOf) l_X6_119 in_X6_stopsOf se_X6_stopsOf (sh_k hs 29 6 (by decide) rfl) (by decide) rfl rfl ⟨(Nat.le_of_ble_eq_true rfl), (Nat.le_of_ble_eq_true rfl), (Nat.le_of_ble_eq_true rfl), (Nat.le_of_ble_eq_true rfl)⟩ dX6_findRound_101 ?_
      rintro _ h10 ⟨v12, rfl, hs11, ht⟩
      refine ab_callV (b := 29) (As := [.int x1, .int v12]) ht (Y_X6_rest) l_X6_122 in_X6_rest se_X6_rest (sh_k hs11 29 6 (by decide) rfl) (by decide) rfl rfl ⟨(Nat.le_of_ble_eq_true rfl), (Nat.le_of_ble_eq_true rfl), (Nat.le_of_ble_eq_true rfl), (Nat.le_of_ble_eq_true rfl)⟩ dX6_findRound_104 ?_
      rintro _ h13 ⟨v15, rfl, hs14, ht⟩
      refine ab_putI f_X6_18 (Or.inl rfl) rfl (sh_k hs14 29 6 (by decide) rfl) rfl rfl dX6_findRound_107 ?_
      refine Wp.nm fun h16 e17 => ?_
      have ht := ht h16 e17
      have hs18 : Sh h16 := by rw [e17]; exact sh_si hs14
      refine ab_aload_n (i := 0) dX6_findRound_110 rfl rfl ?_
      refine ab_iload_n (i := 1) dX6_findRound_111 rfl rfl ?_
      refine ab_callV (b := 29) (As := [.int x1]) ht (Y_X6_layRow) l_X6_125 in_X6_layRow se_X6_layRow (sh_k hs18 29 6 (by decide) rfl) (by decide) rfl rfl ⟨(Nat.le_of_ble_eq_true rfl), (Nat.le_of_ble_eq_true rfl), (Nat.le_of_ble_eq_true rfl), (Nat.le_of_ble_eq_true rfl)⟩ dX6_findRound_112 ?_
      rintro _ h19 ⟨rfl, hs20, ht⟩
      exact ab_vret rfl dX6_findRound_115 (Nat.le_of_ble_eq_true rfl) (Nat.le_of_ble_eq_true rfl) ht
    · have ht := ht.2 c9
      refine ab_aload_n (i := 0) dX6_findRound_70 rfl rfl ?_
      refine ab_callV (b := 29) (As := []) ht (Y_X6_gatherStops) l_X6_113 in_X6_gatherStops se_X6_gatherStops (sh_k hs 29 6 (by decide) rfl) (by decide) rfl rfl ⟨(Nat.le_of_ble_eq_true rfl), (Nat.le_of_ble_eq_true rfl), (Nat.le_of_ble_eq_true rfl), (Nat.le_of_ble_eq_true rfl)⟩ dX6_findRound_71 ?_
      rintro _ h22 ⟨rfl, hs23, ht⟩
      refine ab_aload_n (i := 0) dX6_findRound_74 rfl rfl ?_
      refine ab_callV (b := 29) (As := []) ht (Y_X6_fillCosts) l_X6_116 in_X6_fillCosts se_X6_fillCosts (sh_k hs23 29 6 (by decide) rfl) (by decide) rfl rfl ⟨(Nat.le_of_ble_eq_true rfl), (Nat.le_of_ble_eq_true rfl), (Nat.le_of_ble_eq_true rfl), (Nat.le_of_ble_eq_true rfl)⟩ dX6_findRound_75 ?_
      rintro _ h25 ⟨rfl, hs26, ht⟩
      refine ab_aload_n (i := 0) dX6_findRound_78 rfl rfl ?_
      refine ab_iconst (v := 1) dX6_findRound_79 (by decide) ?_
      refine ab_putI f_X6_46 (Or.inl rfl) rfl (sh_k hs26 29 6 (by decide) rfl) rfl rfl dX6_findRound_80 ?_
      refine Wp.nm fun h28 e29 => ?_
      have ht := ht h28 e29
      have hs30 : Sh h28 := by rw [e29]; exact sh_si hs26
      refine ab_aload_n (i := 0) dX6_findRound_83 rfl rfl ?_
      refine ab_aload_n (i := 0) dX6_findRound_84 rfl rfl ?_
      refine ab_iload_n (i := 1) dX6_findRound_85 rfl rfl ?_
      refine ab_aload_n (i := 0) dX6_findRound_86 rfl rfl ?_
      refine ab_iconst (v := 1) dX6_findRound_87 (by decide) ?_
      refine ab_aload_n (i := 0) dX6_findRound_88 rfl rfl ?_
      refine ab_getR (b := 1) f_X6_53 rfl (sh_k hs30 29 6 (by decide) rfl) (sh_r hs30 37 rfl) dX6_findRound_89 ?_
      refine ab_getR (b := 4) f_X6_107 rfl (sh_k hs30 1 10 (by decide) rfl) (sh_r hs30 14 rfl) dX6_findRound_92 ?_
      refine ab_getI f_X6_69 rfl (sh_k hs30 4 7 (by decide) rfl) dX6_findRound_95 ?_
      refine ab_ishl dX6_findRound_98 ?_
      refine ab_iconst (v := 1) dX6_findRound_99 (by decide) ?_
      refine ab_isub dX6_findRound_100 ?_
      refine ab_callV (b := 29) (As := [.int (((1 : Int32) <<< ((ah_i h28 4 3) &&& 31)) - 1)]) ht (Y_X6_stopsOf) l_X6_119 in_X6_stopsOf se_X6_stopsOf (sh_k hs30 29 6 (by decide) rfl) (by decide) rfl rfl ⟨(Nat.le_of_ble_eq_true rfl), (Nat.le_of_ble_eq_true rfl), (Nat.le_of_ble_eq_true rfl), (Nat.le_of_ble_eq_true rfl)⟩ dX6_findRound_101 ?_
      rintro _ h31 ⟨v33, rfl, hs32, ht⟩
      refine ab_callV (b := 29) (As := [.int x1, .int v33]) ht (Y_X6_rest) l_X6_122 in_X6_rest se_X6_rest (sh_k hs32 29 6 (by decide) rfl) (by decide) rfl rfl ⟨(Nat.le_of_ble_eq_true rfl), (Nat.le_of_ble_eq_true rfl), (Nat.le_of_ble_eq_true rfl), (Nat.le_of_ble_eq_true rfl)⟩ dX6_findRound_104 ?_
      rintro _ h34 ⟨v36, rfl, hs35, ht⟩
      refine ab_putI f_X6_18 (Or.inl rfl) rfl (sh_k hs35 29 6 (by decide) rfl) rfl rfl dX6_findRound_107 ?_
      refine Wp.nm fun h37 e38 => ?_
      have ht := ht h37 e38
      have hs39 : Sh h37 := by rw [e38]; exact sh_si hs35
      refine ab_aload_n (i := 0) dX6_findRound_110 rfl rfl ?_
      refine ab_iload_n (i := 1) dX6_findRound_111 rfl rfl ?_
      refine ab_callV (b := 29) (As := [.int x1]) ht (Y_X6_layRow) l_X6_125 in_X6_layRow se_X6_layRow (sh_k hs39 29 6 (by decide) rfl) (by decide) rfl rfl ⟨(Nat.le_of_ble_eq_true rfl), (Nat.le_of_ble_eq_true rfl), (Nat.le_of_ble_eq_true rfl), (Nat.le_of_ble_eq_true rfl)⟩ dX6_findRound_112 ?_
      rintro _ h40 ⟨rfl, hs41, ht⟩
      exact ab_vret rfl dX6_findRound_115 (Nat.le_of_ble_eq_true rfl) (Nat.le_of_ble_eq_true rfl) ht
  · have ht := ht.2 c8
    refine ab_aload_n (i := 0) dX6_findRound_35 rfl rfl ?_
    refine ab_iload_n (i := 1) dX6_findRound_36 rfl rfl ?_
    refine ab_aload_n (i := 0) dX6_findRound_37 rfl rfl ?_
    refine ab_getR (b := 1) f_X6_53 rfl (sh_k hs 29 6 (by decide) rfl) (sh_r hs 37 rfl) dX6_findRound_38 ?_
    refine ab_getR (b := 4) f_X6_107 rfl (sh_k hs 1 10 (by decide) rfl) (sh_r hs 14 rfl) dX6_findRound_41 ?_
    refine ab_iload_n (i := 2) dX6_findRound_44 rfl rfl ?_
    refine ab_iconst (v := 0) dX6_findRound_45 (by decide) ?_
    refine ab_callV (b := 4) (As := [.int x2, .int 0]) ht (Y_X7_get) l_X6_74 in_X7_get se_X7_get (sh_k hs 4 7 (by decide) rfl) (by decide) rfl rfl ⟨(Nat.le_of_ble_eq_true rfl), (Nat.le_of_ble_eq_true rfl), (Nat.le_of_ble_eq_true rfl), (Nat.le_of_ble_eq_true rfl)⟩ dX6_findRound_46 ?_
    rintro _ h43 ⟨v45, rfl, hs44, ht⟩
    obtain ⟨hc46, ht⟩ := ht
    refine ab_callV (b := 29) (Q' := fun r h' => r = some (.int (f_X6_steps h43 x1 v45)) ∧ h43 = h') (As := [.int x1, .int v45]) (c_X6_steps hs44 x1 v45  hc46 ⟨rfl, rfl⟩) (Y_X6_steps) l_X6_110 in_X6_steps se_X6_steps (sh_k hs44 29 6 (by decide) rfl) (by decide) rfl rfl ⟨(Nat.le_of_ble_eq_true rfl), (Nat.le_of_ble_eq_true rfl), (Nat.le_of_ble_eq_true rfl), (Nat.le_of_ble_eq_true rfl)⟩ dX6_findRound_49 ?_
    rintro _ _ ⟨rfl, rfl⟩
    refine ab_iconst (v := (-1)) dX6_findRound_52 (by decide) ?_
    refine ab_icmp_ne (tgt := 57) dX6_findRound_53 (by decide) (fun c47 => ?_) (fun c47 => ?_)
    · have ht := ht.1 c47
      refine ab_iinc (i := 2) (x := x2) (v := (x2 + 1)) (L' := [some (.ref 29), some (.int x1), some (.int (x2 + 1))]) dX6_findRound_57 rfl rfl (by exact (Nat.le_of_ble_eq_true rfl)) rfl rfl ?_
      refine ab_goto (tgt := 21) dX6_findRound_60 (by decide) ?_
      exact Wp.fewer (L' := [some (.ref 29), some (.int x1), some (.int (x2 + 1))]) (show ab_leL _ _ from ⟨rfl, ⟨rfl, ⟨rfl, trivial⟩⟩⟩) ht
    · have ht := ht.2 c47
      exact ab_vret rfl dX6_findRound_56 (Nat.le_of_ble_eq_true rfl) (Nat.le_of_ble_eq_true rfl) ht
set_option maxRecDepth 20000 in
theorem T_X6_findRound {Q : Option Value → ah_T → Prop} {h : ah_T} (hs : Sh h) (x1 : Int32) (ht : ((¬ (ah_i h 29 13) = x1 → (∀ h2, h2 = ah_si h 29 13 x1 → (∀ h5, h5 = ah_si h2 29 2 (-1) → Wp mX6_findRound Q 0 0 21 [some (.ref 29), some (.int x1), some (.int 0)] [] h5))) ∧ ((ah_i h 29 13) = x1 → Q none h))) : Mt mX6_findRound [.ref 29, .int x1] h Q := by
  refine Mt.ofWp rfl (by exact (Nat.le_of_ble_eq_true rfl)) (Wp.fewer (L' := [some (.ref 29), some (.int x1), none]) (show ab_leL _ _ from ⟨rfl, ⟨rfl, trivial⟩⟩) ?_)
  refine ab_aload_n (i := 0) dX6_findRound_0 rfl rfl ?_
  refine ab_getI f_X6_50 rfl (sh_k hs 29 6 (by decide) rfl) dX6_findRound_1 ?_
  refine ab_iload_n (i := 1) dX6_findRound_4 rfl rfl ?_
  refine ab_icmp_ne (tgt := 9) dX6_findRound_5 (by decide) (fun c1 => ?_) (fun c1 => ?_)
  · have ht := ht.1 c1
    refine ab_aload_n (i := 0) dX6_findRound_9 rfl rfl ?_
    refine ab_iload_n (i := 1) dX6_findRound_10 rfl rfl ?_
    refine ab_putI f_X6_50 (Or.inl rfl) rfl (sh_k hs 29 6 (by decide) rfl) rfl rfl dX6_findRound_11 ?_
    refine Wp.nm fun h2 e3 => ?_
    have ht := ht h2 e3
    have hs4 : Sh h2 := by rw [e3]; exact sh_si hs
    refine ab_aload_n (i := 0) dX6_findRound_14 rfl rfl ?_
    refine ab_iconst (v := (-1)) dX6_findRound_15 (by decide) ?_
    refine ab_putI f_X6_18 (Or.inl rfl) rfl (sh_k hs4 29 6 (by decide) rfl) rfl rfl dX6_findRound_16 ?_
    refine Wp.nm fun h5 e6 => ?_
    have ht := ht h5 e6
    have hs7 : Sh h5 := by rw [e6]; exact sh_si hs4
    refine ab_iconst (v := 0) dX6_findRound_19 (by decide) ?_
    refine ab_istore_n (i := 2) (L' := [some (.ref 29), some (.int x1), some (.int 0)]) dX6_findRound_20 rfl (by exact (Nat.le_of_ble_eq_true rfl)) rfl rfl ?_
    exact Wp.fewer (L' := [some (.ref 29), some (.int x1), some (.int 0)]) (show ab_leL _ _ from ⟨rfl, ⟨rfl, ⟨rfl, trivial⟩⟩⟩) ht
  · have ht := ht.2 c1
    exact ab_vret rfl dX6_findRound_8 (Nat.le_of_ble_eq_true rfl) (Nat.le_of_ble_eq_true rfl) ht
theorem dX6_gatherStops_0 : decode cX6_gatherStops 0 = .ok (.aload_n 0, 1) := by decide +kernel
theorem dX6_gatherStops_1 : decode cX6_gatherStops 1 = .ok (.iconst 0, 1) := by decide +kernel
theorem dX6_gatherStops_2 : decode cX6_gatherStops 2 = .ok (.putfield 40, 3) := by decide +kernel
theorem dX6_gatherStops_5 : decode cX6_gatherStops 5 = .ok (.iconst 0, 1) := by decide +kernel
theorem dX6_gatherStops_6 : decode cX6_gatherStops 6 = .ok (.istore_n 1, 1) := by decide +kernel
theorem dX6_gatherStops_7 : decode cX6_gatherStops 7 = .ok (.iload_n 1, 1) := by decide +kernel
theorem dX6_gatherStops_8 : decode cX6_gatherStops 8 = .ok (.aload_n 0, 1) := by decide +kernel
theorem dX6_gatherStops_9 : decode cX6_gatherStops 9 = .ok (.getfield 53, 3) := by decide +kernel
theorem dX6_gatherStops_12 : decode cX6_gatherStops 12 = .ok (.getfield 107, 3) := by decide +kernel
theorem dX6_gatherStops_15 : decode cX6_gatherStops 15 = .ok (.getfield 69, 3) := by decide +kernel
theorem dX6_gatherStops_18 : decode cX6_gatherStops 18 = .ok (.if_icmp .ge 83, 3) := by decide +kernel
theorem dX6_gatherStops_21 : decode cX6_gatherStops 21 = .ok (.aload_n 0, 1) := by decide +kernel
theorem dX6_gatherStops_22 : decode cX6_gatherStops 22 = .ok (.getfield 53, 3) := by decide +kernel
theorem dX6_gatherStops_25 : decode cX6_gatherStops 25 = .ok (.getfield 107, 3) := by decide +kernel
theorem dX6_gatherStops_28 : decode cX6_gatherStops 28 = .ok (.iload_n 1, 1) := by decide +kernel
theorem dX6_gatherStops_29 : decode cX6_gatherStops 29 = .ok (.iconst 0, 1) := by decide +kernel
theorem dX6_gatherStops_30 : decode cX6_gatherStops 30 = .ok (.invokevirtual 74, 3) := by decide +kernel
theorem dX6_gatherStops_33 : decode cX6_gatherStops 33 = .ok (.istore_n 2, 1) := by decide +kernel
theorem dX6_gatherStops_34 : decode cX6_gatherStops 34 = .ok (.iconst 0, 1) := by decide +kernel
theorem dX6_gatherStops_35 : decode cX6_gatherStops 35 = .ok (.istore_n 3, 1) := by decide +kernel
theorem dX6_gatherStops_36 : decode cX6_gatherStops 36 = .ok (.iload_n 3, 1) := by decide +kernel
theorem dX6_gatherStops_37 : decode cX6_gatherStops 37 = .ok (.aload_n 0, 1) := by decide +kernel
theorem dX6_gatherStops_38 : decode cX6_gatherStops 38 = .ok (.getfield 40, 3) := by decide +kernel
theorem dX6_gatherStops_41 : decode cX6_gatherStops 41 = .ok (.if_icmp .ge 19, 3) := by decide +kernel
theorem dX6_gatherStops_44 : decode cX6_gatherStops 44 = .ok (.aload_n 0, 1) := by decide +kernel
theorem dX6_gatherStops_45 : decode cX6_gatherStops 45 = .ok (.getfield 34, 3) := by decide +kernel
theorem dX6_gatherStops_48 : decode cX6_gatherStops 48 = .ok (.iload_n 3, 1) := by decide +kernel
theorem dX6_gatherStops_49 : decode cX6_gatherStops 49 = .ok (.iaload, 1) := by decide +kernel
theorem dX6_gatherStops_50 : decode cX6_gatherStops 50 = .ok (.iload_n 2, 1) := by decide +kernel
theorem dX6_gatherStops_51 : decode cX6_gatherStops 51 = .ok (.if_icmp .eq 9, 3) := by decide +kernel
theorem dX6_gatherStops_54 : decode cX6_gatherStops 54 = .ok (.iinc 3 1, 3) := by decide +kernel
theorem dX6_gatherStops_57 : decode cX6_gatherStops 57 = .ok (.goto (-21), 3) := by decide +kernel
theorem dX6_gatherStops_60 : decode cX6_gatherStops 60 = .ok (.iload_n 3, 1) := by decide +kernel
theorem dX6_gatherStops_61 : decode cX6_gatherStops 61 = .ok (.aload_n 0, 1) := by decide +kernel
theorem dX6_gatherStops_62 : decode cX6_gatherStops 62 = .ok (.getfield 40, 3) := by decide +kernel
theorem dX6_gatherStops_65 : decode cX6_gatherStops 65 = .ok (.if_icmp .ne 23, 3) := by decide +kernel
theorem dX6_gatherStops_68 : decode cX6_gatherStops 68 = .ok (.aload_n 0, 1) := by decide +kernel
theorem dX6_gatherStops_69 : decode cX6_gatherStops 69 = .ok (.getfield 34, 3) := by decide +kernel
theorem dX6_gatherStops_72 : decode cX6_gatherStops 72 = .ok (.aload_n 0, 1) := by decide +kernel
theorem dX6_gatherStops_73 : decode cX6_gatherStops 73 = .ok (.getfield 40, 3) := by decide +kernel
theorem dX6_gatherStops_76 : decode cX6_gatherStops 76 = .ok (.iload_n 2, 1) := by decide +kernel
theorem dX6_gatherStops_77 : decode cX6_gatherStops 77 = .ok (.iastore, 1) := by decide +kernel
theorem dX6_gatherStops_78 : decode cX6_gatherStops 78 = .ok (.aload_n 0, 1) := by decide +kernel
theorem dX6_gatherStops_79 : decode cX6_gatherStops 79 = .ok (.dup, 1) := by decide +kernel
theorem dX6_gatherStops_80 : decode cX6_gatherStops 80 = .ok (.getfield 40, 3) := by decide +kernel
theorem dX6_gatherStops_83 : decode cX6_gatherStops 83 = .ok (.iconst 1, 1) := by decide +kernel
theorem dX6_gatherStops_84 : decode cX6_gatherStops 84 = .ok (.iadd, 1) := by decide +kernel
theorem dX6_gatherStops_85 : decode cX6_gatherStops 85 = .ok (.putfield 40, 3) := by decide +kernel
theorem dX6_gatherStops_88 : decode cX6_gatherStops 88 = .ok (.aload_n 0, 1) := by decide +kernel
theorem dX6_gatherStops_89 : decode cX6_gatherStops 89 = .ok (.getfield 37, 3) := by decide +kernel
theorem dX6_gatherStops_92 : decode cX6_gatherStops 92 = .ok (.iload_n 1, 1) := by decide +kernel
theorem dX6_gatherStops_93 : decode cX6_gatherStops 93 = .ok (.iload_n 3, 1) := by decide +kernel
theorem dX6_gatherStops_94 : decode cX6_gatherStops 94 = .ok (.iastore, 1) := by decide +kernel
theorem dX6_gatherStops_95 : decode cX6_gatherStops 95 = .ok (.iinc 1 1, 3) := by decide +kernel
theorem dX6_gatherStops_98 : decode cX6_gatherStops 98 = .ok (.goto (-91), 3) := by decide +kernel
theorem dX6_gatherStops_101 : decode cX6_gatherStops 101 = .ok (.return_, 1) := by decide +kernel
set_option maxRecDepth 20000 in
theorem T_X6_gatherStops_7 {Q : Option Value → ah_T → Prop} {h : ah_T} (hs : Sh h) (x1 : Int32) (ht : (((ah_i h 4 3) ≤ x1 → Q none h) ∧ (¬ (ah_i h 4 3) ≤ x1 → (Mt mX7_get [.ref 4, .int x1, .int 0] h (ab_qi fun v7 h5 => Sh h5 ∧ Wp mX6_gatherStops Q 0 0 36 [some (.ref 29), some (.int x1), some (.int v7), some (.int 0)] [] h5))))) : Wp mX6_gatherStops Q 0 0 7 [some (.ref 29), some (.int x1), none, none] [] h := by
  refine ab_iload_n (i := 1) dX6_gatherStops_7 rfl rfl ?_
  refine ab_aload_n (i := 0) dX6_gatherStops_8 rfl rfl ?_
  refine ab_getR (b := 1) f_X6_53 rfl (sh_k hs 29 6 (by decide) rfl) (sh_r hs 37 rfl) dX6_gatherStops_9 ?_
  refine ab_getR (b := 4) f_X6_107 rfl (sh_k hs 1 10 (by decide) rfl) (sh_r hs 14 rfl) dX6_gatherStops_12 ?_
  refine ab_getI f_X6_69 rfl (sh_k hs 4 7 (by decide) rfl) dX6_gatherStops_15 ?_
  refine ab_icmp_ge (tgt := 101) dX6_gatherStops_18 (by decide) (fun c4 => ?_) (fun c4 => ?_)
  · have ht := ht.1 c4
    exact ab_vret rfl dX6_gatherStops_101 (Nat.le_of_ble_eq_true rfl) (Nat.le_of_ble_eq_true rfl) ht
  · have ht := ht.2 c4
    refine ab_aload_n (i := 0) dX6_gatherStops_21 rfl rfl ?_
    refine ab_getR (b := 1) f_X6_53 rfl (sh_k hs 29 6 (by decide) rfl) (sh_r hs 37 rfl) dX6_gatherStops_22 ?_
    refine ab_getR (b := 4) f_X6_107 rfl (sh_k hs 1 10 (by decide) rfl) (sh_r hs 14 rfl) dX6_gatherStops_25 ?_
    refine ab_iload_n (i := 1) dX6_gatherStops_28 rfl rfl ?_
    refine ab_iconst (v := 0) dX6_gatherStops_29 (by decide) ?_
    refine ab_callV (b := 4) (As := [.int x1, .int 0]) ht (Y_X7_get) l_X6_74 in_X7_get se_X7_get (sh_k hs 4 7 (by decide) rfl) (by decide) rfl rfl ⟨(Nat.le_of_ble_eq_true rfl), (Nat.le_of_ble_eq_true rfl), (Nat.le_of_ble_eq_true rfl), (Nat.le_of_ble_eq_true rfl)⟩ dX6_gatherStops_30 ?_
    rintro _ h5 ⟨v7, rfl, hs6, ht⟩
    refine ab_istore_n (i := 2) (L' := [some (.ref 29), some (.int x1), some (.int v7), none]) dX6_gatherStops_33 rfl (by exact (Nat.le_of_ble_eq_true rfl)) rfl rfl ?_
    refine ab_iconst (v := 0) dX6_gatherStops_34 (by decide) ?_
    refine ab_istore_n (i := 3) (L' := [some (.ref 29), some (.int x1), some (.int v7), some (.int 0)]) dX6_gatherStops_35 rfl (by exact (Nat.le_of_ble_eq_true rfl)) rfl rfl ?_
    exact Wp.fewer (L' := [some (.ref 29), some (.int x1), some (.int v7), some (.int 0)]) (show ab_leL _ _ from ⟨rfl, ⟨rfl, ⟨rfl, ⟨rfl, trivial⟩⟩⟩⟩) ht
set_option maxRecDepth 20000 in
theorem T_X6_gatherStops_36 {Q : Option Value → ah_T → Prop} {h : ah_T} (hs : Sh h) (x1 : Int32) (x2 : Int32) (x3 : Int32) (ht : (((ah_i h 29 10) ≤ x3 → ((¬ x3 = (ah_i h 29 10) → (vp_in x1 (ah_n h 37)) ∧ (∀ h11, h11 = ah_si h 37 (Int32.toNatClampNeg x1) x3 → Wp mX6_gatherStops Q 0 0 7 [some (.ref 29), some (.int (x1 + 1)), none, none] [] h11)) ∧ (x3 = (ah_i h 29 10) → (vp_in (ah_i h 29 10) (ah_n h 36)) ∧ (∀ h15, h15 = ah_si h 36 (Int32.toNatClampNeg (ah_i h 29 10)) x2 → (∀ h18, h18 = ah_si h15 29 10 ((ah_i h15 29 10) + 1) → (vp_in x1 (ah_n h18 37)) ∧ (∀ h22, h22 = ah_si h18 37 (Int32.toNatClampNeg x1) x3 → Wp mX6_gatherStops Q 0 0 7 [some (.ref 29), some (.int (x1 + 1)), none, none] [] h22)))))) ∧ (¬ (ah_i h 29 10) ≤ x3 → (vp_in x3 (ah_n h 36)) ∧ (((ah_i h 36 (Int32.toNatClampNeg x3)) = x2 → ((¬ x3 = (ah_i h 29 10) → (vp_in x1 (ah_n h 37)) ∧ (∀ h29, h29 = ah_si h 37 (Int32.toNatClampNeg x1) x3 → Wp mX6_gatherStops Q 0 0 7 [some (.ref 29), some (.int (x1 + 1)), none, none] [] h29)) ∧ (x3 = (ah_i h 29 10) → (vp_in (ah_i h 29 10) (ah_n h 36)) ∧ (∀ h33, h33 = ah_si h 36 (Int32.toNatClampNeg (ah_i h 29 10)) x2 → (∀ h36, h36 = ah_si h33 29 10 ((ah_i h33 29 10) + 1) → (vp_in x1 (ah_n h36 37)) ∧ (∀ h40, h40 = ah_si h36 37 (Int32.toNatClampNeg x1) x3 → Wp mX6_gatherStops Q 0 0 7 [some (.ref 29), some (.int (x1 + 1)), none, none] [] h40)))))) ∧ (¬ (ah_i h 36 (Int32.toNatClampNeg x3)) = x2 → Wp mX6_gatherStops Q 0 0 36 [some (.ref 29), some (.int x1), some (.int x2), some (.int (x3 + 1))] [] h))))) : Wp mX6_gatherStops Q 0 0 36 [some (.ref 29), some (.int x1), some (.int x2), some (.int x3)] [] h := by
  refine ab_iload_n (i := 3) dX6_gatherStops_36 rfl rfl ?_
  refine ab_aload_n (i := 0) dX6_gatherStops_37 rfl rfl ?_
  refine ab_getI f_X6_40 rfl (sh_k hs 29 6 (by decide) rfl) dX6_gatherStops_38 ?_
  refine ab_icmp_ge (tgt := 60) dX6_gatherStops_41 (by decide) (fun c8 => ?_) (fun c8 => ?_)
  · have ht := ht.1 c8
    refine ab_iload_n (i := 3) dX6_gatherStops_60 rfl rfl ?_
    refine ab_aload_n (i := 0) dX6_gatherStops_61 rfl rfl ?_
    refine ab_getI f_X6_40 rfl (sh_k hs 29 6 (by decide) rfl) dX6_gatherStops_62 ?_
    refine ab_icmp_ne (tgt := 88) dX6_gatherStops_65 (by decide) (fun c9 => ?_) (fun c9 => ?_)
    · have ht := ht.1 c9
      refine ab_aload_n (i := 0) dX6_gatherStops_88 rfl rfl ?_
      refine ab_getR (b := 37) f_X6_37 rfl (sh_k hs 29 6 (by decide) rfl) (sh_r hs 42 rfl) dX6_gatherStops_89 ?_
      refine ab_iload_n (i := 1) dX6_gatherStops_92 rfl rfl ?_
      refine ab_iload_n (i := 3) dX6_gatherStops_93 rfl rfl ?_
      obtain ⟨hc10, ht⟩ := ht
      refine ab_iast (sh_k hs 37 14 (by decide) rfl) hc10 dX6_gatherStops_94 ?_
      refine Wp.nm fun h11 e12 => ?_
      have ht := ht h11 e12
      have hs13 : Sh h11 := by rw [e12]; exact sh_si hs
      refine ab_iinc (i := 1) (x := x1) (v := (x1 + 1)) (L' := [some (.ref 29), some (.int (x1 + 1)), some (.int x2), some (.int x3)]) dX6_gatherStops_95 rfl rfl (by exact (Nat.le_of_ble_eq_true rfl)) rfl rfl ?_
      refine ab_goto (tgt := 7) dX6_gatherStops_98 (by decide) ?_
      exact Wp.fewer (L' := [some (.ref 29), some (.int (x1 + 1)), none, none]) (show ab_leL _ _ from ⟨rfl, ⟨rfl, trivial⟩⟩) ht
    · have ht := ht.2 c9
      refine ab_aload_n (i := 0) dX6_gatherStops_68 rfl rfl ?_
      refine ab_getR (b := 36) f_X6_34 rfl (sh_k hs 29 6 (by decide) rfl) (sh_r hs 41 rfl) dX6_gatherStops_69 ?_
      refine ab_aload_n (i := 0) dX6_gatherStops_72 rfl rfl ?_
      refine ab_getI f_X6_40 rfl (sh_k hs 29 6 (by decide) rfl) dX6_gatherStops_73 ?_
      refine ab_iload_n (i := 2) dX6_gatherStops_76 rfl rfl ?_
      obtain ⟨hc14, ht⟩ := ht
      refine ab_iast (sh_k hs 36 14 (by decide) rfl) hc14 dX6_gatherStops_77 ?_
      refine Wp.nm fun h15 e16 => ?_
      have ht := ht h15 e16
      have hs17 : Sh h15 := by rw [e16]; exact sh_si hs
      refine ab_aload_n (i := 0) dX6_gatherStops_78 rfl rfl ?_
      refine ab_dup dX6_gatherStops_79 rfl ?_
      refine ab_getI f_X6_40 rfl (sh_k hs17 29 6 (by decide) rfl) dX6_gatherStops_80 ?_
      refine ab_iconst (v := 1) dX6_gatherStops_83 (by decide) ?_
      refine ab_iadd dX6_gatherStops_84 ?_
      refine ab_putI f_X6_40 (Or.inl rfl) rfl (sh_k hs17 29 6 (by decide) rfl) rfl rfl dX6_gatherStops_85 ?_
      refine Wp.nm fun h18 e19 => ?_
      have ht := ht h18 e19
      have hs20 : Sh h18 := by rw [e19]; exact sh_si hs17
      refine ab_aload_n (i := 0) dX6_gatherStops_88 rfl rfl ?_
      refine ab_getR (b := 37) f_X6_37 rfl (sh_k hs20 29 6 (by decide) rfl) (sh_r hs20 42 rfl) dX6_gatherStops_89 ?_
      refine ab_iload_n (i := 1) dX6_gatherStops_92 rfl rfl ?_
      refine ab_iload_n (i := 3) dX6_gatherStops_93 rfl rfl ?_
      obtain ⟨hc21, ht⟩ := ht
      refine ab_iast (sh_k hs20 37 14 (by decide) rfl) hc21 dX6_gatherStops_94 ?_
      refine Wp.nm fun h22 e23 => ?_
      have ht := ht h22 e23
      have hs24 : Sh h22 := by rw [e23]; exact sh_si hs20
      refine ab_iinc (i := 1) (x := x1) (v := (x1 + 1)) (L' := [some (.ref 29), some (.int (x1 + 1)), some (.int x2), some (.int x3)]) dX6_gatherStops_95 rfl rfl (by exact (Nat.le_of_ble_eq_true rfl)) rfl rfl ?_
      refine ab_goto (tgt := 7) dX6_gatherStops_98 (by decide) ?_
      exact Wp.fewer (L' := [some (.ref 29), some (.int (x1 + 1)), none, none]) (show ab_leL _ _ from ⟨rfl, ⟨rfl, trivial⟩⟩) ht
  · have ht := ht.2 c8
    refine ab_aload_n (i := 0) dX6_gatherStops_44 rfl rfl ?_
    refine ab_getR (b := 36) f_X6_34 rfl (sh_k hs 29 6 (by decide) rfl) (sh_r hs 41 rfl) dX6_gatherStops_45 ?_
    refine ab_iload_n (i := 3) dX6_gatherStops_48 rfl rfl ?_
    obtain ⟨hc25, ht⟩ := ht
    refine ab_iald (sh_k hs 36 14 (by decide) rfl) hc25 dX6_gatherStops_49 ?_
    refine ab_iload_n (i := 2) dX6_gatherStops_50 rfl rfl ?_
    refine ab_icmp_eq (tgt := 60) dX6_gatherStops_51 (by decide) (fun c26 => ?_) (fun c26 => ?_)
    · have ht := ht.1 c26
      refine ab_iload_n (i := 3) dX6_gatherStops_60 rfl rfl ?_
      refine ab_aload_n (i := 0) dX6_gatherStops_61 rfl rfl ?_
      refine ab_getI f_X6_40 rfl (sh_k hs 29 6 (by decide) rfl) dX6_gatherStops_62 ?_
      refine ab_icmp_ne (tgt := 88) dX6_gatherStops_65 (by decide) (fun c27 => ?_) (fun c27 => ?_)
      · have ht := ht.1 c27
        refine ab_aload_n (i := 0) dX6_gatherStops_88 rfl rfl ?_
        refine ab_getR (b := 37) f_X6_37 rfl (sh_k hs 29 6 (by decide) rfl) (sh_r hs 42 rfl) dX6_gatherStops_89 ?_
        refine ab_iload_n (i := 1) dX6_gatherStops_92 rfl rfl ?_
        refine ab_iload_n (i := 3) dX6_gatherStops_93 rfl rfl ?_
        obtain ⟨hc28, ht⟩ := ht
        refine ab_iast (sh_k hs 37 14 (by decide) rfl) hc28 dX6_gatherStops_94 ?_
        refine Wp.nm fun h29 e30 => ?_
        have ht := ht h29 e30
        have hs31 : Sh h29 := by rw [e30]; exact sh_si hs
        refine ab_iinc (i := 1) (x := x1) (v := (x1 + 1)) (L' := [some (.ref 29), some (.int (x1 + 1)), some (.int x2), some (.int x3)]) dX6_gatherStops_95 rfl rfl (by exact (Nat.le_of_ble_eq_true rfl)) rfl rfl ?_
        refine ab_goto (tgt := 7) dX6_gatherStops_98 (by decide) ?_
        exact Wp.fewer (L' := [some (.ref 29), some (.int (x1 + 1)), none, none]) (show ab_leL _ _ from ⟨rfl, ⟨rfl, trivial⟩⟩) ht
      · have ht := ht.2 c27
        refine ab_aload_n (i := 0) dX6_gatherStops_68 rfl rfl ?_
        refine ab_getR (b := 36) f_X6_34 rfl (sh_k hs 29 6 (by decide) rfl) (sh_r hs 41 rfl) dX6_gatherStops_69 ?_
        refine ab_aload_n (i := 0) dX6_gatherStops_72 rfl rfl ?_
        refine ab_getI f_X6_40 rfl (sh_k hs 29 6 (by decide) rfl) dX6_gatherStops_73 ?_
        refine ab_iload_n (i := 2) dX6_gatherStops_76 rfl rfl ?_
        obtain ⟨hc32, ht⟩ := ht
        refine ab_iast (sh_k hs 36 14 (by decide) rfl) hc32 dX6_gatherStops_77 ?_
        refine Wp.nm fun h33 e34 => ?_
        have ht := ht h33 e34
        have hs35 : Sh h33 := by rw [e34]; exact sh_si hs
        refine ab_aload_n (i := 0) dX6_gatherStops_78 rfl rfl ?_
        refine ab_dup dX6_gatherStops_79 rfl ?_
        refine ab_getI f_X6_40 rfl (sh_k hs35 29 6 (by decide) rfl) dX6_gatherStops_80 ?_
        refine ab_iconst (v := 1) dX6_gatherStops_83 (by decide) ?_
        refine ab_iadd dX6_gatherStops_84 ?_
        refine ab_putI f_X6_40 (Or.inl rfl) rfl (sh_k hs35 29 6 (by decide) rfl) rfl rfl dX6_gatherStops_85 ?_
        refine Wp.nm fun h36 e37 => ?_
        have ht := ht h36 e37
        have hs38 : Sh h36 := by rw [e37]; exact sh_si hs35
        refine ab_aload_n (i := 0) dX6_gatherStops_88 rfl rfl ?_
        refine ab_getR (b := 37) f_X6_37 rfl (sh_k hs38 29 6 (by decide) rfl) (sh_r hs38 42 rfl) dX6_gatherStops_89 ?_
        refine ab_iload_n (i := 1) dX6_gatherStops_92 rfl rfl ?_
        refine ab_iload_n (i := 3) dX6_gatherStops_93 rfl rfl ?_
        obtain ⟨hc39, ht⟩ := ht
        refine ab_iast (sh_k hs38 37 14 (by decide) rfl) hc39 dX6_gatherStops_94 ?_
        refine Wp.nm fun h40 e41 => ?_
        have ht := ht h40 e41
        have hs42 : Sh h40 := by rw [e41]; exact sh_si hs38
        refine ab_iinc (i := 1) (x := x1) (v := (x1 + 1)) (L' := [some (.ref 29), some (.int (x1 + 1)), some (.int x2), some (.int x3)]) dX6_gatherStops_95 rfl rfl (by exact (Nat.le_of_ble_eq_true rfl)) rfl rfl ?_
        refine ab_goto (tgt := 7) dX6_gatherStops_98 (by decide) ?_
        exact Wp.fewer (L' := [some (.ref 29), some (.int (x1 + 1)), none, none]) (show ab_leL _ _ from ⟨rfl, ⟨rfl, trivial⟩⟩) ht
    · have ht := ht.2 c26
      refine ab_iinc (i := 3) (x := x3) (v := (x3 + 1)) (L' := [some (.ref 29), some (.int x1), some (.int x2), some (.int (x3 + 1))]) dX6_gatherStops_54 rfl rfl (by exact (Nat.le_of_ble_eq_true rfl)) rfl rfl ?_
      refine ab_goto (tgt := 36) dX6_gatherStops_57 (by decide) ?_
      exact Wp.fewer (L' := [some (.ref 29), some (.int x1), some (.int x2), some (.int (x3 + 1))]) (show ab_leL _ _ from ⟨rfl, ⟨rfl, ⟨rfl, ⟨rfl, trivial⟩⟩⟩⟩) ht
set_option maxRecDepth 20000 in
theorem T_X6_gatherStops {Q : Option Value → ah_T → Prop} {h : ah_T} (hs : Sh h)  (ht : (∀ h1, h1 = ah_si h 29 10 0 → Wp mX6_gatherStops Q 0 0 7 [some (.ref 29), some (.int 0), none, none] [] h1)) : Mt mX6_gatherStops [.ref 29] h Q := by
  refine Mt.ofWp rfl (by exact (Nat.le_of_ble_eq_true rfl)) (Wp.fewer (L' := [some (.ref 29), none, none, none]) (show ab_leL _ _ from ⟨rfl, trivial⟩) ?_)
  refine ab_aload_n (i := 0) dX6_gatherStops_0 rfl rfl ?_
  refine ab_iconst (v := 0) dX6_gatherStops_1 (by decide) ?_
  refine ab_putI f_X6_40 (Or.inl rfl) rfl (sh_k hs 29 6 (by decide) rfl) rfl rfl dX6_gatherStops_2 ?_
  refine Wp.nm fun h1 e2 => ?_
  have ht := ht h1 e2
  have hs3 : Sh h1 := by rw [e2]; exact sh_si hs
  refine ab_iconst (v := 0) dX6_gatherStops_5 (by decide) ?_
  refine ab_istore_n (i := 1) (L' := [some (.ref 29), some (.int 0), none, none]) dX6_gatherStops_6 rfl (by exact (Nat.le_of_ble_eq_true rfl)) rfl rfl ?_
  exact Wp.fewer (L' := [some (.ref 29), some (.int 0), none, none]) (show ab_leL _ _ from ⟨rfl, ⟨rfl, trivial⟩⟩) ht
theorem dX6_fillCosts_0 : decode cX6_fillCosts 0 = .ok (.aload_n 0, 1) := by decide +kernel
theorem dX6_fillCosts_1 : decode cX6_fillCosts 1 = .ok (.getfield 43, 3) := by decide +kernel
theorem dX6_fillCosts_4 : decode cX6_fillCosts 4 = .ok (.ifnonnull 12, 3) := by decide +kernel
theorem dX6_fillCosts_7 : decode cX6_fillCosts 7 = .ok (.aload_n 0, 1) := by decide +kernel
theorem dX6_fillCosts_8 : decode cX6_fillCosts 8 = .ok (.sipush 10240, 3) := by decide +kernel
theorem dX6_fillCosts_11 : decode cX6_fillCosts 11 = .ok (.newarray .int, 2) := by decide +kernel
theorem dX6_fillCosts_13 : decode cX6_fillCosts 13 = .ok (.putfield 43, 3) := by decide +kernel
theorem dX6_fillCosts_16 : decode cX6_fillCosts 16 = .ok (.iconst 0, 1) := by decide +kernel
theorem dX6_fillCosts_17 : decode cX6_fillCosts 17 = .ok (.istore_n 1, 1) := by decide +kernel
theorem dX6_fillCosts_18 : decode cX6_fillCosts 18 = .ok (.iload_n 1, 1) := by decide +kernel
theorem dX6_fillCosts_19 : decode cX6_fillCosts 19 = .ok (.iconst 1, 1) := by decide +kernel
theorem dX6_fillCosts_20 : decode cX6_fillCosts 20 = .ok (.aload_n 0, 1) := by decide +kernel
theorem dX6_fillCosts_21 : decode cX6_fillCosts 21 = .ok (.getfield 40, 3) := by decide +kernel
theorem dX6_fillCosts_24 : decode cX6_fillCosts 24 = .ok (.ishl, 1) := by decide +kernel
theorem dX6_fillCosts_25 : decode cX6_fillCosts 25 = .ok (.if_icmp .ge 47, 3) := by decide +kernel
theorem dX6_fillCosts_28 : decode cX6_fillCosts 28 = .ok (.iconst 0, 1) := by decide +kernel
theorem dX6_fillCosts_29 : decode cX6_fillCosts 29 = .ok (.istore_n 2, 1) := by decide +kernel
theorem dX6_fillCosts_30 : decode cX6_fillCosts 30 = .ok (.iload_n 2, 1) := by decide +kernel
theorem dX6_fillCosts_31 : decode cX6_fillCosts 31 = .ok (.aload_n 0, 1) := by decide +kernel
theorem dX6_fillCosts_32 : decode cX6_fillCosts 32 = .ok (.getfield 40, 3) := by decide +kernel
theorem dX6_fillCosts_35 : decode cX6_fillCosts 35 = .ok (.if_icmp .ge 31, 3) := by decide +kernel
theorem dX6_fillCosts_38 : decode cX6_fillCosts 38 = .ok (.aload_n 0, 1) := by decide +kernel
theorem dX6_fillCosts_39 : decode cX6_fillCosts 39 = .ok (.getfield 43, 3) := by decide +kernel
theorem dX6_fillCosts_42 : decode cX6_fillCosts 42 = .ok (.iload_n 1, 1) := by decide +kernel
theorem dX6_fillCosts_43 : decode cX6_fillCosts 43 = .ok (.bipush 10, 2) := by decide +kernel
theorem dX6_fillCosts_45 : decode cX6_fillCosts 45 = .ok (.imul, 1) := by decide +kernel
theorem dX6_fillCosts_46 : decode cX6_fillCosts 46 = .ok (.iload_n 2, 1) := by decide +kernel
theorem dX6_fillCosts_47 : decode cX6_fillCosts 47 = .ok (.iadd, 1) := by decide +kernel
theorem dX6_fillCosts_48 : decode cX6_fillCosts 48 = .ok (.aload_n 0, 1) := by decide +kernel
theorem dX6_fillCosts_49 : decode cX6_fillCosts 49 = .ok (.aload_n 0, 1) := by decide +kernel
theorem dX6_fillCosts_50 : decode cX6_fillCosts 50 = .ok (.getfield 34, 3) := by decide +kernel
theorem dX6_fillCosts_53 : decode cX6_fillCosts 53 = .ok (.iload_n 2, 1) := by decide +kernel
theorem dX6_fillCosts_54 : decode cX6_fillCosts 54 = .ok (.iaload, 1) := by decide +kernel
theorem dX6_fillCosts_55 : decode cX6_fillCosts 55 = .ok (.iload_n 1, 1) := by decide +kernel
theorem dX6_fillCosts_56 : decode cX6_fillCosts 56 = .ok (.invokevirtual 122, 3) := by decide +kernel
theorem dX6_fillCosts_59 : decode cX6_fillCosts 59 = .ok (.iastore, 1) := by decide +kernel
theorem dX6_fillCosts_60 : decode cX6_fillCosts 60 = .ok (.iinc 2 1, 3) := by decide +kernel
theorem dX6_fillCosts_63 : decode cX6_fillCosts 63 = .ok (.goto (-33), 3) := by decide +kernel
theorem dX6_fillCosts_66 : decode cX6_fillCosts 66 = .ok (.iinc 1 1, 3) := by decide +kernel
theorem dX6_fillCosts_69 : decode cX6_fillCosts 69 = .ok (.goto (-51), 3) := by decide +kernel
theorem dX6_fillCosts_72 : decode cX6_fillCosts 72 = .ok (.return_, 1) := by decide +kernel
set_option maxRecDepth 20000 in
theorem T_X6_fillCosts_18 {Q : Option Value → ah_T → Prop} {h : ah_T} (hs : Sh h) (x1 : Int32) (ht : ((((1 : Int32) <<< ((ah_i h 29 10) &&& 31)) ≤ x1 → Q none h) ∧ (¬ ((1 : Int32) <<< ((ah_i h 29 10) &&& 31)) ≤ x1 → Wp mX6_fillCosts Q 1 10240 30 [some (.ref 29), some (.int x1), some (.int 0)] [] h))) : Wp mX6_fillCosts Q 1 10240 18 [some (.ref 29), some (.int x1), none] [] h := by
  refine ab_iload_n (i := 1) dX6_fillCosts_18 rfl rfl ?_
  refine ab_iconst (v := 1) dX6_fillCosts_19 (by decide) ?_
  refine ab_aload_n (i := 0) dX6_fillCosts_20 rfl rfl ?_
  refine ab_getI f_X6_40 rfl (sh_k hs 29 6 (by decide) rfl) dX6_fillCosts_21 ?_
  refine ab_ishl dX6_fillCosts_24 ?_
  refine ab_icmp_ge (tgt := 72) dX6_fillCosts_25 (by decide) (fun c15 => ?_) (fun c15 => ?_)
  · have ht := ht.1 c15
    exact ab_vret rfl dX6_fillCosts_72 (Nat.le_of_ble_eq_true rfl) (Nat.le_of_ble_eq_true rfl) ht
  · have ht := ht.2 c15
    refine ab_iconst (v := 0) dX6_fillCosts_28 (by decide) ?_
    refine ab_istore_n (i := 2) (L' := [some (.ref 29), some (.int x1), some (.int 0)]) dX6_fillCosts_29 rfl (by exact (Nat.le_of_ble_eq_true rfl)) rfl rfl ?_
    exact Wp.fewer (L' := [some (.ref 29), some (.int x1), some (.int 0)]) (show ab_leL _ _ from ⟨rfl, ⟨rfl, ⟨rfl, trivial⟩⟩⟩) ht
set_option maxRecDepth 20000 in
theorem T_X6_fillCosts_30 {Q : Option Value → ah_T → Prop} {h : ah_T} (hs : Sh h) (x1 : Int32) (x2 : Int32) (ht : (((ah_i h 29 10) ≤ x2 → Wp mX6_fillCosts Q 1 10240 18 [some (.ref 29), some (.int (x1 + 1)), none] [] h) ∧ (¬ (ah_i h 29 10) ≤ x2 → ((ah_r h 29 11 = none → (vp_in x2 (ah_n h 36)) ∧ (Mt mX6_rest [.ref 29, .int (ah_i h 36 (Int32.toNatClampNeg x2)), .int x1] h (ab_qi fun v23 h21 => Sh h21 ∧ False))) ∧ (∀ b18, ah_r h 29 11 = some b18 → (ah_k h b18 = 14) ∧ (vp_in x2 (ah_n h 36)) ∧ (Mt mX6_rest [.ref 29, .int (ah_i h 36 (Int32.toNatClampNeg x2)), .int x1] h (ab_qi fun v27 h25 => Sh h25 ∧ ah_k h25 b18 = 14 ∧ (vp_in ((x1 * 10) + x2) (ah_n h25 b18)) ∧ (∀ h30, h30 = ah_si h25 b18 (Int32.toNatClampNeg ((x1 * 10) + x2)) v27 → Wp mX6_fillCosts Q 1 10240 30 [some (.ref 29), some (.int x1), some (.int (x2 + 1))] [] h30)))))))) : Wp mX6_fillCosts Q 1 10240 30 [some (.ref 29), some (.int x1), some (.int x2)] [] h := by
  refine ab_iload_n (i := 2) dX6_fillCosts_30 rfl rfl ?_
  refine ab_aload_n (i := 0) dX6_fillCosts_31 rfl rfl ?_
  refine ab_getI f_X6_40 rfl (sh_k hs 29 6 (by decide) rfl) dX6_fillCosts_32 ?_
  refine ab_icmp_ge (tgt := 66) dX6_fillCosts_35 (by decide) (fun c16 => ?_) (fun c16 => ?_)
  · have ht := ht.1 c16
    refine ab_iinc (i := 1) (x := x1) (v := (x1 + 1)) (L' := [some (.ref 29), some (.int (x1 + 1)), some (.int x2)]) dX6_fillCosts_66 rfl rfl (by exact (Nat.le_of_ble_eq_true rfl)) rfl rfl ?_
    refine ab_goto (tgt := 18) dX6_fillCosts_69 (by decide) ?_
    exact Wp.fewer (L' := [some (.ref 29), some (.int (x1 + 1)), none]) (show ab_leL _ _ from ⟨rfl, ⟨rfl, trivial⟩⟩) ht
  · have ht := ht.2 c16
    refine ab_aload_n (i := 0) dX6_fillCosts_38 rfl rfl ?_
    rcases hr17 : ah_r h 29 11 with _ | b18
    · have ht := ht.1 hr17
      refine ab_getN f_X6_43 rfl (sh_k hs 29 6 (by decide) rfl) hr17 dX6_fillCosts_39 ?_
      refine ab_iload_n (i := 1) dX6_fillCosts_42 rfl rfl ?_
      refine ab_bipush (v := 10) dX6_fillCosts_43 (by decide) ?_
      refine ab_imul dX6_fillCosts_45 ?_
      refine ab_iload_n (i := 2) dX6_fillCosts_46 rfl rfl ?_
      refine ab_iadd dX6_fillCosts_47 ?_
      refine ab_aload_n (i := 0) dX6_fillCosts_48 rfl rfl ?_
      refine ab_aload_n (i := 0) dX6_fillCosts_49 rfl rfl ?_
      refine ab_getR (b := 36) f_X6_34 rfl (sh_k hs 29 6 (by decide) rfl) (sh_r hs 41 rfl) dX6_fillCosts_50 ?_
      refine ab_iload_n (i := 2) dX6_fillCosts_53 rfl rfl ?_
      obtain ⟨hc20, ht⟩ := ht
      refine ab_iald (sh_k hs 36 14 (by decide) rfl) hc20 dX6_fillCosts_54 ?_
      refine ab_iload_n (i := 1) dX6_fillCosts_55 rfl rfl ?_
      refine ab_callV (b := 29) (As := [.int (ah_i h 36 (Int32.toNatClampNeg x2)), .int x1]) ht (Y_X6_rest) l_X6_122 in_X6_rest se_X6_rest (sh_k hs 29 6 (by decide) rfl) (by decide) rfl rfl ⟨(Nat.le_of_ble_eq_true rfl), (Nat.le_of_ble_eq_true rfl), (Nat.le_of_ble_eq_true rfl), (Nat.le_of_ble_eq_true rfl)⟩ dX6_fillCosts_56 ?_
      rintro _ h21 ⟨v23, rfl, hs22, ht⟩
      exact False.elim ht
    · obtain ⟨hk19, ht⟩ := ht.2 b18 hr17
      refine ab_getR (b := b18) f_X6_43 rfl (sh_k hs 29 6 (by decide) rfl) hr17 dX6_fillCosts_39 ?_
      refine ab_iload_n (i := 1) dX6_fillCosts_42 rfl rfl ?_
      refine ab_bipush (v := 10) dX6_fillCosts_43 (by decide) ?_
      refine ab_imul dX6_fillCosts_45 ?_
      refine ab_iload_n (i := 2) dX6_fillCosts_46 rfl rfl ?_
      refine ab_iadd dX6_fillCosts_47 ?_
      refine ab_aload_n (i := 0) dX6_fillCosts_48 rfl rfl ?_
      refine ab_aload_n (i := 0) dX6_fillCosts_49 rfl rfl ?_
      refine ab_getR (b := 36) f_X6_34 rfl (sh_k hs 29 6 (by decide) rfl) (sh_r hs 41 rfl) dX6_fillCosts_50 ?_
      refine ab_iload_n (i := 2) dX6_fillCosts_53 rfl rfl ?_
      obtain ⟨hc24, ht⟩ := ht
      refine ab_iald (sh_k hs 36 14 (by decide) rfl) hc24 dX6_fillCosts_54 ?_
      refine ab_iload_n (i := 1) dX6_fillCosts_55 rfl rfl ?_
      refine ab_callV (b := 29) (As := [.int (ah_i h 36 (Int32.toNatClampNeg x2)), .int x1]) ht (Y_X6_rest) l_X6_122 in_X6_rest se_X6_rest (sh_k hs 29 6 (by decide) rfl) (by decide) rfl rfl ⟨(Nat.le_of_ble_eq_true rfl), (Nat.le_of_ble_eq_true rfl), (Nat.le_of_ble_eq_true rfl), (Nat.le_of_ble_eq_true rfl)⟩ dX6_fillCosts_56 ?_
      rintro _ h25 ⟨v27, rfl, hs26, hk28, ht⟩
      obtain ⟨hc29, ht⟩ := ht
      refine ab_iast hk28 hc29 dX6_fillCosts_59 ?_
      refine Wp.nm fun h30 e31 => ?_
      have ht := ht h30 e31
      have hs32 : Sh h30 := by rw [e31]; exact sh_si hs26
      have hk33 : ah_k h30 b18 = 14 := by rw [e31]; exact hk28
      refine ab_iinc (i := 2) (x := x2) (v := (x2 + 1)) (L' := [some (.ref 29), some (.int x1), some (.int (x2 + 1))]) dX6_fillCosts_60 rfl rfl (by exact (Nat.le_of_ble_eq_true rfl)) rfl rfl ?_
      refine ab_goto (tgt := 30) dX6_fillCosts_63 (by decide) ?_
      exact Wp.fewer (L' := [some (.ref 29), some (.int x1), some (.int (x2 + 1))]) (show ab_leL _ _ from ⟨rfl, ⟨rfl, ⟨rfl, trivial⟩⟩⟩) ht
set_option maxRecDepth 20000 in
theorem T_X6_fillCosts {Q : Option Value → ah_T → Prop} {h : ah_T} (hs : Sh h)  (ht : ((ah_r h 29 11 = none → (∀ w4, w4 = ah_x h → (∀ h6, h6 = ah_nw h 14 10240 → (∀ h11, h11 = ah_sr h6 29 11 (some w4) → Wp mX6_fillCosts Q 1 10240 18 [some (.ref 29), some (.int 0), none] [] h11)))) ∧ (∀ b2, ah_r h 29 11 = some b2 → (ah_k h b2 = 14) ∧ Wp mX6_fillCosts Q 1 10240 18 [some (.ref 29), some (.int 0), none] [] h))) : Mt mX6_fillCosts [.ref 29] h Q := by
  refine Mt.ofWp rfl (by exact (Nat.le_of_ble_eq_true rfl)) (Wp.fewer (L' := [some (.ref 29), none, none]) (show ab_leL _ _ from ⟨rfl, trivial⟩) ?_)
  refine ab_aload_n (i := 0) dX6_fillCosts_0 rfl rfl ?_
  rcases hr1 : ah_r h 29 11 with _ | b2
  · have ht := ht.1 hr1
    refine ab_getN f_X6_43 rfl (sh_k hs 29 6 (by decide) rfl) hr1 dX6_fillCosts_1 ?_
    refine ab_nonnullN dX6_fillCosts_4 ?_
    refine ab_aload_n (i := 0) dX6_fillCosts_7 rfl rfl ?_
    refine ab_sipush (v := 10240) dX6_fillCosts_8 (by decide) ?_
    refine ab_newa (N := 10240) 14 1 .int (by decide) rfl wa_int (by decide) (by decide) (by decide) (Nat.le_of_ble_eq_true rfl) (Nat.le_of_ble_eq_true rfl) dX6_fillCosts_11 ?_
    obtain ⟨w4, ew5⟩ : ∃ z, z = ah_x h := ⟨_, rfl⟩
    rw [← ew5]
    have ht := ht w4 ew5
    refine Wp.nm fun h6 e7 => ?_
    have ht := ht h6 e7
    have hs8 : Sh h6 := by rw [e7]; exact sh_nw hs
    have hk9 : ah_k h6 w4 = 14 := by rw [e7, ew5, ah_k_nw, if_pos rfl]
    have hn10 : ah_n h6 w4 = 10240 := by rw [e7, ew5, ah_n_nw, if_pos rfl]
    refine ab_putR (r := (some w4)) f_X6_43 (Or.inl rfl) rfl (sh_k hs8 29 6 (by decide) rfl) (fun x => by cases x <;> rfl) (fun x => by cases x <;> rfl) dX6_fillCosts_13 ?_
    refine Wp.nm fun h11 e12 => ?_
    have ht := ht h11 e12
    have hs13 : Sh h11 := by rw [e12]; exact sh_sr hs8 (by decide +kernel)
    have hk14 : ah_k h11 w4 = 14 := by rw [e12]; exact hk9
    refine ab_iconst (v := 0) dX6_fillCosts_16 (by decide) ?_
    refine ab_istore_n (i := 1) (L' := [some (.ref 29), some (.int 0), none]) dX6_fillCosts_17 rfl (by exact (Nat.le_of_ble_eq_true rfl)) rfl rfl ?_
    exact Wp.fewer (L' := [some (.ref 29), some (.int 0), none]) (show ab_leL _ _ from ⟨rfl, ⟨rfl, trivial⟩⟩) ht
  · obtain ⟨hk3, ht⟩ := ht.2 b2 hr1
    refine ab_getR (b := b2) f_X6_43 rfl (sh_k hs 29 6 (by decide) rfl) hr1 dX6_fillCosts_1 ?_
    refine ab_nonnull (tgt := 16) dX6_fillCosts_4 (by decide) ?_
    refine ab_iconst (v := 0) dX6_fillCosts_16 (by decide) ?_
    refine ab_istore_n (i := 1) (L' := [some (.ref 29), some (.int 0), none]) dX6_fillCosts_17 rfl (by exact (Nat.le_of_ble_eq_true rfl)) rfl rfl ?_
    refine Wp.wide (c1 := 1) (s1 := 10240) (Nat.le_of_ble_eq_true rfl) (Nat.le_of_ble_eq_true rfl) ?_
    exact Wp.fewer (L' := [some (.ref 29), some (.int 0), none]) (show ab_leL _ _ from ⟨rfl, ⟨rfl, trivial⟩⟩) ht
theorem dX6_rest_0 : decode cX6_rest 0 = .ok (.iload_n 2, 1) := by decide +kernel
theorem dX6_rest_1 : decode cX6_rest 1 = .ok (.ifCond .ne 7, 3) := by decide +kernel
theorem dX6_rest_4 : decode cX6_rest 4 = .ok (.iconst 0, 1) := by decide +kernel
theorem dX6_rest_5 : decode cX6_rest 5 = .ok (.goto 5, 3) := by decide +kernel
theorem dX6_rest_8 : decode cX6_rest 8 = .ok (.ldc 129, 2) := by decide +kernel
theorem dX6_rest_10 : decode cX6_rest 10 = .ok (.istore_n 3, 1) := by decide +kernel
theorem dX6_rest_11 : decode cX6_rest 11 = .ok (.iconst 0, 1) := by decide +kernel
theorem dX6_rest_12 : decode cX6_rest 12 = .ok (.istore 4, 2) := by decide +kernel
theorem dX6_rest_14 : decode cX6_rest 14 = .ok (.iload 4, 2) := by decide +kernel
theorem dX6_rest_16 : decode cX6_rest 16 = .ok (.aload_n 0, 1) := by decide +kernel
theorem dX6_rest_17 : decode cX6_rest 17 = .ok (.getfield 40, 3) := by decide +kernel
theorem dX6_rest_20 : decode cX6_rest 20 = .ok (.if_icmp .ge 57, 3) := by decide +kernel
theorem dX6_rest_23 : decode cX6_rest 23 = .ok (.iload_n 2, 1) := by decide +kernel
theorem dX6_rest_24 : decode cX6_rest 24 = .ok (.iload 4, 2) := by decide +kernel
theorem dX6_rest_26 : decode cX6_rest 26 = .ok (.ishr, 1) := by decide +kernel
theorem dX6_rest_27 : decode cX6_rest 27 = .ok (.iconst 1, 1) := by decide +kernel
theorem dX6_rest_28 : decode cX6_rest 28 = .ok (.iand, 1) := by decide +kernel
theorem dX6_rest_29 : decode cX6_rest 29 = .ok (.ifCond .eq 42, 3) := by decide +kernel
theorem dX6_rest_32 : decode cX6_rest 32 = .ok (.aload_n 0, 1) := by decide +kernel
theorem dX6_rest_33 : decode cX6_rest 33 = .ok (.getfield 43, 3) := by decide +kernel
theorem dX6_rest_36 : decode cX6_rest 36 = .ok (.iload_n 2, 1) := by decide +kernel
theorem dX6_rest_37 : decode cX6_rest 37 = .ok (.iconst 1, 1) := by decide +kernel
theorem dX6_rest_38 : decode cX6_rest 38 = .ok (.iload 4, 2) := by decide +kernel
theorem dX6_rest_40 : decode cX6_rest 40 = .ok (.ishl, 1) := by decide +kernel
theorem dX6_rest_41 : decode cX6_rest 41 = .ok (.ixor, 1) := by decide +kernel
theorem dX6_rest_42 : decode cX6_rest 42 = .ok (.bipush 10, 2) := by decide +kernel
theorem dX6_rest_44 : decode cX6_rest 44 = .ok (.imul, 1) := by decide +kernel
theorem dX6_rest_45 : decode cX6_rest 45 = .ok (.iload 4, 2) := by decide +kernel
theorem dX6_rest_47 : decode cX6_rest 47 = .ok (.iadd, 1) := by decide +kernel
theorem dX6_rest_48 : decode cX6_rest 48 = .ok (.iaload, 1) := by decide +kernel
theorem dX6_rest_49 : decode cX6_rest 49 = .ok (.istore 5, 2) := by decide +kernel
theorem dX6_rest_51 : decode cX6_rest 51 = .ok (.iload_n 3, 1) := by decide +kernel
theorem dX6_rest_52 : decode cX6_rest 52 = .ok (.aload_n 0, 1) := by decide +kernel
theorem dX6_rest_53 : decode cX6_rest 53 = .ok (.iload_n 1, 1) := by decide +kernel
theorem dX6_rest_54 : decode cX6_rest 54 = .ok (.aload_n 0, 1) := by decide +kernel
theorem dX6_rest_55 : decode cX6_rest 55 = .ok (.getfield 34, 3) := by decide +kernel
theorem dX6_rest_58 : decode cX6_rest 58 = .ok (.iload 4, 2) := by decide +kernel
theorem dX6_rest_60 : decode cX6_rest 60 = .ok (.iaload, 1) := by decide +kernel
theorem dX6_rest_61 : decode cX6_rest 61 = .ok (.invokevirtual 110, 3) := by decide +kernel
theorem dX6_rest_64 : decode cX6_rest 64 = .ok (.iload 5, 2) := by decide +kernel
theorem dX6_rest_66 : decode cX6_rest 66 = .ok (.iadd, 1) := by decide +kernel
theorem dX6_rest_67 : decode cX6_rest 67 = .ok (.invokestatic 130, 3) := by decide +kernel
theorem dX6_rest_70 : decode cX6_rest 70 = .ok (.istore_n 3, 1) := by decide +kernel
theorem dX6_rest_71 : decode cX6_rest 71 = .ok (.iinc 4 1, 3) := by decide +kernel
theorem dX6_rest_74 : decode cX6_rest 74 = .ok (.goto (-60), 3) := by decide +kernel
theorem dX6_rest_77 : decode cX6_rest 77 = .ok (.iload_n 3, 1) := by decide +kernel
theorem dX6_rest_78 : decode cX6_rest 78 = .ok (.ireturn, 1) := by decide +kernel
set_option maxRecDepth 20000 in
theorem T_X6_rest_14 {Q : Option Value → ah_T → Prop} {h : ah_T} (hs : Sh h) (x1 : Int32) (x2 : Int32) (x3 : Int32) (x4 : Int32) (ht : (((ah_i h 29 10) ≤ x4 → Q (some (.int x3)) h) ∧ (¬ (ah_i h 29 10) ≤ x4 → ((((x2 >>> (x4 &&& 31)) &&& 1) = 0 → Wp mX6_rest Q 0 0 14 [some (.ref 29), some (.int x1), some (.int x2), some (.int x3), some (.int (x4 + 1)), none] [] h) ∧ (¬ ((x2 >>> (x4 &&& 31)) &&& 1) = 0 → ((ah_r h 29 11 = none → False) ∧ (∀ b5, ah_r h 29 11 = some b5 → (ah_k h b5 = 14) ∧ (vp_in (((x2 ^^^ ((1 : Int32) <<< (x4 &&& 31))) * 10) + x4) (ah_n h b5)) ∧ (vp_in x4 (ah_n h 36)) ∧ ((¬ (f_X11_isIn x1 12) = 0 → (¬ (f_X11_isIn (ah_i h 36 (Int32.toNatClampNeg x4)) 12) = 0 → vp_in ((x1 * 12) + (ah_i h 36 (Int32.toNatClampNeg x4))) (ah_n h 33)))) ∧ Wp mX6_rest Q 0 0 14 [some (.ref 29), some (.int x1), some (.int x2), some (.int (if ((f_X6_steps h x1 (ah_i h 36 (Int32.toNatClampNeg x4))) + (ah_i h b5 (Int32.toNatClampNeg (((x2 ^^^ ((1 : Int32) <<< (x4 &&& 31))) * 10) + x4)))) < x3 then ((f_X6_steps h x1 (ah_i h 36 (Int32.toNatClampNeg x4))) + (ah_i h b5 (Int32.toNatClampNeg (((x2 ^^^ ((1 : Int32) <<< (x4 &&& 31))) * 10) + x4)))) else x3)), some (.int (x4 + 1)), none] [] h))))))) : Wp mX6_rest Q 0 0 14 [some (.ref 29), some (.int x1), some (.int x2), some (.int x3), some (.int x4), none] [] h := by
  refine ab_iload (i := 4) dX6_rest_14 rfl ?_
  refine ab_aload_n (i := 0) dX6_rest_16 rfl rfl ?_
  refine ab_getI f_X6_40 rfl (sh_k hs 29 6 (by decide) rfl) dX6_rest_17 ?_
  refine ab_icmp_ge (tgt := 77) dX6_rest_20 (by decide) (fun c2 => ?_) (fun c2 => ?_)
  · have ht := ht.1 c2
    refine ab_iload_n (i := 3) dX6_rest_77 rfl rfl ?_
    exact ab_iret rfl dX6_rest_78 (Nat.le_of_ble_eq_true rfl) (Nat.le_of_ble_eq_true rfl) ht
  · have ht := ht.2 c2
    refine ab_iload_n (i := 2) dX6_rest_23 rfl rfl ?_
    refine ab_iload (i := 4) dX6_rest_24 rfl ?_
    refine ab_ishr dX6_rest_26 ?_
    refine ab_iconst (v := 1) dX6_rest_27 (by decide) ?_
    refine ab_iand dX6_rest_28 ?_
    refine ab_if_eq (tgt := 71) dX6_rest_29 (by decide) (fun c3 => ?_) (fun c3 => ?_)
    · have ht := ht.1 c3
      refine ab_iinc (i := 4) (x := x4) (v := (x4 + 1)) (L' := [some (.ref 29), some (.int x1), some (.int x2), some (.int x3), some (.int (x4 + 1)), none]) dX6_rest_71 rfl rfl (by exact (Nat.le_of_ble_eq_true rfl)) rfl rfl ?_
      refine ab_goto (tgt := 14) dX6_rest_74 (by decide) ?_
      exact Wp.fewer (L' := [some (.ref 29), some (.int x1), some (.int x2), some (.int x3), some (.int (x4 + 1)), none]) (show ab_leL _ _ from ⟨rfl, ⟨rfl, ⟨rfl, ⟨rfl, ⟨rfl, trivial⟩⟩⟩⟩⟩) ht
    · have ht := ht.2 c3
      refine ab_aload_n (i := 0) dX6_rest_32 rfl rfl ?_
      rcases hr4 : ah_r h 29 11 with _ | b5
      · have ht := ht.1 hr4
        refine ab_getN f_X6_43 rfl (sh_k hs 29 6 (by decide) rfl) hr4 dX6_rest_33 ?_
        refine ab_iload_n (i := 2) dX6_rest_36 rfl rfl ?_
        refine ab_iconst (v := 1) dX6_rest_37 (by decide) ?_
        refine ab_iload (i := 4) dX6_rest_38 rfl ?_
        refine ab_ishl dX6_rest_40 ?_
        refine ab_ixor dX6_rest_41 ?_
        refine ab_bipush (v := 10) dX6_rest_42 (by decide) ?_
        refine ab_imul dX6_rest_44 ?_
        refine ab_iload (i := 4) dX6_rest_45 rfl ?_
        refine ab_iadd dX6_rest_47 ?_
        exact False.elim ht
      · obtain ⟨hk6, ht⟩ := ht.2 b5 hr4
        refine ab_getR (b := b5) f_X6_43 rfl (sh_k hs 29 6 (by decide) rfl) hr4 dX6_rest_33 ?_
        refine ab_iload_n (i := 2) dX6_rest_36 rfl rfl ?_
        refine ab_iconst (v := 1) dX6_rest_37 (by decide) ?_
        refine ab_iload (i := 4) dX6_rest_38 rfl ?_
        refine ab_ishl dX6_rest_40 ?_
        refine ab_ixor dX6_rest_41 ?_
        refine ab_bipush (v := 10) dX6_rest_42 (by decide) ?_
        refine ab_imul dX6_rest_44 ?_
        refine ab_iload (i := 4) dX6_rest_45 rfl ?_
        refine ab_iadd dX6_rest_47 ?_
        obtain ⟨hc7, ht⟩ := ht
        refine ab_iald hk6 hc7 dX6_rest_48 ?_
        refine ab_istore (i := 5) (L' := [some (.ref 29), some (.int x1), some (.int x2), some (.int x3), some (.int x4), some (.int (ah_i h b5 (Int32.toNatClampNeg (((x2 ^^^ ((1 : Int32) <<< (x4 &&& 31))) * 10) + x4))))]) dX6_rest_49 (by exact (Nat.le_of_ble_eq_true rfl)) rfl rfl ?_
        refine ab_iload_n (i := 3) dX6_rest_51 rfl rfl ?_
        refine ab_aload_n (i := 0) dX6_rest_52 rfl rfl ?_
        refine ab_iload_n (i := 1) dX6_rest_53 rfl rfl ?_
        refine ab_aload_n (i := 0) dX6_rest_54 rfl rfl ?_
        refine ab_getR (b := 36) f_X6_34 rfl (sh_k hs 29 6 (by decide) rfl) (sh_r hs 41 rfl) dX6_rest_55 ?_
        refine ab_iload (i := 4) dX6_rest_58 rfl ?_
        obtain ⟨hc8, ht⟩ := ht
        refine ab_iald (sh_k hs 36 14 (by decide) rfl) hc8 dX6_rest_60 ?_
        obtain ⟨hc9, ht⟩ := ht
        refine ab_callV (b := 29) (Q' := fun r h' => r = some (.int (f_X6_steps h x1 (ah_i h 36 (Int32.toNatClampNeg x4)))) ∧ h = h') (As := [.int x1, .int (ah_i h 36 (Int32.toNatClampNeg x4))]) (c_X6_steps hs x1 (ah_i h 36 (Int32.toNatClampNeg x4))  hc9 ⟨rfl, rfl⟩) (Y_X6_steps) l_X6_110 in_X6_steps se_X6_steps (sh_k hs 29 6 (by decide) rfl) (by decide) rfl rfl ⟨(Nat.le_of_ble_eq_true rfl), (Nat.le_of_ble_eq_true rfl), (Nat.le_of_ble_eq_true rfl), (Nat.le_of_ble_eq_true rfl)⟩ dX6_rest_61 ?_
        rintro _ _ ⟨rfl, rfl⟩
        refine ab_iload (i := 5) dX6_rest_64 rfl ?_
        refine ab_iadd dX6_rest_66 ?_
        refine ab_mmin (tb_5 (List.mem_of_getElem? (i := 196) (by decide +kernel)) rfl) st_mmin in_m co_mmin (Nat.le_of_ble_eq_true rfl) (Nat.le_of_ble_eq_true rfl) (Nat.le_of_ble_eq_true rfl) (Nat.le_of_ble_eq_true rfl) dX6_rest_67 ?_
        refine ab_istore_n (i := 3) (L' := [some (.ref 29), some (.int x1), some (.int x2), some (.int (if ((f_X6_steps h x1 (ah_i h 36 (Int32.toNatClampNeg x4))) + (ah_i h b5 (Int32.toNatClampNeg (((x2 ^^^ ((1 : Int32) <<< (x4 &&& 31))) * 10) + x4)))) < x3 then ((f_X6_steps h x1 (ah_i h 36 (Int32.toNatClampNeg x4))) + (ah_i h b5 (Int32.toNatClampNeg (((x2 ^^^ ((1 : Int32) <<< (x4 &&& 31))) * 10) + x4)))) else x3)), some (.int x4), some (.int (ah_i h b5 (Int32.toNatClampNeg (((x2 ^^^ ((1 : Int32) <<< (x4 &&& 31))) * 10) + x4))))]) dX6_rest_70 rfl (by exact (Nat.le_of_ble_eq_true rfl)) rfl rfl ?_
        refine ab_iinc (i := 4) (x := x4) (v := (x4 + 1)) (L' := [some (.ref 29), some (.int x1), some (.int x2), some (.int (if ((f_X6_steps h x1 (ah_i h 36 (Int32.toNatClampNeg x4))) + (ah_i h b5 (Int32.toNatClampNeg (((x2 ^^^ ((1 : Int32) <<< (x4 &&& 31))) * 10) + x4)))) < x3 then ((f_X6_steps h x1 (ah_i h 36 (Int32.toNatClampNeg x4))) + (ah_i h b5 (Int32.toNatClampNeg (((x2 ^^^ ((1 : Int32) <<< (x4 &&& 31))) * 10) + x4)))) else x3)), some (.int (x4 + 1)), some (.int (ah_i h b5 (Int32.toNatClampNeg (((x2 ^^^ ((1 : Int32) <<< (x4 &&& 31))) * 10) + x4))))]) dX6_rest_71 rfl rfl (by exact (Nat.le_of_ble_eq_true rfl)) rfl rfl ?_
        refine ab_goto (tgt := 14) dX6_rest_74 (by decide) ?_
        exact Wp.fewer (L' := [some (.ref 29), some (.int x1), some (.int x2), some (.int (if ((f_X6_steps h x1 (ah_i h 36 (Int32.toNatClampNeg x4))) + (ah_i h b5 (Int32.toNatClampNeg (((x2 ^^^ ((1 : Int32) <<< (x4 &&& 31))) * 10) + x4)))) < x3 then ((f_X6_steps h x1 (ah_i h 36 (Int32.toNatClampNeg x4))) + (ah_i h b5 (Int32.toNatClampNeg (((x2 ^^^ ((1 : Int32) <<< (x4 &&& 31))) * 10) + x4)))) else x3)), some (.int (x4 + 1)), none]) (show ab_leL _ _ from ⟨rfl, ⟨rfl, ⟨rfl, ⟨rfl, ⟨rfl, trivial⟩⟩⟩⟩⟩) ht
set_option maxRecDepth 20000 in
theorem T_X6_rest {Q : Option Value → ah_T → Prop} {h : ah_T} (hs : Sh h) (x1 : Int32) (x2 : Int32) (ht : ((¬ x2 = 0 → Wp mX6_rest Q 0 0 14 [some (.ref 29), some (.int x1), some (.int x2), some (.int 1000000), some (.int 0), none] [] h) ∧ (x2 = 0 → Wp mX6_rest Q 0 0 14 [some (.ref 29), some (.int x1), some (.int x2), some (.int 0), some (.int 0), none] [] h))) : Mt mX6_rest [.ref 29, .int x1, .int x2] h Q := by
  refine Mt.ofWp rfl (by exact (Nat.le_of_ble_eq_true rfl)) (Wp.fewer (L' := [some (.ref 29), some (.int x1), some (.int x2), none, none, none]) (show ab_leL _ _ from ⟨rfl, ⟨rfl, ⟨rfl, trivial⟩⟩⟩) ?_)
  refine ab_iload_n (i := 2) dX6_rest_0 rfl rfl ?_
  refine ab_if_ne (tgt := 8) dX6_rest_1 (by decide) (fun c1 => ?_) (fun c1 => ?_)
  · have ht := ht.1 c1
    refine ab_ldc (v := 1000000) (tb_5 (List.mem_of_getElem? (i := 195) (by decide +kernel)) rfl) dX6_rest_8 ?_
    refine ab_istore_n (i := 3) (L' := [some (.ref 29), some (.int x1), some (.int x2), some (.int 1000000), none, none]) dX6_rest_10 rfl (by exact (Nat.le_of_ble_eq_true rfl)) rfl rfl ?_
    refine ab_iconst (v := 0) dX6_rest_11 (by decide) ?_
    refine ab_istore (i := 4) (L' := [some (.ref 29), some (.int x1), some (.int x2), some (.int 1000000), some (.int 0), none]) dX6_rest_12 (by exact (Nat.le_of_ble_eq_true rfl)) rfl rfl ?_
    exact Wp.fewer (L' := [some (.ref 29), some (.int x1), some (.int x2), some (.int 1000000), some (.int 0), none]) (show ab_leL _ _ from ⟨rfl, ⟨rfl, ⟨rfl, ⟨rfl, ⟨rfl, trivial⟩⟩⟩⟩⟩) ht
  · have ht := ht.2 c1
    refine ab_iconst (v := 0) dX6_rest_4 (by decide) ?_
    refine ab_goto (tgt := 10) dX6_rest_5 (by decide) ?_
    refine ab_istore_n (i := 3) (L' := [some (.ref 29), some (.int x1), some (.int x2), some (.int 0), none, none]) dX6_rest_10 rfl (by exact (Nat.le_of_ble_eq_true rfl)) rfl rfl ?_
    refine ab_iconst (v := 0) dX6_rest_11 (by decide) ?_
    refine ab_istore (i := 4) (L' := [some (.ref 29), some (.int x1), some (.int x2), some (.int 0), some (.int 0), none]) dX6_rest_12 (by exact (Nat.le_of_ble_eq_true rfl)) rfl rfl ?_
    exact Wp.fewer (L' := [some (.ref 29), some (.int x1), some (.int x2), some (.int 0), some (.int 0), none]) (show ab_leL _ _ from ⟨rfl, ⟨rfl, ⟨rfl, ⟨rfl, ⟨rfl, trivial⟩⟩⟩⟩⟩) ht
theorem dX6_stopsOf_0 : decode cX6_stopsOf 0 = .ok (.iconst 0, 1) := by decide +kernel
theorem dX6_stopsOf_1 : decode cX6_stopsOf 1 = .ok (.istore_n 2, 1) := by decide +kernel
theorem dX6_stopsOf_2 : decode cX6_stopsOf 2 = .ok (.iconst 0, 1) := by decide +kernel
theorem dX6_stopsOf_3 : decode cX6_stopsOf 3 = .ok (.istore_n 3, 1) := by decide +kernel
theorem dX6_stopsOf_4 : decode cX6_stopsOf 4 = .ok (.iload_n 3, 1) := by decide +kernel
theorem dX6_stopsOf_5 : decode cX6_stopsOf 5 = .ok (.aload_n 0, 1) := by decide +kernel
theorem dX6_stopsOf_6 : decode cX6_stopsOf 6 = .ok (.getfield 53, 3) := by decide +kernel
theorem dX6_stopsOf_9 : decode cX6_stopsOf 9 = .ok (.getfield 107, 3) := by decide +kernel
theorem dX6_stopsOf_12 : decode cX6_stopsOf 12 = .ok (.getfield 69, 3) := by decide +kernel
theorem dX6_stopsOf_15 : decode cX6_stopsOf 15 = .ok (.if_icmp .ge 28, 3) := by decide +kernel
theorem dX6_stopsOf_18 : decode cX6_stopsOf 18 = .ok (.iload_n 1, 1) := by decide +kernel
theorem dX6_stopsOf_19 : decode cX6_stopsOf 19 = .ok (.iload_n 3, 1) := by decide +kernel
theorem dX6_stopsOf_20 : decode cX6_stopsOf 20 = .ok (.ishr, 1) := by decide +kernel
theorem dX6_stopsOf_21 : decode cX6_stopsOf 21 = .ok (.iconst 1, 1) := by decide +kernel
theorem dX6_stopsOf_22 : decode cX6_stopsOf 22 = .ok (.iand, 1) := by decide +kernel
theorem dX6_stopsOf_23 : decode cX6_stopsOf 23 = .ok (.ifCond .eq 14, 3) := by decide +kernel
theorem dX6_stopsOf_26 : decode cX6_stopsOf 26 = .ok (.iload_n 2, 1) := by decide +kernel
theorem dX6_stopsOf_27 : decode cX6_stopsOf 27 = .ok (.iconst 1, 1) := by decide +kernel
theorem dX6_stopsOf_28 : decode cX6_stopsOf 28 = .ok (.aload_n 0, 1) := by decide +kernel
theorem dX6_stopsOf_29 : decode cX6_stopsOf 29 = .ok (.getfield 37, 3) := by decide +kernel
theorem dX6_stopsOf_32 : decode cX6_stopsOf 32 = .ok (.iload_n 3, 1) := by decide +kernel
theorem dX6_stopsOf_33 : decode cX6_stopsOf 33 = .ok (.iaload, 1) := by decide +kernel
theorem dX6_stopsOf_34 : decode cX6_stopsOf 34 = .ok (.ishl, 1) := by decide +kernel
theorem dX6_stopsOf_35 : decode cX6_stopsOf 35 = .ok (.ior, 1) := by decide +kernel
theorem dX6_stopsOf_36 : decode cX6_stopsOf 36 = .ok (.istore_n 2, 1) := by decide +kernel
theorem dX6_stopsOf_37 : decode cX6_stopsOf 37 = .ok (.iinc 3 1, 3) := by decide +kernel
theorem dX6_stopsOf_40 : decode cX6_stopsOf 40 = .ok (.goto (-36), 3) := by decide +kernel
theorem dX6_stopsOf_43 : decode cX6_stopsOf 43 = .ok (.iload_n 2, 1) := by decide +kernel
theorem dX6_stopsOf_44 : decode cX6_stopsOf 44 = .ok (.ireturn, 1) := by decide +kernel
set_option maxRecDepth 20000 in
theorem T_X6_stopsOf_4 {Q : Option Value → ah_T → Prop} {h : ah_T} (hs : Sh h) (x1 : Int32) (x2 : Int32) (x3 : Int32) (ht : (((ah_i h 4 3) ≤ x3 → Q (some (.int x2)) h) ∧ (¬ (ah_i h 4 3) ≤ x3 → ((((x1 >>> (x3 &&& 31)) &&& 1) = 0 → Wp mX6_stopsOf Q 0 0 4 [some (.ref 29), some (.int x1), some (.int x2), some (.int (x3 + 1))] [] h) ∧ (¬ ((x1 >>> (x3 &&& 31)) &&& 1) = 0 → (vp_in x3 (ah_n h 37)) ∧ Wp mX6_stopsOf Q 0 0 4 [some (.ref 29), some (.int x1), some (.int (x2 ||| ((1 : Int32) <<< ((ah_i h 37 (Int32.toNatClampNeg x3)) &&& 31)))), some (.int (x3 + 1))] [] h))))) : Wp mX6_stopsOf Q 0 0 4 [some (.ref 29), some (.int x1), some (.int x2), some (.int x3)] [] h := by
  refine ab_iload_n (i := 3) dX6_stopsOf_4 rfl rfl ?_
  refine ab_aload_n (i := 0) dX6_stopsOf_5 rfl rfl ?_
  refine ab_getR (b := 1) f_X6_53 rfl (sh_k hs 29 6 (by decide) rfl) (sh_r hs 37 rfl) dX6_stopsOf_6 ?_
  refine ab_getR (b := 4) f_X6_107 rfl (sh_k hs 1 10 (by decide) rfl) (sh_r hs 14 rfl) dX6_stopsOf_9 ?_
  refine ab_getI f_X6_69 rfl (sh_k hs 4 7 (by decide) rfl) dX6_stopsOf_12 ?_
  refine ab_icmp_ge (tgt := 43) dX6_stopsOf_15 (by decide) (fun c1 => ?_) (fun c1 => ?_)
  · have ht := ht.1 c1
    refine ab_iload_n (i := 2) dX6_stopsOf_43 rfl rfl ?_
    exact ab_iret rfl dX6_stopsOf_44 (Nat.le_of_ble_eq_true rfl) (Nat.le_of_ble_eq_true rfl) ht
  · have ht := ht.2 c1
    refine ab_iload_n (i := 1) dX6_stopsOf_18 rfl rfl ?_
    refine ab_iload_n (i := 3) dX6_stopsOf_19 rfl rfl ?_
    refine ab_ishr dX6_stopsOf_20 ?_
    refine ab_iconst (v := 1) dX6_stopsOf_21 (by decide) ?_
    refine ab_iand dX6_stopsOf_22 ?_
    refine ab_if_eq (tgt := 37) dX6_stopsOf_23 (by decide) (fun c2 => ?_) (fun c2 => ?_)
    · have ht := ht.1 c2
      refine ab_iinc (i := 3) (x := x3) (v := (x3 + 1)) (L' := [some (.ref 29), some (.int x1), some (.int x2), some (.int (x3 + 1))]) dX6_stopsOf_37 rfl rfl (by exact (Nat.le_of_ble_eq_true rfl)) rfl rfl ?_
      refine ab_goto (tgt := 4) dX6_stopsOf_40 (by decide) ?_
      exact Wp.fewer (L' := [some (.ref 29), some (.int x1), some (.int x2), some (.int (x3 + 1))]) (show ab_leL _ _ from ⟨rfl, ⟨rfl, ⟨rfl, ⟨rfl, trivial⟩⟩⟩⟩) ht
    · have ht := ht.2 c2
      refine ab_iload_n (i := 2) dX6_stopsOf_26 rfl rfl ?_
      refine ab_iconst (v := 1) dX6_stopsOf_27 (by decide) ?_
      refine ab_aload_n (i := 0) dX6_stopsOf_28 rfl rfl ?_
      refine ab_getR (b := 37) f_X6_37 rfl (sh_k hs 29 6 (by decide) rfl) (sh_r hs 42 rfl) dX6_stopsOf_29 ?_
      refine ab_iload_n (i := 3) dX6_stopsOf_32 rfl rfl ?_
      obtain ⟨hc3, ht⟩ := ht
      refine ab_iald (sh_k hs 37 14 (by decide) rfl) hc3 dX6_stopsOf_33 ?_
      refine ab_ishl dX6_stopsOf_34 ?_
      refine ab_ior dX6_stopsOf_35 ?_
      refine ab_istore_n (i := 2) (L' := [some (.ref 29), some (.int x1), some (.int (x2 ||| ((1 : Int32) <<< ((ah_i h 37 (Int32.toNatClampNeg x3)) &&& 31)))), some (.int x3)]) dX6_stopsOf_36 rfl (by exact (Nat.le_of_ble_eq_true rfl)) rfl rfl ?_
      refine ab_iinc (i := 3) (x := x3) (v := (x3 + 1)) (L' := [some (.ref 29), some (.int x1), some (.int (x2 ||| ((1 : Int32) <<< ((ah_i h 37 (Int32.toNatClampNeg x3)) &&& 31)))), some (.int (x3 + 1))]) dX6_stopsOf_37 rfl rfl (by exact (Nat.le_of_ble_eq_true rfl)) rfl rfl ?_
      refine ab_goto (tgt := 4) dX6_stopsOf_40 (by decide) ?_
      exact Wp.fewer (L' := [some (.ref 29), some (.int x1), some (.int (x2 ||| ((1 : Int32) <<< ((ah_i h 37 (Int32.toNatClampNeg x3)) &&& 31)))), some (.int (x3 + 1))]) (show ab_leL _ _ from ⟨rfl, ⟨rfl, ⟨rfl, ⟨rfl, trivial⟩⟩⟩⟩) ht
set_option maxRecDepth 20000 in
theorem T_X6_stopsOf {Q : Option Value → ah_T → Prop} {h : ah_T} (hs : Sh h) (x1 : Int32) (ht : Wp mX6_stopsOf Q 0 0 4 [some (.ref 29), some (.int x1), some (.int 0), some (.int 0)] [] h) : Mt mX6_stopsOf [.ref 29, .int x1] h Q := by
  refine Mt.ofWp rfl (by exact (Nat.le_of_ble_eq_true rfl)) (Wp.fewer (L' := [some (.ref 29), some (.int x1), none, none]) (show ab_leL _ _ from ⟨rfl, ⟨rfl, trivial⟩⟩) ?_)
  refine ab_iconst (v := 0) dX6_stopsOf_0 (by decide) ?_
  refine ab_istore_n (i := 2) (L' := [some (.ref 29), some (.int x1), some (.int 0), none]) dX6_stopsOf_1 rfl (by exact (Nat.le_of_ble_eq_true rfl)) rfl rfl ?_
  refine ab_iconst (v := 0) dX6_stopsOf_2 (by decide) ?_
  refine ab_istore_n (i := 3) (L' := [some (.ref 29), some (.int x1), some (.int 0), some (.int 0)]) dX6_stopsOf_3 rfl (by exact (Nat.le_of_ble_eq_true rfl)) rfl rfl ?_
  exact Wp.fewer (L' := [some (.ref 29), some (.int x1), some (.int 0), some (.int 0)]) (show ab_leL _ _ from ⟨rfl, ⟨rfl, ⟨rfl, ⟨rfl, trivial⟩⟩⟩⟩) ht
theorem dX6_layRow_0 : decode cX6_layRow 0 = .ok (.iload_n 1, 1) := by decide +kernel
theorem dX6_layRow_1 : decode cX6_layRow 1 = .ok (.istore_n 2, 1) := by decide +kernel
theorem dX6_layRow_2 : decode cX6_layRow 2 = .ok (.aload_n 0, 1) := by decide +kernel
theorem dX6_layRow_3 : decode cX6_layRow 3 = .ok (.getfield 18, 3) := by decide +kernel
theorem dX6_layRow_6 : decode cX6_layRow 6 = .ok (.istore_n 3, 1) := by decide +kernel
theorem dX6_layRow_7 : decode cX6_layRow 7 = .ok (.iconst 1, 1) := by decide +kernel
theorem dX6_layRow_8 : decode cX6_layRow 8 = .ok (.aload_n 0, 1) := by decide +kernel
theorem dX6_layRow_9 : decode cX6_layRow 9 = .ok (.getfield 53, 3) := by decide +kernel
theorem dX6_layRow_12 : decode cX6_layRow 12 = .ok (.getfield 107, 3) := by decide +kernel
theorem dX6_layRow_15 : decode cX6_layRow 15 = .ok (.getfield 69, 3) := by decide +kernel
theorem dX6_layRow_18 : decode cX6_layRow 18 = .ok (.ishl, 1) := by decide +kernel
theorem dX6_layRow_19 : decode cX6_layRow 19 = .ok (.iconst 1, 1) := by decide +kernel
theorem dX6_layRow_20 : decode cX6_layRow 20 = .ok (.isub, 1) := by decide +kernel
theorem dX6_layRow_21 : decode cX6_layRow 21 = .ok (.istore 4, 2) := by decide +kernel
theorem dX6_layRow_23 : decode cX6_layRow 23 = .ok (.iconst 0, 1) := by decide +kernel
theorem dX6_layRow_24 : decode cX6_layRow 24 = .ok (.istore 5, 2) := by decide +kernel
theorem dX6_layRow_26 : decode cX6_layRow 26 = .ok (.iload 5, 2) := by decide +kernel
theorem dX6_layRow_28 : decode cX6_layRow 28 = .ok (.aload_n 0, 1) := by decide +kernel
theorem dX6_layRow_29 : decode cX6_layRow 29 = .ok (.getfield 53, 3) := by decide +kernel
theorem dX6_layRow_32 : decode cX6_layRow 32 = .ok (.getfield 107, 3) := by decide +kernel
theorem dX6_layRow_35 : decode cX6_layRow 35 = .ok (.getfield 69, 3) := by decide +kernel
theorem dX6_layRow_38 : decode cX6_layRow 38 = .ok (.if_icmp .ge 120, 3) := by decide +kernel
theorem dX6_layRow_41 : decode cX6_layRow 41 = .ok (.iconst 0, 1) := by decide +kernel
theorem dX6_layRow_42 : decode cX6_layRow 42 = .ok (.istore 6, 2) := by decide +kernel
theorem dX6_layRow_44 : decode cX6_layRow 44 = .ok (.iload 6, 2) := by decide +kernel
theorem dX6_layRow_46 : decode cX6_layRow 46 = .ok (.aload_n 0, 1) := by decide +kernel
theorem dX6_layRow_47 : decode cX6_layRow 47 = .ok (.getfield 53, 3) := by decide +kernel
theorem dX6_layRow_50 : decode cX6_layRow 50 = .ok (.getfield 107, 3) := by decide +kernel
theorem dX6_layRow_53 : decode cX6_layRow 53 = .ok (.getfield 69, 3) := by decide +kernel
theorem dX6_layRow_56 : decode cX6_layRow 56 = .ok (.if_icmp .ge 96, 3) := by decide +kernel
theorem dX6_layRow_59 : decode cX6_layRow 59 = .ok (.aload_n 0, 1) := by decide +kernel
theorem dX6_layRow_60 : decode cX6_layRow 60 = .ok (.getfield 53, 3) := by decide +kernel
theorem dX6_layRow_63 : decode cX6_layRow 63 = .ok (.getfield 107, 3) := by decide +kernel
theorem dX6_layRow_66 : decode cX6_layRow 66 = .ok (.iload 6, 2) := by decide +kernel
theorem dX6_layRow_68 : decode cX6_layRow 68 = .ok (.iconst 0, 1) := by decide +kernel
theorem dX6_layRow_69 : decode cX6_layRow 69 = .ok (.invokevirtual 74, 3) := by decide +kernel
theorem dX6_layRow_72 : decode cX6_layRow 72 = .ok (.istore 7, 2) := by decide +kernel
theorem dX6_layRow_74 : decode cX6_layRow 74 = .ok (.aload_n 0, 1) := by decide +kernel
theorem dX6_layRow_75 : decode cX6_layRow 75 = .ok (.iload_n 2, 1) := by decide +kernel
theorem dX6_layRow_76 : decode cX6_layRow 76 = .ok (.iload 7, 2) := by decide +kernel
theorem dX6_layRow_78 : decode cX6_layRow 78 = .ok (.invokevirtual 110, 3) := by decide +kernel
theorem dX6_layRow_81 : decode cX6_layRow 81 = .ok (.istore 8, 2) := by decide +kernel
theorem dX6_layRow_83 : decode cX6_layRow 83 = .ok (.iload 4, 2) := by decide +kernel
theorem dX6_layRow_85 : decode cX6_layRow 85 = .ok (.iload 6, 2) := by decide +kernel
theorem dX6_layRow_87 : decode cX6_layRow 87 = .ok (.ishr, 1) := by decide +kernel
theorem dX6_layRow_88 : decode cX6_layRow 88 = .ok (.iconst 1, 1) := by decide +kernel
theorem dX6_layRow_89 : decode cX6_layRow 89 = .ok (.iand, 1) := by decide +kernel
theorem dX6_layRow_90 : decode cX6_layRow 90 = .ok (.ifCond .eq 56, 3) := by decide +kernel
theorem dX6_layRow_93 : decode cX6_layRow 93 = .ok (.iload 8, 2) := by decide +kernel
theorem dX6_layRow_95 : decode cX6_layRow 95 = .ok (.aload_n 0, 1) := by decide +kernel
theorem dX6_layRow_96 : decode cX6_layRow 96 = .ok (.iload 7, 2) := by decide +kernel
theorem dX6_layRow_98 : decode cX6_layRow 98 = .ok (.aload_n 0, 1) := by decide +kernel
theorem dX6_layRow_99 : decode cX6_layRow 99 = .ok (.iload 4, 2) := by decide +kernel
theorem dX6_layRow_101 : decode cX6_layRow 101 = .ok (.iconst 1, 1) := by decide +kernel
theorem dX6_layRow_102 : decode cX6_layRow 102 = .ok (.iload 6, 2) := by decide +kernel
theorem dX6_layRow_104 : decode cX6_layRow 104 = .ok (.ishl, 1) := by decide +kernel
theorem dX6_layRow_105 : decode cX6_layRow 105 = .ok (.ixor, 1) := by decide +kernel
theorem dX6_layRow_106 : decode cX6_layRow 106 = .ok (.invokevirtual 119, 3) := by decide +kernel
theorem dX6_layRow_109 : decode cX6_layRow 109 = .ok (.invokevirtual 122, 3) := by decide +kernel
theorem dX6_layRow_112 : decode cX6_layRow 112 = .ok (.iadd, 1) := by decide +kernel
theorem dX6_layRow_113 : decode cX6_layRow 113 = .ok (.iload_n 3, 1) := by decide +kernel
theorem dX6_layRow_114 : decode cX6_layRow 114 = .ok (.if_icmp .ne 32, 3) := by decide +kernel
theorem dX6_layRow_117 : decode cX6_layRow 117 = .ok (.aload_n 0, 1) := by decide +kernel
theorem dX6_layRow_118 : decode cX6_layRow 118 = .ok (.getfield 22, 3) := by decide +kernel
theorem dX6_layRow_121 : decode cX6_layRow 121 = .ok (.iload 5, 2) := by decide +kernel
theorem dX6_layRow_123 : decode cX6_layRow 123 = .ok (.iload 6, 2) := by decide +kernel
theorem dX6_layRow_125 : decode cX6_layRow 125 = .ok (.iastore, 1) := by decide +kernel
theorem dX6_layRow_126 : decode cX6_layRow 126 = .ok (.iload 4, 2) := by decide +kernel
theorem dX6_layRow_128 : decode cX6_layRow 128 = .ok (.iconst 1, 1) := by decide +kernel
theorem dX6_layRow_129 : decode cX6_layRow 129 = .ok (.iload 6, 2) := by decide +kernel
theorem dX6_layRow_131 : decode cX6_layRow 131 = .ok (.ishl, 1) := by decide +kernel
theorem dX6_layRow_132 : decode cX6_layRow 132 = .ok (.ixor, 1) := by decide +kernel
theorem dX6_layRow_133 : decode cX6_layRow 133 = .ok (.istore 4, 2) := by decide +kernel
theorem dX6_layRow_135 : decode cX6_layRow 135 = .ok (.iload_n 3, 1) := by decide +kernel
theorem dX6_layRow_136 : decode cX6_layRow 136 = .ok (.iload 8, 2) := by decide +kernel
theorem dX6_layRow_138 : decode cX6_layRow 138 = .ok (.isub, 1) := by decide +kernel
theorem dX6_layRow_139 : decode cX6_layRow 139 = .ok (.istore_n 3, 1) := by decide +kernel
theorem dX6_layRow_140 : decode cX6_layRow 140 = .ok (.iload 7, 2) := by decide +kernel
theorem dX6_layRow_142 : decode cX6_layRow 142 = .ok (.istore_n 2, 1) := by decide +kernel
theorem dX6_layRow_143 : decode cX6_layRow 143 = .ok (.goto 9, 3) := by decide +kernel
theorem dX6_layRow_146 : decode cX6_layRow 146 = .ok (.iinc 6 1, 3) := by decide +kernel
theorem dX6_layRow_149 : decode cX6_layRow 149 = .ok (.goto (-105), 3) := by decide +kernel
theorem dX6_layRow_152 : decode cX6_layRow 152 = .ok (.iinc 5 1, 3) := by decide +kernel
theorem dX6_layRow_155 : decode cX6_layRow 155 = .ok (.goto (-129), 3) := by decide +kernel
theorem dX6_layRow_158 : decode cX6_layRow 158 = .ok (.return_, 1) := by decide +kernel
set_option maxRecDepth 20000 in
theorem T_X6_layRow_26 {Q : Option Value → ah_T → Prop} {h : ah_T} (hs : Sh h) (x2 : Int32) (x3 : Int32) (x4 : Int32) (x5 : Int32) (ht : (((ah_i h 4 3) ≤ x5 → Q none h) ∧ (¬ (ah_i h 4 3) ≤ x5 → Wp mX6_layRow Q 0 0 44 [some (.ref 29), none, some (.int x2), some (.int x3), some (.int x4), some (.int x5), some (.int 0), none, none] [] h))) : Wp mX6_layRow Q 0 0 26 [some (.ref 29), none, some (.int x2), some (.int x3), some (.int x4), some (.int x5), none, none, none] [] h := by
  refine ab_iload (i := 5) dX6_layRow_26 rfl ?_
  refine ab_aload_n (i := 0) dX6_layRow_28 rfl rfl ?_
  refine ab_getR (b := 1) f_X6_53 rfl (sh_k hs 29 6 (by decide) rfl) (sh_r hs 37 rfl) dX6_layRow_29 ?_
  refine ab_getR (b := 4) f_X6_107 rfl (sh_k hs 1 10 (by decide) rfl) (sh_r hs 14 rfl) dX6_layRow_32 ?_
  refine ab_getI f_X6_69 rfl (sh_k hs 4 7 (by decide) rfl) dX6_layRow_35 ?_
  refine ab_icmp_ge (tgt := 158) dX6_layRow_38 (by decide) (fun c1 => ?_) (fun c1 => ?_)
  · have ht := ht.1 c1
    exact ab_vret rfl dX6_layRow_158 (Nat.le_of_ble_eq_true rfl) (Nat.le_of_ble_eq_true rfl) ht
  · have ht := ht.2 c1
    refine ab_iconst (v := 0) dX6_layRow_41 (by decide) ?_
    refine ab_istore (i := 6) (L' := [some (.ref 29), none, some (.int x2), some (.int x3), some (.int x4), some (.int x5), some (.int 0), none, none]) dX6_layRow_42 (by exact (Nat.le_of_ble_eq_true rfl)) rfl rfl ?_
    exact Wp.fewer (L' := [some (.ref 29), none, some (.int x2), some (.int x3), some (.int x4), some (.int x5), some (.int 0), none, none]) (show ab_leL _ _ from ⟨rfl, ⟨rfl, ⟨rfl, ⟨rfl, ⟨rfl, ⟨rfl, trivial⟩⟩⟩⟩⟩⟩) ht
set_option maxRecDepth 20000 in
theorem T_X6_layRow_44 {Q : Option Value → ah_T → Prop} {h : ah_T} (hs : Sh h) (x2 : Int32) (x3 : Int32) (x4 : Int32) (x5 : Int32) (x6 : Int32) (ht : (((ah_i h 4 3) ≤ x6 → Wp mX6_layRow Q 0 0 26 [some (.ref 29), none, some (.int x2), some (.int x3), some (.int x4), some (.int (x5 + 1)), none, none, none] [] h) ∧ (¬ (ah_i h 4 3) ≤ x6 → (Mt mX7_get [.ref 4, .int x6, .int 0] h (ab_qi fun v5 h3 => Sh h3 ∧ ((¬ (f_X11_isIn x2 12) = 0 → (¬ (f_X11_isIn v5 12) = 0 → vp_in ((x2 * 12) + v5) (ah_n h3 33)))) ∧ ((((x4 >>> (x6 &&& 31)) &&& 1) = 0 → Wp mX6_layRow Q 0 0 44 [some (.ref 29), none, some (.int x2), some (.int x3), some (.int x4), some (.int x5), some (.int (x6 + 1)), none, none] [] h3) ∧ (¬ ((x4 >>> (x6 &&& 31)) &&& 1) = 0 → (Mt mX6_stopsOf [.ref 29, .int (x4 ^^^ ((1 : Int32) <<< (x6 &&& 31)))] h3 (ab_qi fun v10 h8 => Sh h8 ∧ (Mt mX6_rest [.ref 29, .int v5, .int v10] h8 (ab_qi fun v13 h11 => Sh h11 ∧ ((¬ ((f_X6_steps h3 x2 v5) + v13) = x3 → Wp mX6_layRow Q 0 0 44 [some (.ref 29), none, some (.int x2), some (.int x3), some (.int x4), some (.int x5), some (.int (x6 + 1)), none, none] [] h11) ∧ (((f_X6_steps h3 x2 v5) + v13) = x3 → (vp_in x5 (ah_n h11 32)) ∧ (∀ h16, h16 = ah_si h11 32 (Int32.toNatClampNeg x5) x6 → Wp mX6_layRow Q 0 0 26 [some (.ref 29), none, some (.int v5), some (.int (x3 - (f_X6_steps h3 x2 v5))), some (.int (x4 ^^^ ((1 : Int32) <<< (x6 &&& 31)))), some (.int (x5 + 1)), none, none, none] [] h16)))))))))))))) : Wp mX6_layRow Q 0 0 44 [some (.ref 29), none, some (.int x2), some (.int x3), some (.int x4), some (.int x5), some (.int x6), none, none] [] h := by
  refine ab_iload (i := 6) dX6_layRow_44 rfl ?_
  refine ab_aload_n (i := 0) dX6_layRow_46 rfl rfl ?_
  refine ab_getR (b := 1) f_X6_53 rfl (sh_k hs 29 6 (by decide) rfl) (sh_r hs 37 rfl) dX6_layRow_47 ?_
  refine ab_getR (b := 4) f_X6_107 rfl (sh_k hs 1 10 (by decide) rfl) (sh_r hs 14 rfl) dX6_layRow_50 ?_
  refine ab_getI f_X6_69 rfl (sh_k hs 4 7 (by decide) rfl) dX6_layRow_53 ?_
  refine ab_icmp_ge (tgt := 152) dX6_layRow_56 (by decide) (fun c2 => ?_) (fun c2 => ?_)
  · have ht := ht.1 c2
    refine ab_iinc (i := 5) (x := x5) (v := (x5 + 1)) (L' := [some (.ref 29), none, some (.int x2), some (.int x3), some (.int x4), some (.int (x5 + 1)), some (.int x6), none, none]) dX6_layRow_152 rfl rfl (by exact (Nat.le_of_ble_eq_true rfl)) rfl rfl ?_
    refine ab_goto (tgt := 26) dX6_layRow_155 (by decide) ?_
    exact Wp.fewer (L' := [some (.ref 29), none, some (.int x2), some (.int x3), some (.int x4), some (.int (x5 + 1)), none, none, none]) (show ab_leL _ _ from ⟨rfl, ⟨rfl, ⟨rfl, ⟨rfl, ⟨rfl, trivial⟩⟩⟩⟩⟩) ht
  · have ht := ht.2 c2
    refine ab_aload_n (i := 0) dX6_layRow_59 rfl rfl ?_
    refine ab_getR (b := 1) f_X6_53 rfl (sh_k hs 29 6 (by decide) rfl) (sh_r hs 37 rfl) dX6_layRow_60 ?_
    refine ab_getR (b := 4) f_X6_107 rfl (sh_k hs 1 10 (by decide) rfl) (sh_r hs 14 rfl) dX6_layRow_63 ?_
    refine ab_iload (i := 6) dX6_layRow_66 rfl ?_
    refine ab_iconst (v := 0) dX6_layRow_68 (by decide) ?_
    refine ab_callV (b := 4) (As := [.int x6, .int 0]) ht (Y_X7_get) l_X6_74 in_X7_get se_X7_get (sh_k hs 4 7 (by decide) rfl) (by decide) rfl rfl ⟨(Nat.le_of_ble_eq_true rfl), (Nat.le_of_ble_eq_true rfl), (Nat.le_of_ble_eq_true rfl), (Nat.le_of_ble_eq_true rfl)⟩ dX6_layRow_69 ?_
    rintro _ h3 ⟨v5, rfl, hs4, ht⟩
    refine ab_istore (i := 7) (L' := [some (.ref 29), none, some (.int x2), some (.int x3), some (.int x4), some (.int x5), some (.int x6), some (.int v5), none]) dX6_layRow_72 (by exact (Nat.le_of_ble_eq_true rfl)) rfl rfl ?_
    refine ab_aload_n (i := 0) dX6_layRow_74 rfl rfl ?_
    refine ab_iload_n (i := 2) dX6_layRow_75 rfl rfl ?_
    refine ab_iload (i := 7) dX6_layRow_76 rfl ?_
    obtain ⟨hc6, ht⟩ := ht
    refine ab_callV (b := 29) (Q' := fun r h' => r = some (.int (f_X6_steps h3 x2 v5)) ∧ h3 = h') (As := [.int x2, .int v5]) (c_X6_steps hs4 x2 v5  hc6 ⟨rfl, rfl⟩) (Y_X6_steps) l_X6_110 in_X6_steps se_X6_steps (sh_k hs4 29 6 (by decide) rfl) (by decide) rfl rfl ⟨(Nat.le_of_ble_eq_true rfl), (Nat.le_of_ble_eq_true rfl), (Nat.le_of_ble_eq_true rfl), (Nat.le_of_ble_eq_true rfl)⟩ dX6_layRow_78 ?_
    rintro _ _ ⟨rfl, rfl⟩
    refine ab_istore (i := 8) (L' := [some (.ref 29), none, some (.int x2), some (.int x3), some (.int x4), some (.int x5), some (.int x6), some (.int v5), some (.int (f_X6_steps h3 x2 v5))]) dX6_layRow_81 (by exact (Nat.le_of_ble_eq_true rfl)) rfl rfl ?_
    refine ab_iload (i := 4) dX6_layRow_83 rfl ?_
    refine ab_iload (i := 6) dX6_layRow_85 rfl ?_
    refine ab_ishr dX6_layRow_87 ?_
    refine ab_iconst (v := 1) dX6_layRow_88 (by decide) ?_
    refine ab_iand dX6_layRow_89 ?_
    refine ab_if_eq (tgt := 146) dX6_layRow_90 (by decide) (fun c7 => ?_) (fun c7 => ?_)
    · have ht := ht.1 c7
      refine ab_iinc (i := 6) (x := x6) (v := (x6 + 1)) (L' := [some (.ref 29), none, some (.int x2), some (.int x3), some (.int x4), some (.int x5), some (.int (x6 + 1)), some (.int v5), some (.int (f_X6_steps h3 x2 v5))]) dX6_layRow_146 rfl rfl (by exact (Nat.le_of_ble_eq_true rfl)) rfl rfl ?_
      refine ab_goto (tgt := 44) dX6_layRow_149 (by decide) ?_
      exact Wp.fewer (L' := [some (.ref 29), none, some (.int x2), some (.int x3), some (.int x4), some (.int x5), some (.int (x6 + 1)), none, none]) (show ab_leL _ _ from ⟨rfl, ⟨rfl, ⟨rfl, ⟨rfl, ⟨rfl, ⟨rfl, trivial⟩⟩⟩⟩⟩⟩) ht
    · have ht := ht.2 c7
      refine ab_iload (i := 8) dX6_layRow_93 rfl ?_
      refine ab_aload_n (i := 0) dX6_layRow_95 rfl rfl ?_
      refine ab_iload (i := 7) dX6_layRow_96 rfl ?_
      refine ab_aload_n (i := 0) dX6_layRow_98 rfl rfl ?_
      refine ab_iload (i := 4) dX6_layRow_99 rfl ?_
      refine ab_iconst (v := 1) dX6_layRow_101 (by decide) ?_
      refine ab_iload (i := 6) dX6_layRow_102 rfl ?_
      refine ab_ishl dX6_layRow_104 ?_
      refine ab_ixor dX6_layRow_105 ?_
      refine ab_callV (b := 29) (As := [.int (x4 ^^^ ((1 : Int32) <<< (x6 &&& 31)))]) ht (Y_X6_stopsOf) l_X6_119 in_X6_stopsOf se_X6_stopsOf (sh_k hs4 29 6 (by decide) rfl) (by decide) rfl rfl ⟨(Nat.le_of_ble_eq_true rfl), (Nat.le_of_ble_eq_true rfl), (Nat.le_of_ble_eq_true rfl), (Nat.le_of_ble_eq_true rfl)⟩ dX6_layRow_106 ?_
      rintro _ h8 ⟨v10, rfl, hs9, ht⟩
      refine ab_callV (b := 29) (As := [.int v5, .int v10]) ht (Y_X6_rest) l_X6_122 in_X6_rest se_X6_rest (sh_k hs9 29 6 (by decide) rfl) (by decide) rfl rfl ⟨(Nat.le_of_ble_eq_true rfl), (Nat.le_of_ble_eq_true rfl), (Nat.le_of_ble_eq_true rfl), (Nat.le_of_ble_eq_true rfl)⟩ dX6_layRow_109 ?_
      rintro _ h11 ⟨v13, rfl, hs12, ht⟩
      refine ab_iadd dX6_layRow_112 ?_
      refine ab_iload_n (i := 3) dX6_layRow_113 rfl rfl ?_
      refine ab_icmp_ne (tgt := 146) dX6_layRow_114 (by decide) (fun c14 => ?_) (fun c14 => ?_)
      · have ht := ht.1 c14
        refine ab_iinc (i := 6) (x := x6) (v := (x6 + 1)) (L' := [some (.ref 29), none, some (.int x2), some (.int x3), some (.int x4), some (.int x5), some (.int (x6 + 1)), some (.int v5), some (.int (f_X6_steps h3 x2 v5))]) dX6_layRow_146 rfl rfl (by exact (Nat.le_of_ble_eq_true rfl)) rfl rfl ?_
        refine ab_goto (tgt := 44) dX6_layRow_149 (by decide) ?_
        exact Wp.fewer (L' := [some (.ref 29), none, some (.int x2), some (.int x3), some (.int x4), some (.int x5), some (.int (x6 + 1)), none, none]) (show ab_leL _ _ from ⟨rfl, ⟨rfl, ⟨rfl, ⟨rfl, ⟨rfl, ⟨rfl, trivial⟩⟩⟩⟩⟩⟩) ht
      · have ht := ht.2 c14
        refine ab_aload_n (i := 0) dX6_layRow_117 rfl rfl ?_
        refine ab_getR (b := 32) f_X6_22 rfl (sh_k hs12 29 6 (by decide) rfl) (sh_r hs12 36 rfl) dX6_layRow_118 ?_
        refine ab_iload (i := 5) dX6_layRow_121 rfl ?_
        refine ab_iload (i := 6) dX6_layRow_123 rfl ?_
        obtain ⟨hc15, ht⟩ := ht
        refine ab_iast (sh_k hs12 32 14 (by decide) rfl) hc15 dX6_layRow_125 ?_
        refine Wp.nm fun h16 e17 => ?_
        have ht := ht h16 e17
        have hs18 : Sh h16 := by rw [e17]; exact sh_si hs12
        refine ab_iload (i := 4) dX6_layRow_126 rfl ?_
        refine ab_iconst (v := 1) dX6_layRow_128 (by decide) ?_
        refine ab_iload (i := 6) dX6_layRow_129 rfl ?_
        refine ab_ishl dX6_layRow_131 ?_
        refine ab_ixor dX6_layRow_132 ?_
        refine ab_istore (i := 4) (L' := [some (.ref 29), none, some (.int x2), some (.int x3), some (.int (x4 ^^^ ((1 : Int32) <<< (x6 &&& 31)))), some (.int x5), some (.int x6), some (.int v5), some (.int (f_X6_steps h3 x2 v5))]) dX6_layRow_133 (by exact (Nat.le_of_ble_eq_true rfl)) rfl rfl ?_
        refine ab_iload_n (i := 3) dX6_layRow_135 rfl rfl ?_
        refine ab_iload (i := 8) dX6_layRow_136 rfl ?_
        refine ab_isub dX6_layRow_138 ?_
        refine ab_istore_n (i := 3) (L' := [some (.ref 29), none, some (.int x2), some (.int (x3 - (f_X6_steps h3 x2 v5))), some (.int (x4 ^^^ ((1 : Int32) <<< (x6 &&& 31)))), some (.int x5), some (.int x6), some (.int v5), some (.int (f_X6_steps h3 x2 v5))]) dX6_layRow_139 rfl (by exact (Nat.le_of_ble_eq_true rfl)) rfl rfl ?_
        refine ab_iload (i := 7) dX6_layRow_140 rfl ?_
        refine ab_istore_n (i := 2) (L' := [some (.ref 29), none, some (.int v5), some (.int (x3 - (f_X6_steps h3 x2 v5))), some (.int (x4 ^^^ ((1 : Int32) <<< (x6 &&& 31)))), some (.int x5), some (.int x6), some (.int v5), some (.int (f_X6_steps h3 x2 v5))]) dX6_layRow_142 rfl (by exact (Nat.le_of_ble_eq_true rfl)) rfl rfl ?_
        refine ab_goto (tgt := 152) dX6_layRow_143 (by decide) ?_
        refine ab_iinc (i := 5) (x := x5) (v := (x5 + 1)) (L' := [some (.ref 29), none, some (.int v5), some (.int (x3 - (f_X6_steps h3 x2 v5))), some (.int (x4 ^^^ ((1 : Int32) <<< (x6 &&& 31)))), some (.int (x5 + 1)), some (.int x6), some (.int v5), some (.int (f_X6_steps h3 x2 v5))]) dX6_layRow_152 rfl rfl (by exact (Nat.le_of_ble_eq_true rfl)) rfl rfl ?_
        refine ab_goto (tgt := 26) dX6_layRow_155 (by decide) ?_
        exact Wp.fewer (L' := [some (.ref 29), none, some (.int v5), some (.int (x3 - (f_X6_steps h3 x2 v5))), some (.int (x4 ^^^ ((1 : Int32) <<< (x6 &&& 31)))), some (.int (x5 + 1)), none, none, none]) (show ab_leL _ _ from ⟨rfl, ⟨rfl, ⟨rfl, ⟨rfl, ⟨rfl, trivial⟩⟩⟩⟩⟩) ht
set_option maxRecDepth 20000 in
theorem T_X6_layRow {Q : Option Value → ah_T → Prop} {h : ah_T} (hs : Sh h) (x1 : Int32) (ht : Wp mX6_layRow Q 0 0 26 [some (.ref 29), none, some (.int x1), some (.int (ah_i h 29 2)), some (.int (((1 : Int32) <<< ((ah_i h 4 3) &&& 31)) - 1)), some (.int 0), none, none, none] [] h) : Mt mX6_layRow [.ref 29, .int x1] h Q := by
  refine Mt.ofWp rfl (by exact (Nat.le_of_ble_eq_true rfl)) (Wp.fewer (L' := [some (.ref 29), some (.int x1), none, none, none, none, none, none, none]) (show ab_leL _ _ from ⟨rfl, ⟨rfl, trivial⟩⟩) ?_)
  refine ab_iload_n (i := 1) dX6_layRow_0 rfl rfl ?_
  refine ab_istore_n (i := 2) (L' := [some (.ref 29), some (.int x1), some (.int x1), none, none, none, none, none, none]) dX6_layRow_1 rfl (by exact (Nat.le_of_ble_eq_true rfl)) rfl rfl ?_
  refine ab_aload_n (i := 0) dX6_layRow_2 rfl rfl ?_
  refine ab_getI f_X6_18 rfl (sh_k hs 29 6 (by decide) rfl) dX6_layRow_3 ?_
  refine ab_istore_n (i := 3) (L' := [some (.ref 29), some (.int x1), some (.int x1), some (.int (ah_i h 29 2)), none, none, none, none, none]) dX6_layRow_6 rfl (by exact (Nat.le_of_ble_eq_true rfl)) rfl rfl ?_
  refine ab_iconst (v := 1) dX6_layRow_7 (by decide) ?_
  refine ab_aload_n (i := 0) dX6_layRow_8 rfl rfl ?_
  refine ab_getR (b := 1) f_X6_53 rfl (sh_k hs 29 6 (by decide) rfl) (sh_r hs 37 rfl) dX6_layRow_9 ?_
  refine ab_getR (b := 4) f_X6_107 rfl (sh_k hs 1 10 (by decide) rfl) (sh_r hs 14 rfl) dX6_layRow_12 ?_
  refine ab_getI f_X6_69 rfl (sh_k hs 4 7 (by decide) rfl) dX6_layRow_15 ?_
  refine ab_ishl dX6_layRow_18 ?_
  refine ab_iconst (v := 1) dX6_layRow_19 (by decide) ?_
  refine ab_isub dX6_layRow_20 ?_
  refine ab_istore (i := 4) (L' := [some (.ref 29), some (.int x1), some (.int x1), some (.int (ah_i h 29 2)), some (.int (((1 : Int32) <<< ((ah_i h 4 3) &&& 31)) - 1)), none, none, none, none]) dX6_layRow_21 (by exact (Nat.le_of_ble_eq_true rfl)) rfl rfl ?_
  refine ab_iconst (v := 0) dX6_layRow_23 (by decide) ?_
  refine ab_istore (i := 5) (L' := [some (.ref 29), some (.int x1), some (.int x1), some (.int (ah_i h 29 2)), some (.int (((1 : Int32) <<< ((ah_i h 4 3) &&& 31)) - 1)), some (.int 0), none, none, none]) dX6_layRow_24 (by exact (Nat.le_of_ble_eq_true rfl)) rfl rfl ?_
  exact Wp.fewer (L' := [some (.ref 29), none, some (.int x1), some (.int (ah_i h 29 2)), some (.int (((1 : Int32) <<< ((ah_i h 4 3) &&& 31)) - 1)), some (.int 0), none, none, none]) (show ab_leL _ _ from ⟨rfl, ⟨rfl, ⟨rfl, ⟨rfl, ⟨rfl, trivial⟩⟩⟩⟩⟩) ht
