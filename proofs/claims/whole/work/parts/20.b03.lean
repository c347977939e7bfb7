/-! ===== blocks of methods (printed by wip/whole/mkall.py) ===== -/
theorem dX3_load_0 : decode cX3_load 0 = .ok (.iconst 0, 1) := by decide +kernel
theorem dX3_load_1 : decode cX3_load 1 = .ok (.istore_n 1, 1) := by decide +kernel
theorem dX3_load_2 : decode cX3_load 2 = .ok (.iload_n 1, 1) := by decide +kernel
theorem dX3_load_3 : decode cX3_load 3 = .ok (.aload_n 0, 1) := by decide +kernel
theorem dX3_load_4 : decode cX3_load 4 = .ok (.getfield 64, 3) := by decide +kernel
theorem dX3_load_7 : decode cX3_load 7 = .ok (.getfield 76, 3) := by decide +kernel
theorem dX3_load_10 : decode cX3_load 10 = .ok (.getfield 81, 3) := by decide +kernel
theorem dX3_load_13 : decode cX3_load 13 = .ok (.if_icmp .ge 45, 3) := by decide +kernel
theorem dX3_load_16 : decode cX3_load 16 = .ok (.aload_n 0, 1) := by decide +kernel
theorem dX3_load_17 : decode cX3_load 17 = .ok (.getfield 15, 3) := by decide +kernel
theorem dX3_load_20 : decode cX3_load 20 = .ok (.iload_n 1, 1) := by decide +kernel
theorem dX3_load_21 : decode cX3_load 21 = .ok (.aload_n 0, 1) := by decide +kernel
theorem dX3_load_22 : decode cX3_load 22 = .ok (.getfield 64, 3) := by decide +kernel
theorem dX3_load_25 : decode cX3_load 25 = .ok (.getfield 76, 3) := by decide +kernel
theorem dX3_load_28 : decode cX3_load 28 = .ok (.iload_n 1, 1) := by decide +kernel
theorem dX3_load_29 : decode cX3_load 29 = .ok (.iconst 0, 1) := by decide +kernel
theorem dX3_load_30 : decode cX3_load 30 = .ok (.invokevirtual 86, 3) := by decide +kernel
theorem dX3_load_33 : decode cX3_load 33 = .ok (.iastore, 1) := by decide +kernel
theorem dX3_load_34 : decode cX3_load 34 = .ok (.aload_n 0, 1) := by decide +kernel
theorem dX3_load_35 : decode cX3_load 35 = .ok (.getfield 19, 3) := by decide +kernel
theorem dX3_load_38 : decode cX3_load 38 = .ok (.iload_n 1, 1) := by decide +kernel
theorem dX3_load_39 : decode cX3_load 39 = .ok (.aload_n 0, 1) := by decide +kernel
theorem dX3_load_40 : decode cX3_load 40 = .ok (.getfield 64, 3) := by decide +kernel
theorem dX3_load_43 : decode cX3_load 43 = .ok (.getfield 76, 3) := by decide +kernel
theorem dX3_load_46 : decode cX3_load 46 = .ok (.iload_n 1, 1) := by decide +kernel
theorem dX3_load_47 : decode cX3_load 47 = .ok (.iconst 1, 1) := by decide +kernel
theorem dX3_load_48 : decode cX3_load 48 = .ok (.invokevirtual 86, 3) := by decide +kernel
theorem dX3_load_51 : decode cX3_load 51 = .ok (.iastore, 1) := by decide +kernel
theorem dX3_load_52 : decode cX3_load 52 = .ok (.iinc 1 1, 3) := by decide +kernel
theorem dX3_load_55 : decode cX3_load 55 = .ok (.goto (-53), 3) := by decide +kernel
theorem dX3_load_58 : decode cX3_load 58 = .ok (.aload_n 0, 1) := by decide +kernel
theorem dX3_load_59 : decode cX3_load 59 = .ok (.getfield 52, 3) := by decide +kernel
theorem dX3_load_62 : decode cX3_load 62 = .ok (.iconst (-1), 1) := by decide +kernel
theorem dX3_load_63 : decode cX3_load 63 = .ok (.invokestatic 90, 3) := by decide +kernel
theorem dX3_load_66 : decode cX3_load 66 = .ok (.aload_n 0, 1) := by decide +kernel
theorem dX3_load_67 : decode cX3_load 67 = .ok (.getfield 64, 3) := by decide +kernel
theorem dX3_load_70 : decode cX3_load 70 = .ok (.getfield 96, 3) := by decide +kernel
theorem dX3_load_73 : decode cX3_load 73 = .ok (.getfield 81, 3) := by decide +kernel
theorem dX3_load_76 : decode cX3_load 76 = .ok (.iconst 1, 1) := by decide +kernel
theorem dX3_load_77 : decode cX3_load 77 = .ok (.isub, 1) := by decide +kernel
theorem dX3_load_78 : decode cX3_load 78 = .ok (.istore_n 1, 1) := by decide +kernel
theorem dX3_load_79 : decode cX3_load 79 = .ok (.iload_n 1, 1) := by decide +kernel
theorem dX3_load_80 : decode cX3_load 80 = .ok (.ifCond .lt 41, 3) := by decide +kernel
theorem dX3_load_83 : decode cX3_load 83 = .ok (.aload_n 0, 1) := by decide +kernel
theorem dX3_load_84 : decode cX3_load 84 = .ok (.getfield 64, 3) := by decide +kernel
theorem dX3_load_87 : decode cX3_load 87 = .ok (.getfield 96, 3) := by decide +kernel
theorem dX3_load_90 : decode cX3_load 90 = .ok (.iload_n 1, 1) := by decide +kernel
theorem dX3_load_91 : decode cX3_load 91 = .ok (.iconst 1, 1) := by decide +kernel
theorem dX3_load_92 : decode cX3_load 92 = .ok (.invokevirtual 86, 3) := by decide +kernel
theorem dX3_load_95 : decode cX3_load 95 = .ok (.istore_n 2, 1) := by decide +kernel
theorem dX3_load_96 : decode cX3_load 96 = .ok (.aload_n 0, 1) := by decide +kernel
theorem dX3_load_97 : decode cX3_load 97 = .ok (.getfield 55, 3) := by decide +kernel
theorem dX3_load_100 : decode cX3_load 100 = .ok (.iload_n 1, 1) := by decide +kernel
theorem dX3_load_101 : decode cX3_load 101 = .ok (.aload_n 0, 1) := by decide +kernel
theorem dX3_load_102 : decode cX3_load 102 = .ok (.getfield 52, 3) := by decide +kernel
theorem dX3_load_105 : decode cX3_load 105 = .ok (.iload_n 2, 1) := by decide +kernel
theorem dX3_load_106 : decode cX3_load 106 = .ok (.iaload, 1) := by decide +kernel
theorem dX3_load_107 : decode cX3_load 107 = .ok (.iastore, 1) := by decide +kernel
theorem dX3_load_108 : decode cX3_load 108 = .ok (.aload_n 0, 1) := by decide +kernel
theorem dX3_load_109 : decode cX3_load 109 = .ok (.getfield 52, 3) := by decide +kernel
theorem dX3_load_112 : decode cX3_load 112 = .ok (.iload_n 2, 1) := by decide +kernel
theorem dX3_load_113 : decode cX3_load 113 = .ok (.iload_n 1, 1) := by decide +kernel
theorem dX3_load_114 : decode cX3_load 114 = .ok (.iastore, 1) := by decide +kernel
theorem dX3_load_115 : decode cX3_load 115 = .ok (.iinc 1 (-1), 3) := by decide +kernel
theorem dX3_load_118 : decode cX3_load 118 = .ok (.goto (-39), 3) := by decide +kernel
theorem dX3_load_121 : decode cX3_load 121 = .ok (.iconst 0, 1) := by decide +kernel
theorem dX3_load_122 : decode cX3_load 122 = .ok (.istore_n 1, 1) := by decide +kernel
theorem dX3_load_123 : decode cX3_load 123 = .ok (.iload_n 1, 1) := by decide +kernel
theorem dX3_load_124 : decode cX3_load 124 = .ok (.aload_n 0, 1) := by decide +kernel
theorem dX3_load_125 : decode cX3_load 125 = .ok (.getfield 64, 3) := by decide +kernel
theorem dX3_load_128 : decode cX3_load 128 = .ok (.getfield 99, 3) := by decide +kernel
theorem dX3_load_131 : decode cX3_load 131 = .ok (.getfield 81, 3) := by decide +kernel
theorem dX3_load_134 : decode cX3_load 134 = .ok (.if_icmp .ge 58, 3) := by decide +kernel
theorem dX3_load_137 : decode cX3_load 137 = .ok (.aload_n 0, 1) := by decide +kernel
theorem dX3_load_138 : decode cX3_load 138 = .ok (.getfield 40, 3) := by decide +kernel
theorem dX3_load_141 : decode cX3_load 141 = .ok (.iload_n 1, 1) := by decide +kernel
theorem dX3_load_142 : decode cX3_load 142 = .ok (.aload_n 0, 1) := by decide +kernel
theorem dX3_load_143 : decode cX3_load 143 = .ok (.getfield 64, 3) := by decide +kernel
theorem dX3_load_146 : decode cX3_load 146 = .ok (.getfield 99, 3) := by decide +kernel
theorem dX3_load_149 : decode cX3_load 149 = .ok (.iload_n 1, 1) := by decide +kernel
theorem dX3_load_150 : decode cX3_load 150 = .ok (.iconst 0, 1) := by decide +kernel
theorem dX3_load_151 : decode cX3_load 151 = .ok (.invokevirtual 86, 3) := by decide +kernel
theorem dX3_load_154 : decode cX3_load 154 = .ok (.iastore, 1) := by decide +kernel
theorem dX3_load_155 : decode cX3_load 155 = .ok (.iconst 0, 1) := by decide +kernel
theorem dX3_load_156 : decode cX3_load 156 = .ok (.istore_n 2, 1) := by decide +kernel
theorem dX3_load_157 : decode cX3_load 157 = .ok (.iload_n 2, 1) := by decide +kernel
theorem dX3_load_158 : decode cX3_load 158 = .ok (.bipush 120, 2) := by decide +kernel
theorem dX3_load_160 : decode cX3_load 160 = .ok (.if_icmp .ge 26, 3) := by decide +kernel
theorem dX3_load_163 : decode cX3_load 163 = .ok (.aload_n 0, 1) := by decide +kernel
theorem dX3_load_164 : decode cX3_load 164 = .ok (.getfield 43, 3) := by decide +kernel
theorem dX3_load_167 : decode cX3_load 167 = .ok (.iload_n 1, 1) := by decide +kernel
theorem dX3_load_168 : decode cX3_load 168 = .ok (.bipush 120, 2) := by decide +kernel
theorem dX3_load_170 : decode cX3_load 170 = .ok (.imul, 1) := by decide +kernel
theorem dX3_load_171 : decode cX3_load 171 = .ok (.iload_n 2, 1) := by decide +kernel
theorem dX3_load_172 : decode cX3_load 172 = .ok (.iadd, 1) := by decide +kernel
theorem dX3_load_173 : decode cX3_load 173 = .ok (.aload_n 0, 1) := by decide +kernel
theorem dX3_load_174 : decode cX3_load 174 = .ok (.iload_n 1, 1) := by decide +kernel
theorem dX3_load_175 : decode cX3_load 175 = .ok (.iload_n 2, 1) := by decide +kernel
theorem dX3_load_176 : decode cX3_load 176 = .ok (.invokevirtual 101, 3) := by decide +kernel
theorem dX3_load_179 : decode cX3_load 179 = .ok (.iastore, 1) := by decide +kernel
theorem dX3_load_180 : decode cX3_load 180 = .ok (.iinc 2 1, 3) := by decide +kernel
theorem dX3_load_183 : decode cX3_load 183 = .ok (.goto (-26), 3) := by decide +kernel
theorem dX3_load_186 : decode cX3_load 186 = .ok (.iinc 1 1, 3) := by decide +kernel
theorem dX3_load_189 : decode cX3_load 189 = .ok (.goto (-66), 3) := by decide +kernel
theorem dX3_load_192 : decode cX3_load 192 = .ok (.aload_n 0, 1) := by decide +kernel
theorem dX3_load_193 : decode cX3_load 193 = .ok (.invokevirtual 104, 3) := by decide +kernel
theorem dX3_load_196 : decode cX3_load 196 = .ok (.return_, 1) := by decide +kernel
set_option maxRecDepth 20000 in
theorem T_X3_load_2 {Q : Option Value → ah_T → Prop} {h : ah_T} (hs : Sh h) (x1 : Int32) (ht : (((ah_i h 4 3) ≤ x1 → (Mt mJ7_fill_53178 [.ref 50, .int (-1)] h (ab_qv fun h2 => Sh h2 ∧ Wp mX3_load Q 0 0 79 [some (.ref 43), some (.int ((ah_i h2 6 3) - 1)), none] [] h2))) ∧ (¬ (ah_i h 4 3) ≤ x1 → (Mt mX7_get [.ref 4, .int x1, .int 0] h (ab_qi fun v7 h5 => Sh h5 ∧ (vp_in x1 (ah_n h5 44)) ∧ (∀ h9, h9 = ah_si h5 44 (Int32.toNatClampNeg x1) v7 → (Mt mX7_get [.ref 4, .int x1, .int 1] h9 (ab_qi fun v14 h12 => Sh h12 ∧ (vp_in x1 (ah_n h12 45)) ∧ (∀ h16, h16 = ah_si h12 45 (Int32.toNatClampNeg x1) v14 → Wp mX3_load Q 0 0 2 [some (.ref 43), some (.int (x1 + 1)), none] [] h16))))))))) : Wp mX3_load Q 0 0 2 [some (.ref 43), some (.int x1), none] [] h := by
  refine ab_iload_n (i := 1) dX3_load_2 rfl rfl ?_
  refine ab_aload_n (i := 0) dX3_load_3 rfl rfl ?_
  refine ab_getR (b := 1) f_X3_64 rfl (sh_k hs 43 3 (by decide) rfl) (sh_r hs 56 rfl) dX3_load_4 ?_
  refine ab_getR (b := 4) f_X3_76 rfl (sh_k hs 1 10 (by decide) rfl) (sh_r hs 14 rfl) dX3_load_7 ?_
  refine ab_getI f_X3_81 rfl (sh_k hs 4 7 (by decide) rfl) dX3_load_10 ?_
  refine ab_icmp_ge (tgt := 58) dX3_load_13 (by decide) (fun c1 => ?_) (fun c1 => ?_)
  · have ht := ht.1 c1
    refine ab_aload_n (i := 0) dX3_load_58 rfl rfl ?_
    refine ab_getR (b := 50) f_X3_52 rfl (sh_k hs 43 3 (by decide) rfl) (sh_r hs 59 rfl) dX3_load_59 ?_
    refine ab_iconst (v := (-1)) dX3_load_62 (by decide) ?_
    refine ab_callS (As := [.ref 50, .int (-1)]) ht (Y_J7_fill_53178) l_X3_90 st_J7_fill_53178 rfl ⟨(Nat.le_of_ble_eq_true rfl), (Nat.le_of_ble_eq_true rfl), (Nat.le_of_ble_eq_true rfl), (Nat.le_of_ble_eq_true rfl)⟩ dX3_load_63 ?_
    rintro _ h2 ⟨rfl, hs3, ht⟩
    refine ab_aload_n (i := 0) dX3_load_66 rfl rfl ?_
    refine ab_getR (b := 1) f_X3_64 rfl (sh_k hs3 43 3 (by decide) rfl) (sh_r hs3 56 rfl) dX3_load_67 ?_
    refine ab_getR (b := 6) f_X3_96 rfl (sh_k hs3 1 10 (by decide) rfl) (sh_r hs3 15 rfl) dX3_load_70 ?_
    refine ab_getI f_X3_81 rfl (sh_k hs3 6 7 (by decide) rfl) dX3_load_73 ?_
    refine ab_iconst (v := 1) dX3_load_76 (by decide) ?_
    refine ab_isub dX3_load_77 ?_
    refine ab_istore_n (i := 1) (L' := [some (.ref 43), some (.int ((ah_i h2 6 3) - 1)), none]) dX3_load_78 rfl (by exact (Nat.le_of_ble_eq_true rfl)) rfl rfl ?_
    exact Wp.fewer (L' := [some (.ref 43), some (.int ((ah_i h2 6 3) - 1)), none]) (show ab_leL _ _ from ⟨rfl, ⟨rfl, trivial⟩⟩) ht
  · have ht := ht.2 c1
    refine ab_aload_n (i := 0) dX3_load_16 rfl rfl ?_
    refine ab_getR (b := 44) f_X3_15 rfl (sh_k hs 43 3 (by decide) rfl) (sh_r hs 50 rfl) dX3_load_17 ?_
    refine ab_iload_n (i := 1) dX3_load_20 rfl rfl ?_
    refine ab_aload_n (i := 0) dX3_load_21 rfl rfl ?_
    refine ab_getR (b := 1) f_X3_64 rfl (sh_k hs 43 3 (by decide) rfl) (sh_r hs 56 rfl) dX3_load_22 ?_
    refine ab_getR (b := 4) f_X3_76 rfl (sh_k hs 1 10 (by decide) rfl) (sh_r hs 14 rfl) dX3_load_25 ?_
    refine ab_iload_n (i := 1) dX3_load_28 rfl rfl ?_
    refine ab_iconst (v := 0) dX3_load_29 (by decide) ?_
    refine ab_callV (b := 4) (As := [.int x1, .int 0]) ht (Y_X7_get) l_X3_86 in_X7_get se_X7_get (sh_k hs 4 7 (by decide) rfl) (by decide) rfl rfl ⟨(Nat.le_of_ble_eq_true rfl), (Nat.le_of_ble_eq_true rfl), (Nat.le_of_ble_eq_true rfl), (Nat.le_of_ble_eq_true rfl)⟩ dX3_load_30 ?_
    rintro _ h5 ⟨v7, rfl, hs6, ht⟩
    obtain ⟨hc8, ht⟩ := ht
    refine ab_iast (sh_k hs6 44 14 (by decide) rfl) hc8 dX3_load_33 ?_
    refine Wp.nm fun h9 e10 => ?_
    have ht := ht h9 e10
    have hs11 : Sh h9 := by rw [e10]; exact sh_si hs6
    refine ab_aload_n (i := 0) dX3_load_34 rfl rfl ?_
    refine ab_getR (b := 45) f_X3_19 rfl (sh_k hs11 43 3 (by decide) rfl) (sh_r hs11 51 rfl) dX3_load_35 ?_
    refine ab_iload_n (i := 1) dX3_load_38 rfl rfl ?_
    refine ab_aload_n (i := 0) dX3_load_39 rfl rfl ?_
    refine ab_getR (b := 1) f_X3_64 rfl (sh_k hs11 43 3 (by decide) rfl) (sh_r hs11 56 rfl) dX3_load_40 ?_
    refine ab_getR (b := 4) f_X3_76 rfl (sh_k hs11 1 10 (by decide) rfl) (sh_r hs11 14 rfl) dX3_load_43 ?_
    refine ab_iload_n (i := 1) dX3_load_46 rfl rfl ?_
    refine ab_iconst (v := 1) dX3_load_47 (by decide) ?_
    refine ab_callV (b := 4) (As := [.int x1, .int 1]) ht (Y_X7_get) l_X3_86 in_X7_get se_X7_get (sh_k hs11 4 7 (by decide) rfl) (by decide) rfl rfl ⟨(Nat.le_of_ble_eq_true rfl), (Nat.le_of_ble_eq_true rfl), (Nat.le_of_ble_eq_true rfl), (Nat.le_of_ble_eq_true rfl)⟩ dX3_load_48 ?_
    rintro _ h12 ⟨v14, rfl, hs13, ht⟩
    obtain ⟨hc15, ht⟩ := ht
    refine ab_iast (sh_k hs13 45 14 (by decide) rfl) hc15 dX3_load_51 ?_
    refine Wp.nm fun h16 e17 => ?_
    have ht := ht h16 e17
    have hs18 : Sh h16 := by rw [e17]; exact sh_si hs13
    refine ab_iinc (i := 1) (x := x1) (v := (x1 + 1)) (L' := [some (.ref 43), some (.int (x1 + 1)), none]) dX3_load_52 rfl rfl (by exact (Nat.le_of_ble_eq_true rfl)) rfl rfl ?_
    refine ab_goto (tgt := 2) dX3_load_55 (by decide) ?_
    exact Wp.fewer (L' := [some (.ref 43), some (.int (x1 + 1)), none]) (show ab_leL _ _ from ⟨rfl, ⟨rfl, trivial⟩⟩) ht
set_option maxRecDepth 20000 in
theorem T_X3_load_79 {Q : Option Value → ah_T → Prop} {h : ah_T} (hs : Sh h) (x1 : Int32) (ht : ((x1 < 0 → Wp mX3_load Q 0 0 123 [some (.ref 43), some (.int 0), none] [] h) ∧ (¬ x1 < 0 → (Mt mX7_get [.ref 6, .int x1, .int 1] h (ab_qi fun v22 h20 => Sh h20 ∧ (vp_in v22 (ah_n h20 50)) ∧ (vp_in x1 (ah_n h20 51)) ∧ (∀ h25, h25 = ah_si h20 51 (Int32.toNatClampNeg x1) (ah_i h20 50 (Int32.toNatClampNeg v22)) → (vp_in v22 (ah_n h25 50)) ∧ (∀ h29, h29 = ah_si h25 50 (Int32.toNatClampNeg v22) x1 → Wp mX3_load Q 0 0 79 [some (.ref 43), some (.int (x1 + (-1))), none] [] h29))))))) : Wp mX3_load Q 0 0 79 [some (.ref 43), some (.int x1), none] [] h := by
  refine ab_iload_n (i := 1) dX3_load_79 rfl rfl ?_
  refine ab_if_lt (tgt := 121) dX3_load_80 (by decide) (fun c19 => ?_) (fun c19 => ?_)
  · have ht := ht.1 c19
    refine ab_iconst (v := 0) dX3_load_121 (by decide) ?_
    refine ab_istore_n (i := 1) (L' := [some (.ref 43), some (.int 0), none]) dX3_load_122 rfl (by exact (Nat.le_of_ble_eq_true rfl)) rfl rfl ?_
    exact Wp.fewer (L' := [some (.ref 43), some (.int 0), none]) (show ab_leL _ _ from ⟨rfl, ⟨rfl, trivial⟩⟩) ht
  · have ht := ht.2 c19
    refine ab_aload_n (i := 0) dX3_load_83 rfl rfl ?_
    refine ab_getR (b := 1) f_X3_64 rfl (sh_k hs 43 3 (by decide) rfl) (sh_r hs 56 rfl) dX3_load_84 ?_
    refine ab_getR (b := 6) f_X3_96 rfl (sh_k hs 1 10 (by decide) rfl) (sh_r hs 15 rfl) dX3_load_87 ?_
    refine ab_iload_n (i := 1) dX3_load_90 rfl rfl ?_
    refine ab_iconst (v := 1) dX3_load_91 (by decide) ?_
    refine ab_callV (b := 6) (As := [.int x1, .int 1]) ht (Y_X7_get) l_X3_86 in_X7_get se_X7_get (sh_k hs 6 7 (by decide) rfl) (by decide) rfl rfl ⟨(Nat.le_of_ble_eq_true rfl), (Nat.le_of_ble_eq_true rfl), (Nat.le_of_ble_eq_true rfl), (Nat.le_of_ble_eq_true rfl)⟩ dX3_load_92 ?_
    rintro _ h20 ⟨v22, rfl, hs21, ht⟩
    refine ab_istore_n (i := 2) (L' := [some (.ref 43), some (.int x1), some (.int v22)]) dX3_load_95 rfl (by exact (Nat.le_of_ble_eq_true rfl)) rfl rfl ?_
    refine ab_aload_n (i := 0) dX3_load_96 rfl rfl ?_
    refine ab_getR (b := 51) f_X3_55 rfl (sh_k hs21 43 3 (by decide) rfl) (sh_r hs21 60 rfl) dX3_load_97 ?_
    refine ab_iload_n (i := 1) dX3_load_100 rfl rfl ?_
    refine ab_aload_n (i := 0) dX3_load_101 rfl rfl ?_
    refine ab_getR (b := 50) f_X3_52 rfl (sh_k hs21 43 3 (by decide) rfl) (sh_r hs21 59 rfl) dX3_load_102 ?_
    refine ab_iload_n (i := 2) dX3_load_105 rfl rfl ?_
    obtain ⟨hc23, ht⟩ := ht
    refine ab_iald (sh_k hs21 50 14 (by decide) rfl) hc23 dX3_load_106 ?_
    obtain ⟨hc24, ht⟩ := ht
    refine ab_iast (sh_k hs21 51 14 (by decide) rfl) hc24 dX3_load_107 ?_
    refine Wp.nm fun h25 e26 => ?_
    have ht := ht h25 e26
    have hs27 : Sh h25 := by rw [e26]; exact sh_si hs21
    refine ab_aload_n (i := 0) dX3_load_108 rfl rfl ?_
    refine ab_getR (b := 50) f_X3_52 rfl (sh_k hs27 43 3 (by decide) rfl) (sh_r hs27 59 rfl) dX3_load_109 ?_
    refine ab_iload_n (i := 2) dX3_load_112 rfl rfl ?_
    refine ab_iload_n (i := 1) dX3_load_113 rfl rfl ?_
    obtain ⟨hc28, ht⟩ := ht
    refine ab_iast (sh_k hs27 50 14 (by decide) rfl) hc28 dX3_load_114 ?_
    refine Wp.nm fun h29 e30 => ?_
    have ht := ht h29 e30
    have hs31 : Sh h29 := by rw [e30]; exact sh_si hs27
    refine ab_iinc (i := 1) (x := x1) (v := (x1 + (-1))) (L' := [some (.ref 43), some (.int (x1 + (-1))), some (.int v22)]) dX3_load_115 rfl rfl (by exact (Nat.le_of_ble_eq_true rfl)) rfl rfl ?_
    refine ab_goto (tgt := 79) dX3_load_118 (by decide) ?_
    exact Wp.fewer (L' := [some (.ref 43), some (.int (x1 + (-1))), none]) (show ab_leL _ _ from ⟨rfl, ⟨rfl, trivial⟩⟩) ht
set_option maxRecDepth 20000 in
theorem T_X3_load_123 {Q : Option Value → ah_T → Prop} {h : ah_T} (hs : Sh h) (x1 : Int32) (ht : (((ah_i h 8 3) ≤ x1 → (Mt mX3_dismiss [.ref 43] h (ab_qv fun h33 => Sh h33 ∧ Q none h33))) ∧ (¬ (ah_i h 8 3) ≤ x1 → (Mt mX7_get [.ref 8, .int x1, .int 0] h (ab_qi fun v38 h36 => Sh h36 ∧ (vp_in x1 (ah_n h36 48)) ∧ (∀ h40, h40 = ah_si h36 48 (Int32.toNatClampNeg x1) v38 → Wp mX3_load Q 0 0 157 [some (.ref 43), some (.int x1), some (.int 0)] [] h40)))))) : Wp mX3_load Q 0 0 123 [some (.ref 43), some (.int x1), none] [] h := by
  refine ab_iload_n (i := 1) dX3_load_123 rfl rfl ?_
  refine ab_aload_n (i := 0) dX3_load_124 rfl rfl ?_
  refine ab_getR (b := 1) f_X3_64 rfl (sh_k hs 43 3 (by decide) rfl) (sh_r hs 56 rfl) dX3_load_125 ?_
  refine ab_getR (b := 8) f_X3_99 rfl (sh_k hs 1 10 (by decide) rfl) (sh_r hs 16 rfl) dX3_load_128 ?_
  refine ab_getI f_X3_81 rfl (sh_k hs 8 7 (by decide) rfl) dX3_load_131 ?_
  refine ab_icmp_ge (tgt := 192) dX3_load_134 (by decide) (fun c32 => ?_) (fun c32 => ?_)
  · have ht := ht.1 c32
    refine ab_aload_n (i := 0) dX3_load_192 rfl rfl ?_
    refine ab_callV (b := 43) (As := []) ht (Y_X3_dismiss) l_X3_104 in_X3_dismiss se_X3_dismiss (sh_k hs 43 3 (by decide) rfl) (by decide) rfl rfl ⟨(Nat.le_of_ble_eq_true rfl), (Nat.le_of_ble_eq_true rfl), (Nat.le_of_ble_eq_true rfl), (Nat.le_of_ble_eq_true rfl)⟩ dX3_load_193 ?_
    rintro _ h33 ⟨rfl, hs34, ht⟩
    exact ab_vret rfl dX3_load_196 (Nat.le_of_ble_eq_true rfl) (Nat.le_of_ble_eq_true rfl) ht
  · have ht := ht.2 c32
    refine ab_aload_n (i := 0) dX3_load_137 rfl rfl ?_
    refine ab_getR (b := 48) f_X3_40 rfl (sh_k hs 43 3 (by decide) rfl) (sh_r hs 54 rfl) dX3_load_138 ?_
    refine ab_iload_n (i := 1) dX3_load_141 rfl rfl ?_
    refine ab_aload_n (i := 0) dX3_load_142 rfl rfl ?_
    refine ab_getR (b := 1) f_X3_64 rfl (sh_k hs 43 3 (by decide) rfl) (sh_r hs 56 rfl) dX3_load_143 ?_
    refine ab_getR (b := 8) f_X3_99 rfl (sh_k hs 1 10 (by decide) rfl) (sh_r hs 16 rfl) dX3_load_146 ?_
    refine ab_iload_n (i := 1) dX3_load_149 rfl rfl ?_
    refine ab_iconst (v := 0) dX3_load_150 (by decide) ?_
    refine ab_callV (b := 8) (As := [.int x1, .int 0]) ht (Y_X7_get) l_X3_86 in_X7_get se_X7_get (sh_k hs 8 7 (by decide) rfl) (by decide) rfl rfl ⟨(Nat.le_of_ble_eq_true rfl), (Nat.le_of_ble_eq_true rfl), (Nat.le_of_ble_eq_true rfl), (Nat.le_of_ble_eq_true rfl)⟩ dX3_load_151 ?_
    rintro _ h36 ⟨v38, rfl, hs37, ht⟩
    obtain ⟨hc39, ht⟩ := ht
    refine ab_iast (sh_k hs37 48 14 (by decide) rfl) hc39 dX3_load_154 ?_
    refine Wp.nm fun h40 e41 => ?_
    have ht := ht h40 e41
    have hs42 : Sh h40 := by rw [e41]; exact sh_si hs37
    refine ab_iconst (v := 0) dX3_load_155 (by decide) ?_
    refine ab_istore_n (i := 2) (L' := [some (.ref 43), some (.int x1), some (.int 0)]) dX3_load_156 rfl (by exact (Nat.le_of_ble_eq_true rfl)) rfl rfl ?_
    exact Wp.fewer (L' := [some (.ref 43), some (.int x1), some (.int 0)]) (show ab_leL _ _ from ⟨rfl, ⟨rfl, ⟨rfl, trivial⟩⟩⟩) ht
set_option maxRecDepth 20000 in
theorem T_X3_load_157 {Q : Option Value → ah_T → Prop} {h : ah_T} (hs : Sh h) (x1 : Int32) (x2 : Int32) (ht : ((120 ≤ x2 → Wp mX3_load Q 0 0 123 [some (.ref 43), some (.int (x1 + 1)), none] [] h) ∧ (¬ 120 ≤ x2 → (Mt mX3_placeOf [.ref 43, .int x1, .int x2] h (ab_qi fun v46 h44 => Sh h44 ∧ (vp_in ((x1 * 120) + x2) (ah_n h44 49)) ∧ (∀ h48, h48 = ah_si h44 49 (Int32.toNatClampNeg ((x1 * 120) + x2)) v46 → Wp mX3_load Q 0 0 157 [some (.ref 43), some (.int x1), some (.int (x2 + 1))] [] h48)))))) : Wp mX3_load Q 0 0 157 [some (.ref 43), some (.int x1), some (.int x2)] [] h := by
  refine ab_iload_n (i := 2) dX3_load_157 rfl rfl ?_
  refine ab_bipush (v := 120) dX3_load_158 (by decide) ?_
  refine ab_icmp_ge (tgt := 186) dX3_load_160 (by decide) (fun c43 => ?_) (fun c43 => ?_)
  · have ht := ht.1 c43
    refine ab_iinc (i := 1) (x := x1) (v := (x1 + 1)) (L' := [some (.ref 43), some (.int (x1 + 1)), some (.int x2)]) dX3_load_186 rfl rfl (by exact (Nat.le_of_ble_eq_true rfl)) rfl rfl ?_
    refine ab_goto (tgt := 123) dX3_load_189 (by decide) ?_
    exact Wp.fewer (L' := [some (.ref 43), some (.int (x1 + 1)), none]) (show ab_leL _ _ from ⟨rfl, ⟨rfl, trivial⟩⟩) ht
  · have ht := ht.2 c43
    refine ab_aload_n (i := 0) dX3_load_163 rfl rfl ?_
    refine ab_getR (b := 49) f_X3_43 rfl (sh_k hs 43 3 (by decide) rfl) (sh_r hs 55 rfl) dX3_load_164 ?_
    refine ab_iload_n (i := 1) dX3_load_167 rfl rfl ?_
    refine ab_bipush (v := 120) dX3_load_168 (by decide) ?_
    refine ab_imul dX3_load_170 ?_
    refine ab_iload_n (i := 2) dX3_load_171 rfl rfl ?_
    refine ab_iadd dX3_load_172 ?_
    refine ab_aload_n (i := 0) dX3_load_173 rfl rfl ?_
    refine ab_iload_n (i := 1) dX3_load_174 rfl rfl ?_
    refine ab_iload_n (i := 2) dX3_load_175 rfl rfl ?_
    refine ab_callV (b := 43) (As := [.int x1, .int x2]) ht (Y_X3_placeOf) l_X3_101 in_X3_placeOf se_X3_placeOf (sh_k hs 43 3 (by decide) rfl) (by decide) rfl rfl ⟨(Nat.le_of_ble_eq_true rfl), (Nat.le_of_ble_eq_true rfl), (Nat.le_of_ble_eq_true rfl), (Nat.le_of_ble_eq_true rfl)⟩ dX3_load_176 ?_
    rintro _ h44 ⟨v46, rfl, hs45, ht⟩
    obtain ⟨hc47, ht⟩ := ht
    refine ab_iast (sh_k hs45 49 14 (by decide) rfl) hc47 dX3_load_179 ?_
    refine Wp.nm fun h48 e49 => ?_
    have ht := ht h48 e49
    have hs50 : Sh h48 := by rw [e49]; exact sh_si hs45
    refine ab_iinc (i := 2) (x := x2) (v := (x2 + 1)) (L' := [some (.ref 43), some (.int x1), some (.int (x2 + 1))]) dX3_load_180 rfl rfl (by exact (Nat.le_of_ble_eq_true rfl)) rfl rfl ?_
    refine ab_goto (tgt := 157) dX3_load_183 (by decide) ?_
    exact Wp.fewer (L' := [some (.ref 43), some (.int x1), some (.int (x2 + 1))]) (show ab_leL _ _ from ⟨rfl, ⟨rfl, ⟨rfl, trivial⟩⟩⟩) ht
set_option maxRecDepth 20000 in
theorem T_X3_load {Q : Option Value → ah_T → Prop} {h : ah_T} (hs : Sh h)  (ht : Wp mX3_load Q 0 0 2 [some (.ref 43), some (.int 0), none] [] h) : Mt mX3_load [.ref 43] h Q := by
  refine Mt.ofWp rfl (by exact (Nat.le_of_ble_eq_true rfl)) (Wp.fewer (L' := [some (.ref 43), none, none]) (show ab_leL _ _ from ⟨rfl, trivial⟩) ?_)
  refine ab_iconst (v := 0) dX3_load_0 (by decide) ?_
  refine ab_istore_n (i := 1) (L' := [some (.ref 43), some (.int 0), none]) dX3_load_1 rfl (by exact (Nat.le_of_ble_eq_true rfl)) rfl rfl ?_
  exact Wp.fewer (L' := [some (.ref 43), some (.int 0), none]) (show ab_leL _ _ from ⟨rfl, ⟨rfl, trivial⟩⟩) ht
theorem dX3_placeOf_0 : decode cX3_placeOf 0 = .ok (.iload_n 2, 1) := by decide +kernel
theorem dX3_placeOf_1 : decode cX3_placeOf 1 = .ok (.aload_n 0, 1) := by decide +kernel
theorem dX3_placeOf_2 : decode cX3_placeOf 2 = .ok (.getfield 64, 3) := by decide +kernel
theorem dX3_placeOf_5 : decode cX3_placeOf 5 = .ok (.getfield 99, 3) := by decide +kernel
theorem dX3_placeOf_8 : decode cX3_placeOf 8 = .ok (.iload_n 1, 1) := by decide +kernel
theorem dX3_placeOf_9 : decode cX3_placeOf 9 = .ok (.iconst 1, 1) := by decide +kernel
theorem dX3_placeOf_10 : decode cX3_placeOf 10 = .ok (.invokevirtual 86, 3) := by decide +kernel
theorem dX3_placeOf_13 : decode cX3_placeOf 13 = .ok (.isub, 1) := by decide +kernel
theorem dX3_placeOf_14 : decode cX3_placeOf 14 = .ok (.istore_n 3, 1) := by decide +kernel
theorem dX3_placeOf_15 : decode cX3_placeOf 15 = .ok (.iload_n 3, 1) := by decide +kernel
theorem dX3_placeOf_16 : decode cX3_placeOf 16 = .ok (.aload_n 0, 1) := by decide +kernel
theorem dX3_placeOf_17 : decode cX3_placeOf 17 = .ok (.getfield 64, 3) := by decide +kernel
theorem dX3_placeOf_20 : decode cX3_placeOf 20 = .ok (.getfield 99, 3) := by decide +kernel
theorem dX3_placeOf_23 : decode cX3_placeOf 23 = .ok (.iload_n 1, 1) := by decide +kernel
theorem dX3_placeOf_24 : decode cX3_placeOf 24 = .ok (.iconst 3, 1) := by decide +kernel
theorem dX3_placeOf_25 : decode cX3_placeOf 25 = .ok (.invokevirtual 86, 3) := by decide +kernel
theorem dX3_placeOf_28 : decode cX3_placeOf 28 = .ok (.invokestatic 107, 3) := by decide +kernel
theorem dX3_placeOf_31 : decode cX3_placeOf 31 = .ok (.istore 4, 2) := by decide +kernel
theorem dX3_placeOf_33 : decode cX3_placeOf 33 = .ok (.iload 4, 2) := by decide +kernel
theorem dX3_placeOf_35 : decode cX3_placeOf 35 = .ok (.ifCond .ge 5, 3) := by decide +kernel
theorem dX3_placeOf_38 : decode cX3_placeOf 38 = .ok (.iconst (-1), 1) := by decide +kernel
theorem dX3_placeOf_39 : decode cX3_placeOf 39 = .ok (.ireturn, 1) := by decide +kernel
theorem dX3_placeOf_40 : decode cX3_placeOf 40 = .ok (.aload_n 0, 1) := by decide +kernel
theorem dX3_placeOf_41 : decode cX3_placeOf 41 = .ok (.getfield 64, 3) := by decide +kernel
theorem dX3_placeOf_44 : decode cX3_placeOf 44 = .ok (.getfield 99, 3) := by decide +kernel
theorem dX3_placeOf_47 : decode cX3_placeOf 47 = .ok (.iload_n 1, 1) := by decide +kernel
theorem dX3_placeOf_48 : decode cX3_placeOf 48 = .ok (.iload 4, 2) := by decide +kernel
theorem dX3_placeOf_50 : decode cX3_placeOf 50 = .ok (.ifCond .ne 7, 3) := by decide +kernel
theorem dX3_placeOf_53 : decode cX3_placeOf 53 = .ok (.iconst 2, 1) := by decide +kernel
theorem dX3_placeOf_54 : decode cX3_placeOf 54 = .ok (.goto 9, 3) := by decide +kernel
theorem dX3_placeOf_57 : decode cX3_placeOf 57 = .ok (.iconst 4, 1) := by decide +kernel
theorem dX3_placeOf_58 : decode cX3_placeOf 58 = .ok (.iload 4, 2) := by decide +kernel
theorem dX3_placeOf_60 : decode cX3_placeOf 60 = .ok (.iadd, 1) := by decide +kernel
theorem dX3_placeOf_61 : decode cX3_placeOf 61 = .ok (.iconst 1, 1) := by decide +kernel
theorem dX3_placeOf_62 : decode cX3_placeOf 62 = .ok (.isub, 1) := by decide +kernel
theorem dX3_placeOf_63 : decode cX3_placeOf 63 = .ok (.invokevirtual 86, 3) := by decide +kernel
theorem dX3_placeOf_66 : decode cX3_placeOf 66 = .ok (.ireturn, 1) := by decide +kernel
set_option maxRecDepth 20000 in
theorem T_X3_placeOf {Q : Option Value → ah_T → Prop} {h : ah_T} (hs : Sh h) (x1 : Int32) (x2 : Int32) (ht : (Mt mX7_get [.ref 8, .int x1, .int 1] h (ab_qi fun v3 h1 => Sh h1 ∧ (Mt mX7_get [.ref 8, .int x1, .int 3] h1 (ab_qi fun v6 h4 => Sh h4 ∧ ((0 ≤ (if v6 < (x2 - v3) then v6 else (x2 - v3)) → ((¬ (if v6 < (x2 - v3) then v6 else (x2 - v3)) = 0 → (Mt mX7_get [.ref 8, .int x1, .int ((4 + (if v6 < (x2 - v3) then v6 else (x2 - v3))) - 1)] h4 (ab_qi fun v11 h9 => Sh h9 ∧ Q (some (.int v11)) h9))) ∧ ((if v6 < (x2 - v3) then v6 else (x2 - v3)) = 0 → (Mt mX7_get [.ref 8, .int x1, .int 2] h4 (ab_qi fun v14 h12 => Sh h12 ∧ Q (some (.int v14)) h12))))) ∧ (¬ 0 ≤ (if v6 < (x2 - v3) then v6 else (x2 - v3)) → Q (some (.int (-1))) h4))))))) : Mt mX3_placeOf [.ref 43, .int x1, .int x2] h Q := by
  refine Mt.ofWp rfl (by exact (Nat.le_of_ble_eq_true rfl)) (Wp.fewer (L' := [some (.ref 43), some (.int x1), some (.int x2), none, none]) (show ab_leL _ _ from ⟨rfl, ⟨rfl, ⟨rfl, trivial⟩⟩⟩) ?_)
  refine ab_iload_n (i := 2) dX3_placeOf_0 rfl rfl ?_
  refine ab_aload_n (i := 0) dX3_placeOf_1 rfl rfl ?_
  refine ab_getR (b := 1) f_X3_64 rfl (sh_k hs 43 3 (by decide) rfl) (sh_r hs 56 rfl) dX3_placeOf_2 ?_
  refine ab_getR (b := 8) f_X3_99 rfl (sh_k hs 1 10 (by decide) rfl) (sh_r hs 16 rfl) dX3_placeOf_5 ?_
  refine ab_iload_n (i := 1) dX3_placeOf_8 rfl rfl ?_
  refine ab_iconst (v := 1) dX3_placeOf_9 (by decide) ?_
  refine ab_callV (b := 8) (As := [.int x1, .int 1]) ht (Y_X7_get) l_X3_86 in_X7_get se_X7_get (sh_k hs 8 7 (by decide) rfl) (by decide) rfl rfl ⟨(Nat.le_of_ble_eq_true rfl), (Nat.le_of_ble_eq_true rfl), (Nat.le_of_ble_eq_true rfl), (Nat.le_of_ble_eq_true rfl)⟩ dX3_placeOf_10 ?_
  rintro _ h1 ⟨v3, rfl, hs2, ht⟩
  refine ab_isub dX3_placeOf_13 ?_
  refine ab_istore_n (i := 3) (L' := [some (.ref 43), some (.int x1), some (.int x2), some (.int (x2 - v3)), none]) dX3_placeOf_14 rfl (by exact (Nat.le_of_ble_eq_true rfl)) rfl rfl ?_
  refine ab_iload_n (i := 3) dX3_placeOf_15 rfl rfl ?_
  refine ab_aload_n (i := 0) dX3_placeOf_16 rfl rfl ?_
  refine ab_getR (b := 1) f_X3_64 rfl (sh_k hs2 43 3 (by decide) rfl) (sh_r hs2 56 rfl) dX3_placeOf_17 ?_
  refine ab_getR (b := 8) f_X3_99 rfl (sh_k hs2 1 10 (by decide) rfl) (sh_r hs2 16 rfl) dX3_placeOf_20 ?_
  refine ab_iload_n (i := 1) dX3_placeOf_23 rfl rfl ?_
  refine ab_iconst (v := 3) dX3_placeOf_24 (by decide) ?_
  refine ab_callV (b := 8) (As := [.int x1, .int 3]) ht (Y_X7_get) l_X3_86 in_X7_get se_X7_get (sh_k hs2 8 7 (by decide) rfl) (by decide) rfl rfl ⟨(Nat.le_of_ble_eq_true rfl), (Nat.le_of_ble_eq_true rfl), (Nat.le_of_ble_eq_true rfl), (Nat.le_of_ble_eq_true rfl)⟩ dX3_placeOf_25 ?_
  rintro _ h4 ⟨v6, rfl, hs5, ht⟩
  refine ab_mmin (tb_3 (List.mem_of_getElem? (i := 228) (by decide +kernel)) rfl) st_mmin in_m co_mmin (Nat.le_of_ble_eq_true rfl) (Nat.le_of_ble_eq_true rfl) (Nat.le_of_ble_eq_true rfl) (Nat.le_of_ble_eq_true rfl) dX3_placeOf_28 ?_
  refine ab_istore (i := 4) (L' := [some (.ref 43), some (.int x1), some (.int x2), some (.int (x2 - v3)), some (.int (if v6 < (x2 - v3) then v6 else (x2 - v3)))]) dX3_placeOf_31 (by exact (Nat.le_of_ble_eq_true rfl)) rfl rfl ?_
  refine ab_iload (i := 4) dX3_placeOf_33 rfl ?_
  refine ab_if_ge (tgt := 40) dX3_placeOf_35 (by decide) (fun c7 => ?_) (fun c7 => ?_)
  · have ht := ht.1 c7
    refine ab_aload_n (i := 0) dX3_placeOf_40 rfl rfl ?_
    refine ab_getR (b := 1) f_X3_64 rfl (sh_k hs5 43 3 (by decide) rfl) (sh_r hs5 56 rfl) dX3_placeOf_41 ?_
    refine ab_getR (b := 8) f_X3_99 rfl (sh_k hs5 1 10 (by decide) rfl) (sh_r hs5 16 rfl) dX3_placeOf_44 ?_
    refine ab_iload_n (i := 1) dX3_placeOf_47 rfl rfl ?_
    refine ab_iload (i := 4) dX3_placeOf_48 rfl ?_
    refine ab_if_ne (tgt := 57) dX3_placeOf_50 (by decide) (fun c8 => ?_) (fun c8 => ?_)
    · have ht := ht.1 c8
      refine ab_iconst (v := 4) dX3_placeOf_57 (by decide) ?_
      refine ab_iload (i := 4) dX3_placeOf_58 rfl ?_
      refine ab_iadd dX3_placeOf_60 ?_
      refine ab_iconst (v := 1) dX3_placeOf_61 (by decide) ?_
      refine ab_isub dX3_placeOf_62 ?_
      refine ab_callV (b := 8) (As := [.int x1, .int ((4 + (if v6 < (x2 - v3) then v6 else (x2 - v3))) - 1)]) ht (Y_X7_get) l_X3_86 in_X7_get se_X7_get (sh_k hs5 8 7 (by decide) rfl) (by decide) rfl rfl ⟨(Nat.le_of_ble_eq_true rfl), (Nat.le_of_ble_eq_true rfl), (Nat.le_of_ble_eq_true rfl), (Nat.le_of_ble_eq_true rfl)⟩ dX3_placeOf_63 ?_
      rintro _ h9 ⟨v11, rfl, hs10, ht⟩
      exact ab_iret rfl dX3_placeOf_66 (Nat.le_of_ble_eq_true rfl) (Nat.le_of_ble_eq_true rfl) ht
    · have ht := ht.2 c8
      refine ab_iconst (v := 2) dX3_placeOf_53 (by decide) ?_
      refine ab_goto (tgt := 63) dX3_placeOf_54 (by decide) ?_
      refine ab_callV (b := 8) (As := [.int x1, .int 2]) ht (Y_X7_get) l_X3_86 in_X7_get se_X7_get (sh_k hs5 8 7 (by decide) rfl) (by decide) rfl rfl ⟨(Nat.le_of_ble_eq_true rfl), (Nat.le_of_ble_eq_true rfl), (Nat.le_of_ble_eq_true rfl), (Nat.le_of_ble_eq_true rfl)⟩ dX3_placeOf_63 ?_
      rintro _ h12 ⟨v14, rfl, hs13, ht⟩
      exact ab_iret rfl dX3_placeOf_66 (Nat.le_of_ble_eq_true rfl) (Nat.le_of_ble_eq_true rfl) ht
  · have ht := ht.2 c7
    refine ab_iconst (v := (-1)) dX3_placeOf_38 (by decide) ?_
    exact ab_iret rfl dX3_placeOf_39 (Nat.le_of_ble_eq_true rfl) (Nat.le_of_ble_eq_true rfl) ht
theorem dX3_invite_0 : decode cX3_invite 0 = .ok (.aload_n 0, 1) := by decide +kernel
theorem dX3_invite_1 : decode cX3_invite 1 = .ok (.getfield 64, 3) := by decide +kernel
theorem dX3_invite_4 : decode cX3_invite 4 = .ok (.getfield 76, 3) := by decide +kernel
theorem dX3_invite_7 : decode cX3_invite 7 = .ok (.getfield 81, 3) := by decide +kernel
theorem dX3_invite_10 : decode cX3_invite 10 = .ok (.istore_n 3, 1) := by decide +kernel
theorem dX3_invite_11 : decode cX3_invite 11 = .ok (.iload_n 3, 1) := by decide +kernel
theorem dX3_invite_12 : decode cX3_invite 12 = .ok (.bipush 10, 2) := by decide +kernel
theorem dX3_invite_14 : decode cX3_invite 14 = .ok (.if_icmp .ge 29, 3) := by decide +kernel
theorem dX3_invite_17 : decode cX3_invite 17 = .ok (.aload_n 0, 1) := by decide +kernel
theorem dX3_invite_18 : decode cX3_invite 18 = .ok (.getfield 15, 3) := by decide +kernel
theorem dX3_invite_21 : decode cX3_invite 21 = .ok (.iload_n 3, 1) := by decide +kernel
theorem dX3_invite_22 : decode cX3_invite 22 = .ok (.iload_n 1, 1) := by decide +kernel
theorem dX3_invite_23 : decode cX3_invite 23 = .ok (.iastore, 1) := by decide +kernel
theorem dX3_invite_24 : decode cX3_invite 24 = .ok (.aload_n 0, 1) := by decide +kernel
theorem dX3_invite_25 : decode cX3_invite 25 = .ok (.getfield 19, 3) := by decide +kernel
theorem dX3_invite_28 : decode cX3_invite 28 = .ok (.iload_n 3, 1) := by decide +kernel
theorem dX3_invite_29 : decode cX3_invite 29 = .ok (.iload_n 2, 1) := by decide +kernel
theorem dX3_invite_30 : decode cX3_invite 30 = .ok (.iastore, 1) := by decide +kernel
theorem dX3_invite_31 : decode cX3_invite 31 = .ok (.aload_n 0, 1) := by decide +kernel
theorem dX3_invite_32 : decode cX3_invite 32 = .ok (.iload_n 3, 1) := by decide +kernel
theorem dX3_invite_33 : decode cX3_invite 33 = .ok (.iconst 1, 1) := by decide +kernel
theorem dX3_invite_34 : decode cX3_invite 34 = .ok (.iadd, 1) := by decide +kernel
theorem dX3_invite_35 : decode cX3_invite 35 = .ok (.putfield 9, 3) := by decide +kernel
theorem dX3_invite_38 : decode cX3_invite 38 = .ok (.aload_n 0, 1) := by decide +kernel
theorem dX3_invite_39 : decode cX3_invite 39 = .ok (.iload_n 3, 1) := by decide +kernel
theorem dX3_invite_40 : decode cX3_invite 40 = .ok (.putfield 49, 3) := by decide +kernel
theorem dX3_invite_43 : decode cX3_invite 43 = .ok (.return_, 1) := by decide +kernel
set_option maxRecDepth 20000 in
theorem T_X3_invite {Q : Option Value → ah_T → Prop} {h : ah_T} (hs : Sh h) (x1 : Int32) (x2 : Int32) (ht : ((10 ≤ (ah_i h 4 3) → Q none h) ∧ (¬ 10 ≤ (ah_i h 4 3) → (vp_in (ah_i h 4 3) (ah_n h 44)) ∧ (∀ h3, h3 = ah_si h 44 (Int32.toNatClampNeg (ah_i h 4 3)) x1 → (vp_in (ah_i h 4 3) (ah_n h3 45)) ∧ (∀ h7, h7 = ah_si h3 45 (Int32.toNatClampNeg (ah_i h 4 3)) x2 → (∀ h10, h10 = ah_si h7 43 0 ((ah_i h 4 3) + 1) → (∀ h13, h13 = ah_si h10 43 15 (ah_i h 4 3) → Q none h13))))))) : Mt mX3_invite [.ref 43, .int x1, .int x2] h Q := by
  refine Mt.ofWp rfl (by exact (Nat.le_of_ble_eq_true rfl)) (Wp.fewer (L' := [some (.ref 43), some (.int x1), some (.int x2), none]) (show ab_leL _ _ from ⟨rfl, ⟨rfl, ⟨rfl, trivial⟩⟩⟩) ?_)
  refine ab_aload_n (i := 0) dX3_invite_0 rfl rfl ?_
  refine ab_getR (b := 1) f_X3_64 rfl (sh_k hs 43 3 (by decide) rfl) (sh_r hs 56 rfl) dX3_invite_1 ?_
  refine ab_getR (b := 4) f_X3_76 rfl (sh_k hs 1 10 (by decide) rfl) (sh_r hs 14 rfl) dX3_invite_4 ?_
  refine ab_getI f_X3_81 rfl (sh_k hs 4 7 (by decide) rfl) dX3_invite_7 ?_
  refine ab_istore_n (i := 3) (L' := [some (.ref 43), some (.int x1), some (.int x2), some (.int (ah_i h 4 3))]) dX3_invite_10 rfl (by exact (Nat.le_of_ble_eq_true rfl)) rfl rfl ?_
  refine ab_iload_n (i := 3) dX3_invite_11 rfl rfl ?_
  refine ab_bipush (v := 10) dX3_invite_12 (by decide) ?_
  refine ab_icmp_ge (tgt := 43) dX3_invite_14 (by decide) (fun c1 => ?_) (fun c1 => ?_)
  · have ht := ht.1 c1
    exact ab_vret rfl dX3_invite_43 (Nat.le_of_ble_eq_true rfl) (Nat.le_of_ble_eq_true rfl) ht
  · have ht := ht.2 c1
    refine ab_aload_n (i := 0) dX3_invite_17 rfl rfl ?_
    refine ab_getR (b := 44) f_X3_15 rfl (sh_k hs 43 3 (by decide) rfl) (sh_r hs 50 rfl) dX3_invite_18 ?_
    refine ab_iload_n (i := 3) dX3_invite_21 rfl rfl ?_
    refine ab_iload_n (i := 1) dX3_invite_22 rfl rfl ?_
    obtain ⟨hc2, ht⟩ := ht
    refine ab_iast (sh_k hs 44 14 (by decide) rfl) hc2 dX3_invite_23 ?_
    refine Wp.nm fun h3 e4 => ?_
    have ht := ht h3 e4
    have hs5 : Sh h3 := by rw [e4]; exact sh_si hs
    refine ab_aload_n (i := 0) dX3_invite_24 rfl rfl ?_
    refine ab_getR (b := 45) f_X3_19 rfl (sh_k hs5 43 3 (by decide) rfl) (sh_r hs5 51 rfl) dX3_invite_25 ?_
    refine ab_iload_n (i := 3) dX3_invite_28 rfl rfl ?_
    refine ab_iload_n (i := 2) dX3_invite_29 rfl rfl ?_
    obtain ⟨hc6, ht⟩ := ht
    refine ab_iast (sh_k hs5 45 14 (by decide) rfl) hc6 dX3_invite_30 ?_
    refine Wp.nm fun h7 e8 => ?_
    have ht := ht h7 e8
    have hs9 : Sh h7 := by rw [e8]; exact sh_si hs5
    refine ab_aload_n (i := 0) dX3_invite_31 rfl rfl ?_
    refine ab_iload_n (i := 3) dX3_invite_32 rfl rfl ?_
    refine ab_iconst (v := 1) dX3_invite_33 (by decide) ?_
    refine ab_iadd dX3_invite_34 ?_
    refine ab_putI f_X3_9 (Or.inl rfl) rfl (sh_k hs9 43 3 (by decide) rfl) rfl rfl dX3_invite_35 ?_
    refine Wp.nm fun h10 e11 => ?_
    have ht := ht h10 e11
    have hs12 : Sh h10 := by rw [e11]; exact sh_si hs9
    refine ab_aload_n (i := 0) dX3_invite_38 rfl rfl ?_
    refine ab_iload_n (i := 3) dX3_invite_39 rfl rfl ?_
    refine ab_putI f_X3_49 (Or.inl rfl) rfl (sh_k hs12 43 3 (by decide) rfl) rfl rfl dX3_invite_40 ?_
    refine Wp.nm fun h13 e14 => ?_
    have ht := ht h13 e14
    have hs15 : Sh h13 := by rw [e14]; exact sh_si hs12
    exact ab_vret rfl dX3_invite_43 (Nat.le_of_ble_eq_true rfl) (Nat.le_of_ble_eq_true rfl) ht
theorem dX3_disguise_0 : decode cX3_disguise 0 = .ok (.aload_n 0, 1) := by decide +kernel
theorem dX3_disguise_1 : decode cX3_disguise 1 = .ok (.getfield 19, 3) := by decide +kernel
theorem dX3_disguise_4 : decode cX3_disguise 4 = .ok (.iload_n 1, 1) := by decide +kernel
theorem dX3_disguise_5 : decode cX3_disguise 5 = .ok (.iload_n 2, 1) := by decide +kernel
theorem dX3_disguise_6 : decode cX3_disguise 6 = .ok (.iastore, 1) := by decide +kernel
theorem dX3_disguise_7 : decode cX3_disguise 7 = .ok (.aload_n 0, 1) := by decide +kernel
theorem dX3_disguise_8 : decode cX3_disguise 8 = .ok (.iload_n 2, 1) := by decide +kernel
theorem dX3_disguise_9 : decode cX3_disguise 9 = .ok (.aload_n 0, 1) := by decide +kernel
theorem dX3_disguise_10 : decode cX3_disguise 10 = .ok (.getfield 64, 3) := by decide +kernel
theorem dX3_disguise_13 : decode cX3_disguise 13 = .ok (.getfield 76, 3) := by decide +kernel
theorem dX3_disguise_16 : decode cX3_disguise 16 = .ok (.iload_n 1, 1) := by decide +kernel
theorem dX3_disguise_17 : decode cX3_disguise 17 = .ok (.iconst 1, 1) := by decide +kernel
theorem dX3_disguise_18 : decode cX3_disguise 18 = .ok (.invokevirtual 86, 3) := by decide +kernel
theorem dX3_disguise_21 : decode cX3_disguise 21 = .ok (.if_icmp .ne 7, 3) := by decide +kernel
theorem dX3_disguise_24 : decode cX3_disguise 24 = .ok (.iconst (-1), 1) := by decide +kernel
theorem dX3_disguise_25 : decode cX3_disguise 25 = .ok (.goto 4, 3) := by decide +kernel
theorem dX3_disguise_28 : decode cX3_disguise 28 = .ok (.iload_n 1, 1) := by decide +kernel
theorem dX3_disguise_29 : decode cX3_disguise 29 = .ok (.putfield 49, 3) := by decide +kernel
theorem dX3_disguise_32 : decode cX3_disguise 32 = .ok (.return_, 1) := by decide +kernel
set_option maxRecDepth 20000 in
theorem T_X3_disguise {Q : Option Value → ah_T → Prop} {h : ah_T} (hs : Sh h) (x1 : Int32) (x2 : Int32) (ht : (vp_in x1 (ah_n h 45)) ∧ (∀ h2, h2 = ah_si h 45 (Int32.toNatClampNeg x1) x2 → (Mt mX7_get [.ref 4, .int x1, .int 1] h2 (ab_qi fun v7 h5 => Sh h5 ∧ ((¬ x2 = v7 → (∀ h9, h9 = ah_si h5 43 15 x1 → Q none h9)) ∧ (x2 = v7 → (∀ h12, h12 = ah_si h5 43 15 (-1) → Q none h12))))))) : Mt mX3_disguise [.ref 43, .int x1, .int x2] h Q := by
  refine Mt.ofWp rfl (by exact (Nat.le_of_ble_eq_true rfl)) (Wp.fewer (L' := [some (.ref 43), some (.int x1), some (.int x2)]) (show ab_leL _ _ from ⟨rfl, ⟨rfl, ⟨rfl, trivial⟩⟩⟩) ?_)
  refine ab_aload_n (i := 0) dX3_disguise_0 rfl rfl ?_
  refine ab_getR (b := 45) f_X3_19 rfl (sh_k hs 43 3 (by decide) rfl) (sh_r hs 51 rfl) dX3_disguise_1 ?_
  refine ab_iload_n (i := 1) dX3_disguise_4 rfl rfl ?_
  refine ab_iload_n (i := 2) dX3_disguise_5 rfl rfl ?_
  obtain ⟨hc1, ht⟩ := ht
  refine ab_iast (sh_k hs 45 14 (by decide) rfl) hc1 dX3_disguise_6 ?_
  refine Wp.nm fun h2 e3 => ?_
  have ht := ht h2 e3
  have hs4 : Sh h2 := by rw [e3]; exact sh_si hs
  refine ab_aload_n (i := 0) dX3_disguise_7 rfl rfl ?_
  refine ab_iload_n (i := 2) dX3_disguise_8 rfl rfl ?_
  refine ab_aload_n (i := 0) dX3_disguise_9 rfl rfl ?_
  refine ab_getR (b := 1) f_X3_64 rfl (sh_k hs4 43 3 (by decide) rfl) (sh_r hs4 56 rfl) dX3_disguise_10 ?_
  refine ab_getR (b := 4) f_X3_76 rfl (sh_k hs4 1 10 (by decide) rfl) (sh_r hs4 14 rfl) dX3_disguise_13 ?_
  refine ab_iload_n (i := 1) dX3_disguise_16 rfl rfl ?_
  refine ab_iconst (v := 1) dX3_disguise_17 (by decide) ?_
  refine ab_callV (b := 4) (As := [.int x1, .int 1]) ht (Y_X7_get) l_X3_86 in_X7_get se_X7_get (sh_k hs4 4 7 (by decide) rfl) (by decide) rfl rfl ⟨(Nat.le_of_ble_eq_true rfl), (Nat.le_of_ble_eq_true rfl), (Nat.le_of_ble_eq_true rfl), (Nat.le_of_ble_eq_true rfl)⟩ dX3_disguise_18 ?_
  rintro _ h5 ⟨v7, rfl, hs6, ht⟩
  refine ab_icmp_ne (tgt := 28) dX3_disguise_21 (by decide) (fun c8 => ?_) (fun c8 => ?_)
  · have ht := ht.1 c8
    refine ab_iload_n (i := 1) dX3_disguise_28 rfl rfl ?_
    refine ab_putI f_X3_49 (Or.inl rfl) rfl (sh_k hs6 43 3 (by decide) rfl) rfl rfl dX3_disguise_29 ?_
    refine Wp.nm fun h9 e10 => ?_
    have ht := ht h9 e10
    have hs11 : Sh h9 := by rw [e10]; exact sh_si hs6
    exact ab_vret rfl dX3_disguise_32 (Nat.le_of_ble_eq_true rfl) (Nat.le_of_ble_eq_true rfl) ht
  · have ht := ht.2 c8
    refine ab_iconst (v := (-1)) dX3_disguise_24 (by decide) ?_
    refine ab_goto (tgt := 29) dX3_disguise_25 (by decide) ?_
    refine ab_putI f_X3_49 (Or.inl rfl) rfl (sh_k hs6 43 3 (by decide) rfl) rfl rfl dX3_disguise_29 ?_
    refine Wp.nm fun h12 e13 => ?_
    have ht := ht h12 e13
    have hs14 : Sh h12 := by rw [e13]; exact sh_si hs6
    exact ab_vret rfl dX3_disguise_32 (Nat.le_of_ble_eq_true rfl) (Nat.le_of_ble_eq_true rfl) ht
theorem dX3_carry_0 : decode cX3_carry 0 = .ok (.aload_n 0, 1) := by decide +kernel
theorem dX3_carry_1 : decode cX3_carry 1 = .ok (.getfield 64, 3) := by decide +kernel
theorem dX3_carry_4 : decode cX3_carry 4 = .ok (.getfield 99, 3) := by decide +kernel
theorem dX3_carry_7 : decode cX3_carry 7 = .ok (.getfield 81, 3) := by decide +kernel
theorem dX3_carry_10 : decode cX3_carry 10 = .ok (.bipush 120, 2) := by decide +kernel
theorem dX3_carry_12 : decode cX3_carry 12 = .ok (.imul, 1) := by decide +kernel
theorem dX3_carry_13 : decode cX3_carry 13 = .ok (.istore_n 3, 1) := by decide +kernel
theorem dX3_carry_14 : decode cX3_carry 14 = .ok (.aload_n 0, 1) := by decide +kernel
theorem dX3_carry_15 : decode cX3_carry 15 = .ok (.getfield 40, 3) := by decide +kernel
theorem dX3_carry_18 : decode cX3_carry 18 = .ok (.aload_n 0, 1) := by decide +kernel
theorem dX3_carry_19 : decode cX3_carry 19 = .ok (.getfield 64, 3) := by decide +kernel
theorem dX3_carry_22 : decode cX3_carry 22 = .ok (.getfield 99, 3) := by decide +kernel
theorem dX3_carry_25 : decode cX3_carry 25 = .ok (.getfield 81, 3) := by decide +kernel
theorem dX3_carry_28 : decode cX3_carry 28 = .ok (.iload_n 1, 1) := by decide +kernel
theorem dX3_carry_29 : decode cX3_carry 29 = .ok (.iastore, 1) := by decide +kernel
theorem dX3_carry_30 : decode cX3_carry 30 = .ok (.aload_n 2, 1) := by decide +kernel
theorem dX3_carry_31 : decode cX3_carry 31 = .ok (.iconst 0, 1) := by decide +kernel
theorem dX3_carry_32 : decode cX3_carry 32 = .ok (.aload_n 0, 1) := by decide +kernel
theorem dX3_carry_33 : decode cX3_carry 33 = .ok (.getfield 43, 3) := by decide +kernel
theorem dX3_carry_36 : decode cX3_carry 36 = .ok (.iload_n 3, 1) := by decide +kernel
theorem dX3_carry_37 : decode cX3_carry 37 = .ok (.bipush 120, 2) := by decide +kernel
theorem dX3_carry_39 : decode cX3_carry 39 = .ok (.invokestatic 112, 3) := by decide +kernel
theorem dX3_carry_42 : decode cX3_carry 42 = .ok (.aload_n 0, 1) := by decide +kernel
theorem dX3_carry_43 : decode cX3_carry 43 = .ok (.aload_n 0, 1) := by decide +kernel
theorem dX3_carry_44 : decode cX3_carry 44 = .ok (.getfield 64, 3) := by decide +kernel
theorem dX3_carry_47 : decode cX3_carry 47 = .ok (.getfield 99, 3) := by decide +kernel
theorem dX3_carry_50 : decode cX3_carry 50 = .ok (.getfield 81, 3) := by decide +kernel
theorem dX3_carry_53 : decode cX3_carry 53 = .ok (.iconst 1, 1) := by decide +kernel
theorem dX3_carry_54 : decode cX3_carry 54 = .ok (.iadd, 1) := by decide +kernel
theorem dX3_carry_55 : decode cX3_carry 55 = .ok (.putfield 37, 3) := by decide +kernel
theorem dX3_carry_58 : decode cX3_carry 58 = .ok (.return_, 1) := by decide +kernel
set_option maxRecDepth 20000 in
theorem T_X3_carry {Q : Option Value → ah_T → Prop} {h : ah_T} (hs : Sh h) (x1 : Int32) (a2 : Nat) (hk_a2 : ah_k h a2 = 14) (ht : (vp_in (ah_i h 8 3) (ah_n h 48)) ∧ (∀ h2, h2 = ah_si h 48 (Int32.toNatClampNeg (ah_i h 8 3)) x1 → (¬ ((ah_i h 8 3) * 120) < 0) ∧ ((Int32.toNatClampNeg 0) + (Int32.toNatClampNeg 120) ≤ ah_n h2 a2) ∧ ((Int32.toNatClampNeg ((ah_i h 8 3) * 120)) + (Int32.toNatClampNeg 120) ≤ ah_n h2 49) ∧ (∀ h9, h9 = ah_sa h2 49 (va_cpy (ah_i h2 a2) (ah_i h2 49) (Int32.toNatClampNeg 0) (Int32.toNatClampNeg ((ah_i h 8 3) * 120)) (Int32.toNatClampNeg 120)) → (∀ h13, h13 = ah_si h9 43 8 ((ah_i h9 8 3) + 1) → Q none h13)))) : Mt mX3_carry [.ref 43, .int x1, .ref a2] h Q := by
  refine Mt.ofWp rfl (by exact (Nat.le_of_ble_eq_true rfl)) (Wp.fewer (L' := [some (.ref 43), some (.int x1), some (.ref a2), none]) (show ab_leL _ _ from ⟨rfl, ⟨rfl, ⟨rfl, trivial⟩⟩⟩) ?_)
  refine ab_aload_n (i := 0) dX3_carry_0 rfl rfl ?_
  refine ab_getR (b := 1) f_X3_64 rfl (sh_k hs 43 3 (by decide) rfl) (sh_r hs 56 rfl) dX3_carry_1 ?_
  refine ab_getR (b := 8) f_X3_99 rfl (sh_k hs 1 10 (by decide) rfl) (sh_r hs 16 rfl) dX3_carry_4 ?_
  refine ab_getI f_X3_81 rfl (sh_k hs 8 7 (by decide) rfl) dX3_carry_7 ?_
  refine ab_bipush (v := 120) dX3_carry_10 (by decide) ?_
  refine ab_imul dX3_carry_12 ?_
  refine ab_istore_n (i := 3) (L' := [some (.ref 43), some (.int x1), some (.ref a2), some (.int ((ah_i h 8 3) * 120))]) dX3_carry_13 rfl (by exact (Nat.le_of_ble_eq_true rfl)) rfl rfl ?_
  refine ab_aload_n (i := 0) dX3_carry_14 rfl rfl ?_
  refine ab_getR (b := 48) f_X3_40 rfl (sh_k hs 43 3 (by decide) rfl) (sh_r hs 54 rfl) dX3_carry_15 ?_
  refine ab_aload_n (i := 0) dX3_carry_18 rfl rfl ?_
  refine ab_getR (b := 1) f_X3_64 rfl (sh_k hs 43 3 (by decide) rfl) (sh_r hs 56 rfl) dX3_carry_19 ?_
  refine ab_getR (b := 8) f_X3_99 rfl (sh_k hs 1 10 (by decide) rfl) (sh_r hs 16 rfl) dX3_carry_22 ?_
  refine ab_getI f_X3_81 rfl (sh_k hs 8 7 (by decide) rfl) dX3_carry_25 ?_
  refine ab_iload_n (i := 1) dX3_carry_28 rfl rfl ?_
  obtain ⟨hc1, ht⟩ := ht
  refine ab_iast (sh_k hs 48 14 (by decide) rfl) hc1 dX3_carry_29 ?_
  refine Wp.nm fun h2 e3 => ?_
  have ht := ht h2 e3
  have hs4 : Sh h2 := by rw [e3]; exact sh_si hs
  have hk5 : ah_k h2 a2 = 14 := by rw [e3]; exact hk_a2
  refine ab_aload_n (i := 2) dX3_carry_30 rfl rfl ?_
  refine ab_iconst (v := 0) dX3_carry_31 (by decide) ?_
  refine ab_aload_n (i := 0) dX3_carry_32 rfl rfl ?_
  refine ab_getR (b := 49) f_X3_43 rfl (sh_k hs4 43 3 (by decide) rfl) (sh_r hs4 55 rfl) dX3_carry_33 ?_
  refine ab_iload_n (i := 3) dX3_carry_36 rfl rfl ?_
  refine ab_bipush (v := 120) dX3_carry_37 (by decide) ?_
  obtain ⟨hc6, ht⟩ := ht
  obtain ⟨hc7, ht⟩ := ht
  obtain ⟨hc8, ht⟩ := ht
  refine ab_copy (tb_6 (List.mem_of_getElem? (i := 0) (by decide +kernel)) rfl) na_copy st_copy in_sys hk5 (sh_k hs4 49 14 (by decide) rfl) (by decide) hc6 (by decide) hc7 hc8 (Nat.le_of_ble_eq_true rfl) (Nat.le_of_ble_eq_true rfl) dX3_carry_39 ?_
  refine Wp.nm fun h9 e10 => ?_
  have ht := ht h9 e10
  have hs11 : Sh h9 := by rw [e10]; exact sh_sa hs4
  have hk12 : ah_k h9 a2 = 14 := by rw [e10]; exact hk5
  refine ab_aload_n (i := 0) dX3_carry_42 rfl rfl ?_
  refine ab_aload_n (i := 0) dX3_carry_43 rfl rfl ?_
  refine ab_getR (b := 1) f_X3_64 rfl (sh_k hs11 43 3 (by decide) rfl) (sh_r hs11 56 rfl) dX3_carry_44 ?_
  refine ab_getR (b := 8) f_X3_99 rfl (sh_k hs11 1 10 (by decide) rfl) (sh_r hs11 16 rfl) dX3_carry_47 ?_
  refine ab_getI f_X3_81 rfl (sh_k hs11 8 7 (by decide) rfl) dX3_carry_50 ?_
  refine ab_iconst (v := 1) dX3_carry_53 (by decide) ?_
  refine ab_iadd dX3_carry_54 ?_
  refine ab_putI f_X3_37 (Or.inl rfl) rfl (sh_k hs11 43 3 (by decide) rfl) rfl rfl dX3_carry_55 ?_
  refine Wp.nm fun h13 e14 => ?_
  have ht := ht h13 e14
  have hs15 : Sh h13 := by rw [e14]; exact sh_si hs11
  have hk16 : ah_k h13 a2 = 14 := by rw [e14]; exact hk12
  exact ab_vret rfl dX3_carry_58 (Nat.le_of_ble_eq_true rfl) (Nat.le_of_ble_eq_true rfl) ht
theorem dX3_dismiss_0 : decode cX3_dismiss 0 = .ok (.aload_n 0, 1) := by decide +kernel
theorem dX3_dismiss_1 : decode cX3_dismiss 1 = .ok (.getfield 49, 3) := by decide +kernel
theorem dX3_dismiss_4 : decode cX3_dismiss 4 = .ok (.iconst (-1), 1) := by decide +kernel
theorem dX3_dismiss_5 : decode cX3_dismiss 5 = .ok (.if_icmp .eq 44, 3) := by decide +kernel
theorem dX3_dismiss_8 : decode cX3_dismiss 8 = .ok (.aload_n 0, 1) := by decide +kernel
theorem dX3_dismiss_9 : decode cX3_dismiss 9 = .ok (.getfield 49, 3) := by decide +kernel
theorem dX3_dismiss_12 : decode cX3_dismiss 12 = .ok (.aload_n 0, 1) := by decide +kernel
theorem dX3_dismiss_13 : decode cX3_dismiss 13 = .ok (.getfield 64, 3) := by decide +kernel
theorem dX3_dismiss_16 : decode cX3_dismiss 16 = .ok (.getfield 76, 3) := by decide +kernel
theorem dX3_dismiss_19 : decode cX3_dismiss 19 = .ok (.getfield 81, 3) := by decide +kernel
theorem dX3_dismiss_22 : decode cX3_dismiss 22 = .ok (.if_icmp .ge 27, 3) := by decide +kernel
theorem dX3_dismiss_25 : decode cX3_dismiss 25 = .ok (.aload_n 0, 1) := by decide +kernel
theorem dX3_dismiss_26 : decode cX3_dismiss 26 = .ok (.getfield 19, 3) := by decide +kernel
theorem dX3_dismiss_29 : decode cX3_dismiss 29 = .ok (.aload_n 0, 1) := by decide +kernel
theorem dX3_dismiss_30 : decode cX3_dismiss 30 = .ok (.getfield 49, 3) := by decide +kernel
theorem dX3_dismiss_33 : decode cX3_dismiss 33 = .ok (.aload_n 0, 1) := by decide +kernel
theorem dX3_dismiss_34 : decode cX3_dismiss 34 = .ok (.getfield 64, 3) := by decide +kernel
theorem dX3_dismiss_37 : decode cX3_dismiss 37 = .ok (.getfield 76, 3) := by decide +kernel
theorem dX3_dismiss_40 : decode cX3_dismiss 40 = .ok (.aload_n 0, 1) := by decide +kernel
theorem dX3_dismiss_41 : decode cX3_dismiss 41 = .ok (.getfield 49, 3) := by decide +kernel
theorem dX3_dismiss_44 : decode cX3_dismiss 44 = .ok (.iconst 1, 1) := by decide +kernel
theorem dX3_dismiss_45 : decode cX3_dismiss 45 = .ok (.invokevirtual 86, 3) := by decide +kernel
theorem dX3_dismiss_48 : decode cX3_dismiss 48 = .ok (.iastore, 1) := by decide +kernel
theorem dX3_dismiss_49 : decode cX3_dismiss 49 = .ok (.aload_n 0, 1) := by decide +kernel
theorem dX3_dismiss_50 : decode cX3_dismiss 50 = .ok (.iconst (-1), 1) := by decide +kernel
theorem dX3_dismiss_51 : decode cX3_dismiss 51 = .ok (.putfield 49, 3) := by decide +kernel
theorem dX3_dismiss_54 : decode cX3_dismiss 54 = .ok (.aload_n 0, 1) := by decide +kernel
theorem dX3_dismiss_55 : decode cX3_dismiss 55 = .ok (.aload_n 0, 1) := by decide +kernel
theorem dX3_dismiss_56 : decode cX3_dismiss 56 = .ok (.getfield 64, 3) := by decide +kernel
theorem dX3_dismiss_59 : decode cX3_dismiss 59 = .ok (.getfield 76, 3) := by decide +kernel
theorem dX3_dismiss_62 : decode cX3_dismiss 62 = .ok (.getfield 81, 3) := by decide +kernel
theorem dX3_dismiss_65 : decode cX3_dismiss 65 = .ok (.putfield 9, 3) := by decide +kernel
theorem dX3_dismiss_68 : decode cX3_dismiss 68 = .ok (.aload_n 0, 1) := by decide +kernel
theorem dX3_dismiss_69 : decode cX3_dismiss 69 = .ok (.aload_n 0, 1) := by decide +kernel
theorem dX3_dismiss_70 : decode cX3_dismiss 70 = .ok (.getfield 64, 3) := by decide +kernel
theorem dX3_dismiss_73 : decode cX3_dismiss 73 = .ok (.getfield 99, 3) := by decide +kernel
theorem dX3_dismiss_76 : decode cX3_dismiss 76 = .ok (.getfield 81, 3) := by decide +kernel
theorem dX3_dismiss_79 : decode cX3_dismiss 79 = .ok (.putfield 37, 3) := by decide +kernel
theorem dX3_dismiss_82 : decode cX3_dismiss 82 = .ok (.return_, 1) := by decide +kernel
set_option maxRecDepth 20000 in
theorem T_X3_dismiss {Q : Option Value → ah_T → Prop} {h : ah_T} (hs : Sh h)  (ht : (((ah_i h 43 15) = (-1) → (∀ h2, h2 = ah_si h 43 15 (-1) → (∀ h5, h5 = ah_si h2 43 0 (ah_i h2 4 3) → (∀ h8, h8 = ah_si h5 43 8 (ah_i h5 8 3) → Q none h8)))) ∧ (¬ (ah_i h 43 15) = (-1) → (((ah_i h 4 3) ≤ (ah_i h 43 15) → (∀ h12, h12 = ah_si h 43 15 (-1) → (∀ h15, h15 = ah_si h12 43 0 (ah_i h12 4 3) → (∀ h18, h18 = ah_si h15 43 8 (ah_i h15 8 3) → Q none h18)))) ∧ (¬ (ah_i h 4 3) ≤ (ah_i h 43 15) → (Mt mX7_get [.ref 4, .int (ah_i h 43 15), .int 1] h (ab_qi fun v23 h21 => Sh h21 ∧ (vp_in (ah_i h 43 15) (ah_n h21 45)) ∧ (∀ h25, h25 = ah_si h21 45 (Int32.toNatClampNeg (ah_i h 43 15)) v23 → (∀ h28, h28 = ah_si h25 43 15 (-1) → (∀ h31, h31 = ah_si h28 43 0 (ah_i h28 4 3) → (∀ h34, h34 = ah_si h31 43 8 (ah_i h31 8 3) → Q none h34))))))))))) : Mt mX3_dismiss [.ref 43] h Q := by
  refine Mt.ofWp rfl (by exact (Nat.le_of_ble_eq_true rfl)) (Wp.fewer (L' := [some (.ref 43)]) (show ab_leL _ _ from ⟨rfl, trivial⟩) ?_)
  refine ab_aload_n (i := 0) dX3_dismiss_0 rfl rfl ?_
  refine ab_getI f_X3_49 rfl (sh_k hs 43 3 (by decide) rfl) dX3_dismiss_1 ?_
  refine ab_iconst (v := (-1)) dX3_dismiss_4 (by decide) ?_
  refine ab_icmp_eq (tgt := 49) dX3_dismiss_5 (by decide) (fun c1 => ?_) (fun c1 => ?_)
  · have ht := ht.1 c1
    refine ab_aload_n (i := 0) dX3_dismiss_49 rfl rfl ?_
    refine ab_iconst (v := (-1)) dX3_dismiss_50 (by decide) ?_
    refine ab_putI f_X3_49 (Or.inl rfl) rfl (sh_k hs 43 3 (by decide) rfl) rfl rfl dX3_dismiss_51 ?_
    refine Wp.nm fun h2 e3 => ?_
    have ht := ht h2 e3
    have hs4 : Sh h2 := by rw [e3]; exact sh_si hs
    refine ab_aload_n (i := 0) dX3_dismiss_54 rfl rfl ?_
    refine ab_aload_n (i := 0) dX3_dismiss_55 rfl rfl ?_
    refine ab_getR (b := 1) f_X3_64 rfl (sh_k hs4 43 3 (by decide) rfl) (sh_r hs4 56 rfl) dX3_dismiss_56 ?_
    refine ab_getR (b := 4) f_X3_76 rfl (sh_k hs4 1 10 (by decide) rfl) (sh_r hs4 14 rfl) dX3_dismiss_59 ?_
    refine ab_getI f_X3_81 rfl (sh_k hs4 4 7 (by decide) rfl) dX3_dismiss_62 ?_
    refine ab_putI f_X3_9 (Or.inl rfl) rfl (sh_k hs4 43 3 (by decide) rfl) rfl rfl dX3_dismiss_65 ?_
    refine Wp.nm fun h5 e6 => ?_
    have ht := ht h5 e6
    have hs7 : Sh h5 := by rw [e6]; exact sh_si hs4
    refine ab_aload_n (i := 0) dX3_dismiss_68 rfl rfl ?_
    refine ab_aload_n (i := 0) dX3_dismiss_69 rfl rfl ?_
    refine ab_getR (b := 1) f_X3_64 rfl (sh_k hs7 43 3 (by decide) rfl) (sh_r hs7 56 rfl) dX3_dismiss_70 ?_
    refine ab_getR (b := 8) f_X3_99 rfl (sh_k hs7 1 10 (by decide) rfl) (sh_r hs7 16 rfl) dX3_dismiss_73 ?_
    refine ab_getI f_X3_81 rfl (sh_k hs7 8 7 (by decide) rfl) dX3_dismiss_76 ?_
    refine ab_putI f_X3_37 (Or.inl rfl) rfl (sh_k hs7 43 3 (by decide) rfl) rfl rfl dX3_dismiss_79 ?_
    refine Wp.nm fun h8 e9 => ?_
    have ht := ht h8 e9
    have hs10 : Sh h8 := by rw [e9]; exact sh_si hs7
    exact ab_vret rfl dX3_dismiss_82 (Nat.le_of_ble_eq_true rfl) (Nat.le_of_ble_eq_true rfl) ht
  · have ht := ht.2 c1
    refine ab_aload_n (i := 0) dX3_dismiss_8 rfl rfl ?_
    refine ab_getI f_X3_49 rfl (sh_k hs 43 3 (by decide) rfl) dX3_dismiss_9 ?_
    refine ab_aload_n (i := 0) dX3_dismiss_12 rfl rfl ?_
    refine ab_getR (b := 1) f_X3_64 rfl (sh_k hs 43 3 (by decide) rfl) (sh_r hs 56 rfl) dX3_dismiss_13 ?_
    refine ab_getR (b := 4) f_X3_76 rfl (sh_k hs 1 10 (by decide) rfl) (sh_r hs 14 rfl) dX3_dismiss_16 ?_
    refine ab_getI f_X3_81 rfl (sh_k hs 4 7 (by decide) rfl) dX3_dismiss_19 ?_
    refine ab_icmp_ge (tgt := 49) dX3_dismiss_22 (by decide) (fun c11 => ?_) (fun c11 => ?_)
    · have ht := ht.1 c11
      refine ab_aload_n (i := 0) dX3_dismiss_49 rfl rfl ?_
      refine ab_iconst (v := (-1)) dX3_dismiss_50 (by decide) ?_
      refine ab_putI f_X3_49 (Or.inl rfl) rfl (sh_k hs 43 3 (by decide) rfl) rfl rfl dX3_dismiss_51 ?_
      refine Wp.nm fun h12 e13 => ?_
      have ht := ht h12 e13
      have hs14 : Sh h12 := by rw [e13]; exact sh_si hs
      refine ab_aload_n (i := 0) dX3_dismiss_54 rfl rfl ?_
      refine ab_aload_n (i := 0) dX3_dismiss_55 rfl rfl ?_
      refine ab_getR (b := 1) f_X3_64 rfl (sh_k hs14 43 3 (by decide) rfl) (sh_r hs14 56 rfl) dX3_dismiss_56 ?_
      refine ab_getR (b := 4) f_X3_76 rfl (sh_k hs14 1 10 (by decide) rfl) (sh_r hs14 14 rfl) dX3_dismiss_59 ?_
      refine ab_getI f_X3_81 rfl (sh_k hs14 4 7 (by decide) rfl) dX3_dismiss_62 ?_
      refine ab_putI f_X3_9 (Or.inl rfl) rfl (sh_k hs14 43 3 (by decide) rfl) rfl rfl dX3_dismiss_65 ?_
      refine Wp.nm fun h15 e16 => ?_
      have ht := ht h15 e16
      have hs17 : Sh h15 := by rw [e16]; exact sh_si hs14
      refine ab_aload_n (i := 0) dX3_dismiss_68 rfl rfl ?_
      refine ab_aload_n (i := 0) dX3_dismiss_69 rfl rfl ?_
      refine ab_getR (b := 1) f_X3_64 rfl (sh_k hs17 43 3 (by decide) rfl) (sh_r hs17 56 rfl) dX3_dismiss_70 ?_
      refine ab_getR (b := 8) f_X3_99 rfl (sh_k hs17 1 10 (by decide) rfl) (sh_r hs17 16 rfl) dX3_dismiss_73 ?_
      refine ab_getI f_X3_81 rfl (sh_k hs17 8 7 (by decide) rfl) dX3_dismiss_76 ?_
      refine ab_putI f_X3_37 (Or.inl rfl) rfl (sh_k hs17 43 3 (by decide) rfl) rfl rfl dX3_dismiss_79 ?_
      refine Wp.nm fun h18 e19 => ?_
      have ht := ht h18 e19
      have hs20 : Sh h18 := by rw [e19]; exact sh_si hs17
      exact ab_vret rfl dX3_dismiss_82 (Nat.le_of_ble_eq_true rfl) (Nat.le_of_ble_eq_true rfl) ht
    · have ht := ht.2 c11
      refine ab_aload_n (i := 0) dX3_dismiss_25 rfl rfl ?_
      refine ab_getR (b := 45) f_X3_19 rfl (sh_k hs 43 3 (by decide) rfl) (sh_r hs 51 rfl) dX3_dismiss_26 ?_
      refine ab_aload_n (i := 0) dX3_dismiss_29 rfl rfl ?_
      refine ab_getI f_X3_49 rfl (sh_k hs 43 3 (by decide) rfl) dX3_dismiss_30 ?_
      refine ab_aload_n (i := 0) dX3_dismiss_33 rfl rfl ?_
      refine ab_getR (b := 1) f_X3_64 rfl (sh_k hs 43 3 (by decide) rfl) (sh_r hs 56 rfl) dX3_dismiss_34 ?_
      refine ab_getR (b := 4) f_X3_76 rfl (sh_k hs 1 10 (by decide) rfl) (sh_r hs 14 rfl) dX3_dismiss_37 ?_
      refine ab_aload_n (i := 0) dX3_dismiss_40 rfl rfl ?_
      refine ab_getI f_X3_49 rfl (sh_k hs 43 3 (by decide) rfl) dX3_dismiss_41 ?_
      refine ab_iconst (v := 1) dX3_dismiss_44 (by decide) ?_
      refine ab_callV (b := 4) (As := [.int (ah_i h 43 15), .int 1]) ht (Y_X7_get) l_X3_86 in_X7_get se_X7_get (sh_k hs 4 7 (by decide) rfl) (by decide) rfl rfl ⟨(Nat.le_of_ble_eq_true rfl), (Nat.le_of_ble_eq_true rfl), (Nat.le_of_ble_eq_true rfl), (Nat.le_of_ble_eq_true rfl)⟩ dX3_dismiss_45 ?_
      rintro _ h21 ⟨v23, rfl, hs22, ht⟩
      obtain ⟨hc24, ht⟩ := ht
      refine ab_iast (sh_k hs22 45 14 (by decide) rfl) hc24 dX3_dismiss_48 ?_
      refine Wp.nm fun h25 e26 => ?_
      have ht := ht h25 e26
      have hs27 : Sh h25 := by rw [e26]; exact sh_si hs22
      refine ab_aload_n (i := 0) dX3_dismiss_49 rfl rfl ?_
      refine ab_iconst (v := (-1)) dX3_dismiss_50 (by decide) ?_
      refine ab_putI f_X3_49 (Or.inl rfl) rfl (sh_k hs27 43 3 (by decide) rfl) rfl rfl dX3_dismiss_51 ?_
      refine Wp.nm fun h28 e29 => ?_
      have ht := ht h28 e29
      have hs30 : Sh h28 := by rw [e29]; exact sh_si hs27
      refine ab_aload_n (i := 0) dX3_dismiss_54 rfl rfl ?_
      refine ab_aload_n (i := 0) dX3_dismiss_55 rfl rfl ?_
      refine ab_getR (b := 1) f_X3_64 rfl (sh_k hs30 43 3 (by decide) rfl) (sh_r hs30 56 rfl) dX3_dismiss_56 ?_
      refine ab_getR (b := 4) f_X3_76 rfl (sh_k hs30 1 10 (by decide) rfl) (sh_r hs30 14 rfl) dX3_dismiss_59 ?_
      refine ab_getI f_X3_81 rfl (sh_k hs30 4 7 (by decide) rfl) dX3_dismiss_62 ?_
      refine ab_putI f_X3_9 (Or.inl rfl) rfl (sh_k hs30 43 3 (by decide) rfl) rfl rfl dX3_dismiss_65 ?_
      refine Wp.nm fun h31 e32 => ?_
      have ht := ht h31 e32
      have hs33 : Sh h31 := by rw [e32]; exact sh_si hs30
      refine ab_aload_n (i := 0) dX3_dismiss_68 rfl rfl ?_
      refine ab_aload_n (i := 0) dX3_dismiss_69 rfl rfl ?_
      refine ab_getR (b := 1) f_X3_64 rfl (sh_k hs33 43 3 (by decide) rfl) (sh_r hs33 56 rfl) dX3_dismiss_70 ?_
      refine ab_getR (b := 8) f_X3_99 rfl (sh_k hs33 1 10 (by decide) rfl) (sh_r hs33 16 rfl) dX3_dismiss_73 ?_
      refine ab_getI f_X3_81 rfl (sh_k hs33 8 7 (by decide) rfl) dX3_dismiss_76 ?_
      refine ab_putI f_X3_37 (Or.inl rfl) rfl (sh_k hs33 43 3 (by decide) rfl) rfl rfl dX3_dismiss_79 ?_
      refine Wp.nm fun h34 e35 => ?_
      have ht := ht h34 e35
      have hs36 : Sh h34 := by rw [e35]; exact sh_si hs33
      exact ab_vret rfl dX3_dismiss_82 (Nat.le_of_ble_eq_true rfl) (Nat.le_of_ble_eq_true rfl) ht
theorem dX3_restart_0 : decode cX3_restart 0 = .ok (.iconst 0, 1) := by decide +kernel
theorem dX3_restart_1 : decode cX3_restart 1 = .ok (.istore_n 1, 1) := by decide +kernel
theorem dX3_restart_2 : decode cX3_restart 2 = .ok (.iload_n 1, 1) := by decide +kernel
theorem dX3_restart_3 : decode cX3_restart 3 = .ok (.aload_n 0, 1) := by decide +kernel
theorem dX3_restart_4 : decode cX3_restart 4 = .ok (.getfield 9, 3) := by decide +kernel
theorem dX3_restart_7 : decode cX3_restart 7 = .ok (.if_icmp .ge 54, 3) := by decide +kernel
theorem dX3_restart_10 : decode cX3_restart 10 = .ok (.aload_n 0, 1) := by decide +kernel
theorem dX3_restart_11 : decode cX3_restart 11 = .ok (.getfield 22, 3) := by decide +kernel
theorem dX3_restart_14 : decode cX3_restart 14 = .ok (.iload_n 1, 1) := by decide +kernel
theorem dX3_restart_15 : decode cX3_restart 15 = .ok (.iload_n 1, 1) := by decide +kernel
theorem dX3_restart_16 : decode cX3_restart 16 = .ok (.aload_n 0, 1) := by decide +kernel
theorem dX3_restart_17 : decode cX3_restart 17 = .ok (.getfield 64, 3) := by decide +kernel
theorem dX3_restart_20 : decode cX3_restart 20 = .ok (.getfield 76, 3) := by decide +kernel
theorem dX3_restart_23 : decode cX3_restart 23 = .ok (.getfield 81, 3) := by decide +kernel
theorem dX3_restart_26 : decode cX3_restart 26 = .ok (.if_icmp .ge 18, 3) := by decide +kernel
theorem dX3_restart_29 : decode cX3_restart 29 = .ok (.aload_n 0, 1) := by decide +kernel
theorem dX3_restart_30 : decode cX3_restart 30 = .ok (.getfield 64, 3) := by decide +kernel
theorem dX3_restart_33 : decode cX3_restart 33 = .ok (.getfield 76, 3) := by decide +kernel
theorem dX3_restart_36 : decode cX3_restart 36 = .ok (.iload_n 1, 1) := by decide +kernel
theorem dX3_restart_37 : decode cX3_restart 37 = .ok (.iconst 2, 1) := by decide +kernel
theorem dX3_restart_38 : decode cX3_restart 38 = .ok (.invokevirtual 86, 3) := by decide +kernel
theorem dX3_restart_41 : decode cX3_restart 41 = .ok (.goto 6, 3) := by decide +kernel
theorem dX3_restart_44 : decode cX3_restart 44 = .ok (.sipush 240, 3) := by decide +kernel
theorem dX3_restart_47 : decode cX3_restart 47 = .ok (.iastore, 1) := by decide +kernel
theorem dX3_restart_48 : decode cX3_restart 48 = .ok (.aload_n 0, 1) := by decide +kernel
theorem dX3_restart_49 : decode cX3_restart 49 = .ok (.getfield 25, 3) := by decide +kernel
theorem dX3_restart_52 : decode cX3_restart 52 = .ok (.iload_n 1, 1) := by decide +kernel
theorem dX3_restart_53 : decode cX3_restart 53 = .ok (.iconst 0, 1) := by decide +kernel
theorem dX3_restart_54 : decode cX3_restart 54 = .ok (.iastore, 1) := by decide +kernel
theorem dX3_restart_55 : decode cX3_restart 55 = .ok (.iinc 1 1, 3) := by decide +kernel
theorem dX3_restart_58 : decode cX3_restart 58 = .ok (.goto (-56), 3) := by decide +kernel
theorem dX3_restart_61 : decode cX3_restart 61 = .ok (.aload_n 0, 1) := by decide +kernel
theorem dX3_restart_62 : decode cX3_restart 62 = .ok (.aload_n 0, 1) := by decide +kernel
theorem dX3_restart_63 : decode cX3_restart 63 = .ok (.getfield 9, 3) := by decide +kernel
theorem dX3_restart_66 : decode cX3_restart 66 = .ok (.aload_n 0, 1) := by decide +kernel
theorem dX3_restart_67 : decode cX3_restart 67 = .ok (.getfield 64, 3) := by decide +kernel
theorem dX3_restart_70 : decode cX3_restart 70 = .ok (.getfield 76, 3) := by decide +kernel
theorem dX3_restart_73 : decode cX3_restart 73 = .ok (.getfield 81, 3) := by decide +kernel
theorem dX3_restart_76 : decode cX3_restart 76 = .ok (.if_icmp .le 18, 3) := by decide +kernel
theorem dX3_restart_79 : decode cX3_restart 79 = .ok (.iconst 1, 1) := by decide +kernel
theorem dX3_restart_80 : decode cX3_restart 80 = .ok (.aload_n 0, 1) := by decide +kernel
theorem dX3_restart_81 : decode cX3_restart 81 = .ok (.getfield 64, 3) := by decide +kernel
theorem dX3_restart_84 : decode cX3_restart 84 = .ok (.getfield 76, 3) := by decide +kernel
theorem dX3_restart_87 : decode cX3_restart 87 = .ok (.getfield 81, 3) := by decide +kernel
theorem dX3_restart_90 : decode cX3_restart 90 = .ok (.ishl, 1) := by decide +kernel
theorem dX3_restart_91 : decode cX3_restart 91 = .ok (.goto 4, 3) := by decide +kernel
theorem dX3_restart_94 : decode cX3_restart 94 = .ok (.iconst 0, 1) := by decide +kernel
theorem dX3_restart_95 : decode cX3_restart 95 = .ok (.putfield 28, 3) := by decide +kernel
theorem dX3_restart_98 : decode cX3_restart 98 = .ok (.aload_n 0, 1) := by decide +kernel
theorem dX3_restart_99 : decode cX3_restart 99 = .ok (.aload_n 0, 1) := by decide +kernel
theorem dX3_restart_100 : decode cX3_restart 100 = .ok (.getfield 28, 3) := by decide +kernel
theorem dX3_restart_103 : decode cX3_restart 103 = .ok (.putfield 31, 3) := by decide +kernel
theorem dX3_restart_106 : decode cX3_restart 106 = .ok (.aload_n 0, 1) := by decide +kernel
theorem dX3_restart_107 : decode cX3_restart 107 = .ok (.iconst 0, 1) := by decide +kernel
theorem dX3_restart_108 : decode cX3_restart 108 = .ok (.putfield 46, 3) := by decide +kernel
theorem dX3_restart_111 : decode cX3_restart 111 = .ok (.aload_n 0, 1) := by decide +kernel
theorem dX3_restart_112 : decode cX3_restart 112 = .ok (.iconst 0, 1) := by decide +kernel
theorem dX3_restart_113 : decode cX3_restart 113 = .ok (.putfield 34, 3) := by decide +kernel
theorem dX3_restart_116 : decode cX3_restart 116 = .ok (.return_, 1) := by decide +kernel
set_option maxRecDepth 20000 in
theorem T_X3_restart_2 {Q : Option Value → ah_T → Prop} {h : ah_T} (hs : Sh h) (x1 : Int32) (ht : (((ah_i h 43 0) ≤ x1 → (((ah_i h 43 0) ≤ (ah_i h 4 3) → (∀ h3, h3 = ah_si h 43 5 0 → (∀ h6, h6 = ah_si h3 43 6 (ah_i h3 43 5) → (∀ h9, h9 = ah_si h6 43 14 0 → (∀ h12, h12 = ah_si h9 43 7 0 → Q none h12))))) ∧ (¬ (ah_i h 43 0) ≤ (ah_i h 4 3) → (∀ h15, h15 = ah_si h 43 5 ((1 : Int32) <<< ((ah_i h 4 3) &&& 31)) → (∀ h18, h18 = ah_si h15 43 6 (ah_i h15 43 5) → (∀ h21, h21 = ah_si h18 43 14 0 → (∀ h24, h24 = ah_si h21 43 7 0 → Q none h24))))))) ∧ (¬ (ah_i h 43 0) ≤ x1 → (((ah_i h 4 3) ≤ x1 → (vp_in x1 (ah_n h 46)) ∧ (∀ h29, h29 = ah_si h 46 (Int32.toNatClampNeg x1) 240 → (vp_in x1 (ah_n h29 47)) ∧ (∀ h33, h33 = ah_si h29 47 (Int32.toNatClampNeg x1) 0 → Wp mX3_restart Q 0 0 2 [some (.ref 43), some (.int (x1 + 1))] [] h33))) ∧ (¬ (ah_i h 4 3) ≤ x1 → (Mt mX7_get [.ref 4, .int x1, .int 2] h (ab_qi fun v38 h36 => Sh h36 ∧ (vp_in x1 (ah_n h36 46)) ∧ (∀ h40, h40 = ah_si h36 46 (Int32.toNatClampNeg x1) v38 → (vp_in x1 (ah_n h40 47)) ∧ (∀ h44, h44 = ah_si h40 47 (Int32.toNatClampNeg x1) 0 → Wp mX3_restart Q 0 0 2 [some (.ref 43), some (.int (x1 + 1))] [] h44))))))))) : Wp mX3_restart Q 0 0 2 [some (.ref 43), some (.int x1)] [] h := by
  refine ab_iload_n (i := 1) dX3_restart_2 rfl rfl ?_
  refine ab_aload_n (i := 0) dX3_restart_3 rfl rfl ?_
  refine ab_getI f_X3_9 rfl (sh_k hs 43 3 (by decide) rfl) dX3_restart_4 ?_
  refine ab_icmp_ge (tgt := 61) dX3_restart_7 (by decide) (fun c1 => ?_) (fun c1 => ?_)
  · have ht := ht.1 c1
    refine ab_aload_n (i := 0) dX3_restart_61 rfl rfl ?_
    refine ab_aload_n (i := 0) dX3_restart_62 rfl rfl ?_
    refine ab_getI f_X3_9 rfl (sh_k hs 43 3 (by decide) rfl) dX3_restart_63 ?_
    refine ab_aload_n (i := 0) dX3_restart_66 rfl rfl ?_
    refine ab_getR (b := 1) f_X3_64 rfl (sh_k hs 43 3 (by decide) rfl) (sh_r hs 56 rfl) dX3_restart_67 ?_
    refine ab_getR (b := 4) f_X3_76 rfl (sh_k hs 1 10 (by decide) rfl) (sh_r hs 14 rfl) dX3_restart_70 ?_
    refine ab_getI f_X3_81 rfl (sh_k hs 4 7 (by decide) rfl) dX3_restart_73 ?_
    refine ab_icmp_le (tgt := 94) dX3_restart_76 (by decide) (fun c2 => ?_) (fun c2 => ?_)
    · have ht := ht.1 c2
      refine ab_iconst (v := 0) dX3_restart_94 (by decide) ?_
      refine ab_putI f_X3_28 (Or.inl rfl) rfl (sh_k hs 43 3 (by decide) rfl) rfl rfl dX3_restart_95 ?_
      refine Wp.nm fun h3 e4 => ?_
      have ht := ht h3 e4
      have hs5 : Sh h3 := by rw [e4]; exact sh_si hs
      refine ab_aload_n (i := 0) dX3_restart_98 rfl rfl ?_
      refine ab_aload_n (i := 0) dX3_restart_99 rfl rfl ?_
      refine ab_getI f_X3_28 rfl (sh_k hs5 43 3 (by decide) rfl) dX3_restart_100 ?_
      refine ab_putI f_X3_31 (Or.inl rfl) rfl (sh_k hs5 43 3 (by decide) rfl) rfl rfl dX3_restart_103 ?_
      refine Wp.nm fun h6 e7 => ?_
      have ht := ht h6 e7
      have hs8 : Sh h6 := by rw [e7]; exact sh_si hs5
      refine ab_aload_n (i := 0) dX3_restart_106 rfl rfl ?_
      refine ab_iconst (v := 0) dX3_restart_107 (by decide) ?_
      refine ab_putI f_X3_46 (Or.inl rfl) rfl (sh_k hs8 43 3 (by decide) rfl) rfl rfl dX3_restart_108 ?_
      refine Wp.nm fun h9 e10 => ?_
      have ht := ht h9 e10
      have hs11 : Sh h9 := by rw [e10]; exact sh_si hs8
      refine ab_aload_n (i := 0) dX3_restart_111 rfl rfl ?_
      refine ab_iconst (v := 0) dX3_restart_112 (by decide) ?_
      refine ab_putI f_X3_34 (Or.inl rfl) rfl (sh_k hs11 43 3 (by decide) rfl) rfl rfl dX3_restart_113 ?_
      refine Wp.nm fun h12 e13 => ?_
      have ht := ht h12 e13
      have hs14 : Sh h12 := by rw [e13]; exact sh_si hs11
      exact ab_vret rfl dX3_restart_116 (Nat.le_of_ble_eq_true rfl) (Nat.le_of_ble_eq_true rfl) ht
    · have ht := ht.2 c2
      refine ab_iconst (v := 1) dX3_restart_79 (by decide) ?_
      refine ab_aload_n (i := 0) dX3_restart_80 rfl rfl ?_
      refine ab_getR (b := 1) f_X3_64 rfl (sh_k hs 43 3 (by decide) rfl) (sh_r hs 56 rfl) dX3_restart_81 ?_
      refine ab_getR (b := 4) f_X3_76 rfl (sh_k hs 1 10 (by decide) rfl) (sh_r hs 14 rfl) dX3_restart_84 ?_
      refine ab_getI f_X3_81 rfl (sh_k hs 4 7 (by decide) rfl) dX3_restart_87 ?_
      refine ab_ishl dX3_restart_90 ?_
      refine ab_goto (tgt := 95) dX3_restart_91 (by decide) ?_
      refine ab_putI f_X3_28 (Or.inl rfl) rfl (sh_k hs 43 3 (by decide) rfl) rfl rfl dX3_restart_95 ?_
      refine Wp.nm fun h15 e16 => ?_
      have ht := ht h15 e16
      have hs17 : Sh h15 := by rw [e16]; exact sh_si hs
      refine ab_aload_n (i := 0) dX3_restart_98 rfl rfl ?_
      refine ab_aload_n (i := 0) dX3_restart_99 rfl rfl ?_
      refine ab_getI f_X3_28 rfl (sh_k hs17 43 3 (by decide) rfl) dX3_restart_100 ?_
      refine ab_putI f_X3_31 (Or.inl rfl) rfl (sh_k hs17 43 3 (by decide) rfl) rfl rfl dX3_restart_103 ?_
      refine Wp.nm fun h18 e19 => ?_
      have ht := ht h18 e19
      have hs20 : Sh h18 := by rw [e19]; exact sh_si hs17
      refine ab_aload_n (i := 0) dX3_restart_106 rfl rfl ?_
      refine ab_iconst (v := 0) dX3_restart_107 (by decide) ?_
      refine ab_putI f_X3_46 (Or.inl rfl) rfl (sh_k hs20 43 3 (by decide) rfl) rfl rfl dX3_restart_108 ?_
      refine Wp.nm fun h21 e22 => ?_
      have ht := ht h21 e22
      have hs23 : Sh h21 := by rw [e22]; exact sh_si hs20
      refine ab_aload_n (i := 0) dX3_restart_111 rfl rfl ?_
      refine ab_iconst (v := 0) dX3_restart_112 (by decide) ?_
      refine ab_putI f_X3_34 (Or.inl rfl) rfl (sh_k hs23 43 3 (by decide) rfl) rfl rfl dX3_restart_113 ?_
      refine Wp.nm fun h24 e25 => ?_
      have ht := ht h24 e25
      have hs26 : Sh h24 := by rw [e25]; exact sh_si hs23
      exact ab_vret rfl dX3_restart_116 (Nat.le_of_ble_eq_true rfl) (Nat.le_of_ble_eq_true rfl) ht
  · have ht := ht.2 c1
    refine ab_aload_n (i := 0) dX3_restart_10 rfl rfl ?_
    refine ab_getR (b := 46) f_X3_22 rfl (sh_k hs 43 3 (by decide) rfl) (sh_r hs 52 rfl) dX3_restart_11 ?_
    refine ab_iload_n (i := 1) dX3_restart_14 rfl rfl ?_
    refine ab_iload_n (i := 1) dX3_restart_15 rfl rfl ?_
    refine ab_aload_n (i := 0) dX3_restart_16 rfl rfl ?_
    refine ab_getR (b := 1) f_X3_64 rfl (sh_k hs 43 3 (by decide) rfl) (sh_r hs 56 rfl) dX3_restart_17 ?_
    refine ab_getR (b := 4) f_X3_76 rfl (sh_k hs 1 10 (by decide) rfl) (sh_r hs 14 rfl) dX3_restart_20 ?_
    refine ab_getI f_X3_81 rfl (sh_k hs 4 7 (by decide) rfl) dX3_restart_23 ?_
    refine ab_icmp_ge (tgt := 44) dX3_restart_26 (by decide) (fun c27 => ?_) (fun c27 => ?_)
    · have ht := ht.1 c27
      refine ab_sipush (v := 240) dX3_restart_44 (by decide) ?_
      obtain ⟨hc28, ht⟩ := ht
      refine ab_iast (sh_k hs 46 14 (by decide) rfl) hc28 dX3_restart_47 ?_
      refine Wp.nm fun h29 e30 => ?_
      have ht := ht h29 e30
      have hs31 : Sh h29 := by rw [e30]; exact sh_si hs
      refine ab_aload_n (i := 0) dX3_restart_48 rfl rfl ?_
      refine ab_getR (b := 47) f_X3_25 rfl (sh_k hs31 43 3 (by decide) rfl) (sh_r hs31 53 rfl) dX3_restart_49 ?_
      refine ab_iload_n (i := 1) dX3_restart_52 rfl rfl ?_
      refine ab_iconst (v := 0) dX3_restart_53 (by decide) ?_
      obtain ⟨hc32, ht⟩ := ht
      refine ab_iast (sh_k hs31 47 14 (by decide) rfl) hc32 dX3_restart_54 ?_
      refine Wp.nm fun h33 e34 => ?_
      have ht := ht h33 e34
      have hs35 : Sh h33 := by rw [e34]; exact sh_si hs31
      refine ab_iinc (i := 1) (x := x1) (v := (x1 + 1)) (L' := [some (.ref 43), some (.int (x1 + 1))]) dX3_restart_55 rfl rfl (by exact (Nat.le_of_ble_eq_true rfl)) rfl rfl ?_
      refine ab_goto (tgt := 2) dX3_restart_58 (by decide) ?_
      exact Wp.fewer (L' := [some (.ref 43), some (.int (x1 + 1))]) (show ab_leL _ _ from ⟨rfl, ⟨rfl, trivial⟩⟩) ht
    · have ht := ht.2 c27
      refine ab_aload_n (i := 0) dX3_restart_29 rfl rfl ?_
      refine ab_getR (b := 1) f_X3_64 rfl (sh_k hs 43 3 (by decide) rfl) (sh_r hs 56 rfl) dX3_restart_30 ?_
      refine ab_getR (b := 4) f_X3_76 rfl (sh_k hs 1 10 (by decide) rfl) (sh_r hs 14 rfl) dX3_restart_33 ?_
      refine ab_iload_n (i := 1) dX3_restart_36 rfl rfl ?_
      refine ab_iconst (v := 2) dX3_restart_37 (by decide) ?_
      refine ab_callV (b := 4) (As := [.int x1, .int 2]) ht (Y_X7_get) l_X3_86 in_X7_get se_X7_get (sh_k hs 4 7 (by decide) rfl) (by decide) rfl rfl ⟨(Nat.le_of_ble_eq_true rfl), (Nat.le_of_ble_eq_true rfl), (Nat.le_of_ble_eq_true rfl), (Nat.le_of_ble_eq_true rfl)⟩ dX3_restart_38 ?_
      rintro _ h36 ⟨v38, rfl, hs37, ht⟩
      refine ab_goto (tgt := 47) dX3_restart_41 (by decide) ?_
      obtain ⟨hc39, ht⟩ := ht
      refine ab_iast (sh_k hs37 46 14 (by decide) rfl) hc39 dX3_restart_47 ?_
      refine Wp.nm fun h40 e41 => ?_
      have ht := ht h40 e41
      have hs42 : Sh h40 := by rw [e41]; exact sh_si hs37
      refine ab_aload_n (i := 0) dX3_restart_48 rfl rfl ?_
      refine ab_getR (b := 47) f_X3_25 rfl (sh_k hs42 43 3 (by decide) rfl) (sh_r hs42 53 rfl) dX3_restart_49 ?_
      refine ab_iload_n (i := 1) dX3_restart_52 rfl rfl ?_
      refine ab_iconst (v := 0) dX3_restart_53 (by decide) ?_
      obtain ⟨hc43, ht⟩ := ht
      refine ab_iast (sh_k hs42 47 14 (by decide) rfl) hc43 dX3_restart_54 ?_
      refine Wp.nm fun h44 e45 => ?_
      have ht := ht h44 e45
      have hs46 : Sh h44 := by rw [e45]; exact sh_si hs42
      refine ab_iinc (i := 1) (x := x1) (v := (x1 + 1)) (L' := [some (.ref 43), some (.int (x1 + 1))]) dX3_restart_55 rfl rfl (by exact (Nat.le_of_ble_eq_true rfl)) rfl rfl ?_
      refine ab_goto (tgt := 2) dX3_restart_58 (by decide) ?_
      exact Wp.fewer (L' := [some (.ref 43), some (.int (x1 + 1))]) (show ab_leL _ _ from ⟨rfl, ⟨rfl, trivial⟩⟩) ht
set_option maxRecDepth 20000 in
theorem T_X3_restart {Q : Option Value → ah_T → Prop} {h : ah_T} (hs : Sh h)  (ht : Wp mX3_restart Q 0 0 2 [some (.ref 43), some (.int 0)] [] h) : Mt mX3_restart [.ref 43] h Q := by
  refine Mt.ofWp rfl (by exact (Nat.le_of_ble_eq_true rfl)) (Wp.fewer (L' := [some (.ref 43), none]) (show ab_leL _ _ from ⟨rfl, trivial⟩) ?_)
  refine ab_iconst (v := 0) dX3_restart_0 (by decide) ?_
  refine ab_istore_n (i := 1) (L' := [some (.ref 43), some (.int 0)]) dX3_restart_1 rfl (by exact (Nat.le_of_ble_eq_true rfl)) rfl rfl ?_
  exact Wp.fewer (L' := [some (.ref 43), some (.int 0)]) (show ab_leL _ _ from ⟨rfl, ⟨rfl, trivial⟩⟩) ht
theorem dX3_keep_0 : decode cX3_keep 0 = .ok (.aload_n 0, 1) := by decide +kernel
theorem dX3_keep_1 : decode cX3_keep 1 = .ok (.getfield 22, 3) := by decide +kernel
theorem dX3_keep_4 : decode cX3_keep 4 = .ok (.iconst 0, 1) := by decide +kernel
theorem dX3_keep_5 : decode cX3_keep 5 = .ok (.aload_n 0, 1) := by decide +kernel
theorem dX3_keep_6 : decode cX3_keep 6 = .ok (.getfield 61, 3) := by decide +kernel
theorem dX3_keep_9 : decode cX3_keep 9 = .ok (.iconst 0, 1) := by decide +kernel
theorem dX3_keep_10 : decode cX3_keep 10 = .ok (.bipush 10, 2) := by decide +kernel
theorem dX3_keep_12 : decode cX3_keep 12 = .ok (.invokestatic 112, 3) := by decide +kernel
theorem dX3_keep_15 : decode cX3_keep 15 = .ok (.aload_n 0, 1) := by decide +kernel
theorem dX3_keep_16 : decode cX3_keep 16 = .ok (.getfield 25, 3) := by decide +kernel
theorem dX3_keep_19 : decode cX3_keep 19 = .ok (.iconst 0, 1) := by decide +kernel
theorem dX3_keep_20 : decode cX3_keep 20 = .ok (.aload_n 0, 1) := by decide +kernel
theorem dX3_keep_21 : decode cX3_keep 21 = .ok (.getfield 61, 3) := by decide +kernel
theorem dX3_keep_24 : decode cX3_keep 24 = .ok (.bipush 10, 2) := by decide +kernel
theorem dX3_keep_26 : decode cX3_keep 26 = .ok (.bipush 10, 2) := by decide +kernel
theorem dX3_keep_28 : decode cX3_keep 28 = .ok (.invokestatic 112, 3) := by decide +kernel
theorem dX3_keep_31 : decode cX3_keep 31 = .ok (.aload_n 0, 1) := by decide +kernel
theorem dX3_keep_32 : decode cX3_keep 32 = .ok (.getfield 61, 3) := by decide +kernel
theorem dX3_keep_35 : decode cX3_keep 35 = .ok (.bipush 20, 2) := by decide +kernel
theorem dX3_keep_37 : decode cX3_keep 37 = .ok (.aload_n 0, 1) := by decide +kernel
theorem dX3_keep_38 : decode cX3_keep 38 = .ok (.getfield 28, 3) := by decide +kernel
theorem dX3_keep_41 : decode cX3_keep 41 = .ok (.iastore, 1) := by decide +kernel
theorem dX3_keep_42 : decode cX3_keep 42 = .ok (.aload_n 0, 1) := by decide +kernel
theorem dX3_keep_43 : decode cX3_keep 43 = .ok (.getfield 61, 3) := by decide +kernel
theorem dX3_keep_46 : decode cX3_keep 46 = .ok (.bipush 21, 2) := by decide +kernel
theorem dX3_keep_48 : decode cX3_keep 48 = .ok (.aload_n 0, 1) := by decide +kernel
theorem dX3_keep_49 : decode cX3_keep 49 = .ok (.getfield 46, 3) := by decide +kernel
theorem dX3_keep_52 : decode cX3_keep 52 = .ok (.iastore, 1) := by decide +kernel
theorem dX3_keep_53 : decode cX3_keep 53 = .ok (.return_, 1) := by decide +kernel
set_option maxRecDepth 20000 in
theorem T_X3_keep {Q : Option Value → ah_T → Prop} {h : ah_T} (hs : Sh h)  (ht : ((Int32.toNatClampNeg 0) + (Int32.toNatClampNeg 10) ≤ ah_n h 46) ∧ ((Int32.toNatClampNeg 0) + (Int32.toNatClampNeg 10) ≤ ah_n h 53) ∧ (∀ h3, h3 = ah_sa h 53 (va_cpy (ah_i h 46) (ah_i h 53) (Int32.toNatClampNeg 0) (Int32.toNatClampNeg 0) (Int32.toNatClampNeg 10)) → ((Int32.toNatClampNeg 0) + (Int32.toNatClampNeg 10) ≤ ah_n h3 47) ∧ ((Int32.toNatClampNeg 10) + (Int32.toNatClampNeg 10) ≤ ah_n h3 53) ∧ (∀ h8, h8 = ah_sa h3 53 (va_cpy (ah_i h3 47) (ah_i h3 53) (Int32.toNatClampNeg 0) (Int32.toNatClampNeg 10) (Int32.toNatClampNeg 10)) → (∀ h11, h11 = ah_si h8 53 (Int32.toNatClampNeg 20) (ah_i h8 43 5) → (∀ h14, h14 = ah_si h11 53 (Int32.toNatClampNeg 21) (ah_i h11 43 14) → Q none h14))))) : Mt mX3_keep [.ref 43] h Q := by
  refine Mt.ofWp rfl (by exact (Nat.le_of_ble_eq_true rfl)) (Wp.fewer (L' := [some (.ref 43)]) (show ab_leL _ _ from ⟨rfl, trivial⟩) ?_)
  refine ab_aload_n (i := 0) dX3_keep_0 rfl rfl ?_
  refine ab_getR (b := 46) f_X3_22 rfl (sh_k hs 43 3 (by decide) rfl) (sh_r hs 52 rfl) dX3_keep_1 ?_
  refine ab_iconst (v := 0) dX3_keep_4 (by decide) ?_
  refine ab_aload_n (i := 0) dX3_keep_5 rfl rfl ?_
  refine ab_getR (b := 53) f_X3_61 rfl (sh_k hs 43 3 (by decide) rfl) (sh_r hs 62 rfl) dX3_keep_6 ?_
  refine ab_iconst (v := 0) dX3_keep_9 (by decide) ?_
  refine ab_bipush (v := 10) dX3_keep_10 (by decide) ?_
  obtain ⟨hc1, ht⟩ := ht
  obtain ⟨hc2, ht⟩ := ht
  refine ab_copy (tb_6 (List.mem_of_getElem? (i := 0) (by decide +kernel)) rfl) na_copy st_copy in_sys (sh_k hs 46 14 (by decide) rfl) (sh_k hs 53 14 (by decide) rfl) (by decide) (by decide) (by decide) hc1 hc2 (Nat.le_of_ble_eq_true rfl) (Nat.le_of_ble_eq_true rfl) dX3_keep_12 ?_
  refine Wp.nm fun h3 e4 => ?_
  have ht := ht h3 e4
  have hs5 : Sh h3 := by rw [e4]; exact sh_sa hs
  refine ab_aload_n (i := 0) dX3_keep_15 rfl rfl ?_
  refine ab_getR (b := 47) f_X3_25 rfl (sh_k hs5 43 3 (by decide) rfl) (sh_r hs5 53 rfl) dX3_keep_16 ?_
  refine ab_iconst (v := 0) dX3_keep_19 (by decide) ?_
  refine ab_aload_n (i := 0) dX3_keep_20 rfl rfl ?_
  refine ab_getR (b := 53) f_X3_61 rfl (sh_k hs5 43 3 (by decide) rfl) (sh_r hs5 62 rfl) dX3_keep_21 ?_
  refine ab_bipush (v := 10) dX3_keep_24 (by decide) ?_
  refine ab_bipush (v := 10) dX3_keep_26 (by decide) ?_
  obtain ⟨hc6, ht⟩ := ht
  obtain ⟨hc7, ht⟩ := ht
  refine ab_copy (tb_6 (List.mem_of_getElem? (i := 0) (by decide +kernel)) rfl) na_copy st_copy in_sys (sh_k hs5 47 14 (by decide) rfl) (sh_k hs5 53 14 (by decide) rfl) (by decide) (by decide) (by decide) hc6 hc7 (Nat.le_of_ble_eq_true rfl) (Nat.le_of_ble_eq_true rfl) dX3_keep_28 ?_
  refine Wp.nm fun h8 e9 => ?_
  have ht := ht h8 e9
  have hs10 : Sh h8 := by rw [e9]; exact sh_sa hs5
  refine ab_aload_n (i := 0) dX3_keep_31 rfl rfl ?_
  refine ab_getR (b := 53) f_X3_61 rfl (sh_k hs10 43 3 (by decide) rfl) (sh_r hs10 62 rfl) dX3_keep_32 ?_
  refine ab_bipush (v := 20) dX3_keep_35 (by decide) ?_
  refine ab_aload_n (i := 0) dX3_keep_37 rfl rfl ?_
  refine ab_getI f_X3_28 rfl (sh_k hs10 43 3 (by decide) rfl) dX3_keep_38 ?_
  refine ab_iast (sh_k hs10 53 14 (by decide) rfl) (sh_in hs10 53 22 (by decide) (by decide) rfl (by unfold vp_in; decide)) dX3_keep_41 ?_
  refine Wp.nm fun h11 e12 => ?_
  have ht := ht h11 e12
  have hs13 : Sh h11 := by rw [e12]; exact sh_si hs10
  refine ab_aload_n (i := 0) dX3_keep_42 rfl rfl ?_
  refine ab_getR (b := 53) f_X3_61 rfl (sh_k hs13 43 3 (by decide) rfl) (sh_r hs13 62 rfl) dX3_keep_43 ?_
  refine ab_bipush (v := 21) dX3_keep_46 (by decide) ?_
  refine ab_aload_n (i := 0) dX3_keep_48 rfl rfl ?_
  refine ab_getI f_X3_46 rfl (sh_k hs13 43 3 (by decide) rfl) dX3_keep_49 ?_
  refine ab_iast (sh_k hs13 53 14 (by decide) rfl) (sh_in hs13 53 22 (by decide) (by decide) rfl (by unfold vp_in; decide)) dX3_keep_52 ?_
  refine Wp.nm fun h14 e15 => ?_
  have ht := ht h14 e15
  have hs16 : Sh h14 := by rw [e15]; exact sh_si hs13
  exact ab_vret rfl dX3_keep_53 (Nat.le_of_ble_eq_true rfl) (Nat.le_of_ble_eq_true rfl) ht
theorem dX3_recall_0 : decode cX3_recall 0 = .ok (.aload_n 0, 1) := by decide +kernel
theorem dX3_recall_1 : decode cX3_recall 1 = .ok (.getfield 61, 3) := by decide +kernel
theorem dX3_recall_4 : decode cX3_recall 4 = .ok (.iconst 0, 1) := by decide +kernel
theorem dX3_recall_5 : decode cX3_recall 5 = .ok (.aload_n 0, 1) := by decide +kernel
theorem dX3_recall_6 : decode cX3_recall 6 = .ok (.getfield 22, 3) := by decide +kernel
theorem dX3_recall_9 : decode cX3_recall 9 = .ok (.iconst 0, 1) := by decide +kernel
theorem dX3_recall_10 : decode cX3_recall 10 = .ok (.bipush 10, 2) := by decide +kernel
theorem dX3_recall_12 : decode cX3_recall 12 = .ok (.invokestatic 112, 3) := by decide +kernel
theorem dX3_recall_15 : decode cX3_recall 15 = .ok (.aload_n 0, 1) := by decide +kernel
theorem dX3_recall_16 : decode cX3_recall 16 = .ok (.getfield 61, 3) := by decide +kernel
theorem dX3_recall_19 : decode cX3_recall 19 = .ok (.bipush 10, 2) := by decide +kernel
theorem dX3_recall_21 : decode cX3_recall 21 = .ok (.aload_n 0, 1) := by decide +kernel
theorem dX3_recall_22 : decode cX3_recall 22 = .ok (.getfield 25, 3) := by decide +kernel
theorem dX3_recall_25 : decode cX3_recall 25 = .ok (.iconst 0, 1) := by decide +kernel
theorem dX3_recall_26 : decode cX3_recall 26 = .ok (.bipush 10, 2) := by decide +kernel
theorem dX3_recall_28 : decode cX3_recall 28 = .ok (.invokestatic 112, 3) := by decide +kernel
theorem dX3_recall_31 : decode cX3_recall 31 = .ok (.aload_n 0, 1) := by decide +kernel
theorem dX3_recall_32 : decode cX3_recall 32 = .ok (.aload_n 0, 1) := by decide +kernel
theorem dX3_recall_33 : decode cX3_recall 33 = .ok (.getfield 61, 3) := by decide +kernel
theorem dX3_recall_36 : decode cX3_recall 36 = .ok (.bipush 20, 2) := by decide +kernel
theorem dX3_recall_38 : decode cX3_recall 38 = .ok (.iaload, 1) := by decide +kernel
theorem dX3_recall_39 : decode cX3_recall 39 = .ok (.putfield 28, 3) := by decide +kernel
theorem dX3_recall_42 : decode cX3_recall 42 = .ok (.aload_n 0, 1) := by decide +kernel
theorem dX3_recall_43 : decode cX3_recall 43 = .ok (.aload_n 0, 1) := by decide +kernel
theorem dX3_recall_44 : decode cX3_recall 44 = .ok (.getfield 61, 3) := by decide +kernel
theorem dX3_recall_47 : decode cX3_recall 47 = .ok (.bipush 21, 2) := by decide +kernel
theorem dX3_recall_49 : decode cX3_recall 49 = .ok (.iaload, 1) := by decide +kernel
theorem dX3_recall_50 : decode cX3_recall 50 = .ok (.putfield 46, 3) := by decide +kernel
theorem dX3_recall_53 : decode cX3_recall 53 = .ok (.aload_n 0, 1) := by decide +kernel
theorem dX3_recall_54 : decode cX3_recall 54 = .ok (.iconst 0, 1) := by decide +kernel
theorem dX3_recall_55 : decode cX3_recall 55 = .ok (.putfield 31, 3) := by decide +kernel
theorem dX3_recall_58 : decode cX3_recall 58 = .ok (.return_, 1) := by decide +kernel
set_option maxRecDepth 20000 in
theorem T_X3_recall {Q : Option Value → ah_T → Prop} {h : ah_T} (hs : Sh h)  (ht : ((Int32.toNatClampNeg 0) + (Int32.toNatClampNeg 10) ≤ ah_n h 53) ∧ ((Int32.toNatClampNeg 0) + (Int32.toNatClampNeg 10) ≤ ah_n h 46) ∧ (∀ h3, h3 = ah_sa h 46 (va_cpy (ah_i h 53) (ah_i h 46) (Int32.toNatClampNeg 0) (Int32.toNatClampNeg 0) (Int32.toNatClampNeg 10)) → ((Int32.toNatClampNeg 10) + (Int32.toNatClampNeg 10) ≤ ah_n h3 53) ∧ ((Int32.toNatClampNeg 0) + (Int32.toNatClampNeg 10) ≤ ah_n h3 47) ∧ (∀ h8, h8 = ah_sa h3 47 (va_cpy (ah_i h3 53) (ah_i h3 47) (Int32.toNatClampNeg 10) (Int32.toNatClampNeg 0) (Int32.toNatClampNeg 10)) → (∀ h11, h11 = ah_si h8 43 5 (ah_i h8 53 (Int32.toNatClampNeg 20)) → (∀ h14, h14 = ah_si h11 43 14 (ah_i h11 53 (Int32.toNatClampNeg 21)) → (∀ h17, h17 = ah_si h14 43 6 0 → Q none h17)))))) : Mt mX3_recall [.ref 43] h Q := by
  refine Mt.ofWp rfl (by exact (Nat.le_of_ble_eq_true rfl)) (Wp.fewer (L' := [some (.ref 43)]) (show ab_leL _ _ from ⟨rfl, trivial⟩) ?_)
  refine ab_aload_n (i := 0) dX3_recall_0 rfl rfl ?_
  refine ab_getR (b := 53) f_X3_61 rfl (sh_k hs 43 3 (by decide) rfl) (sh_r hs 62 rfl) dX3_recall_1 ?_
  refine ab_iconst (v := 0) dX3_recall_4 (by decide) ?_
  refine ab_aload_n (i := 0) dX3_recall_5 rfl rfl ?_
  refine ab_getR (b := 46) f_X3_22 rfl (sh_k hs 43 3 (by decide) rfl) (sh_r hs 52 rfl) dX3_recall_6 ?_
  refine ab_iconst (v := 0) dX3_recall_9 (by decide) ?_
  refine ab_bipush (v := 10) dX3_recall_10 (by decide) ?_
  obtain ⟨hc1, ht⟩ := ht
  obtain ⟨hc2, ht⟩ := ht
  refine ab_copy (tb_6 (List.mem_of_getElem? (i := 0) (by decide +kernel)) rfl) na_copy st_copy in_sys (sh_k hs 53 14 (by decide) rfl) (sh_k hs 46 14 (by decide) rfl) (by decide) (by decide) (by decide) hc1 hc2 (Nat.le_of_ble_eq_true rfl) (Nat.le_of_ble_eq_true rfl) dX3_recall_12 ?_
  refine Wp.nm fun h3 e4 => ?_
  have ht := ht h3 e4
  have hs5 : Sh h3 := by rw [e4]; exact sh_sa hs
  refine ab_aload_n (i := 0) dX3_recall_15 rfl rfl ?_
  refine ab_getR (b := 53) f_X3_61 rfl (sh_k hs5 43 3 (by decide) rfl) (sh_r hs5 62 rfl) dX3_recall_16 ?_
  refine ab_bipush (v := 10) dX3_recall_19 (by decide) ?_
  refine ab_aload_n (i := 0) dX3_recall_21 rfl rfl ?_
  refine ab_getR (b := 47) f_X3_25 rfl (sh_k hs5 43 3 (by decide) rfl) (sh_r hs5 53 rfl) dX3_recall_22 ?_
  refine ab_iconst (v := 0) dX3_recall_25 (by decide) ?_
  refine ab_bipush (v := 10) dX3_recall_26 (by decide) ?_
  obtain ⟨hc6, ht⟩ := ht
  obtain ⟨hc7, ht⟩ := ht
  refine ab_copy (tb_6 (List.mem_of_getElem? (i := 0) (by decide +kernel)) rfl) na_copy st_copy in_sys (sh_k hs5 53 14 (by decide) rfl) (sh_k hs5 47 14 (by decide) rfl) (by decide) (by decide) (by decide) hc6 hc7 (Nat.le_of_ble_eq_true rfl) (Nat.le_of_ble_eq_true rfl) dX3_recall_28 ?_
  refine Wp.nm fun h8 e9 => ?_
  have ht := ht h8 e9
  have hs10 : Sh h8 := by rw [e9]; exact sh_sa hs5
  refine ab_aload_n (i := 0) dX3_recall_31 rfl rfl ?_
  refine ab_aload_n (i := 0) dX3_recall_32 rfl rfl ?_
  refine ab_getR (b := 53) f_X3_61 rfl (sh_k hs10 43 3 (by decide) rfl) (sh_r hs10 62 rfl) dX3_recall_33 ?_
  refine ab_bipush (v := 20) dX3_recall_36 (by decide) ?_
  refine ab_iald (sh_k hs10 53 14 (by decide) rfl) (sh_in hs10 53 22 (by decide) (by decide) rfl (by unfold vp_in; decide)) dX3_recall_38 ?_
  refine ab_putI f_X3_28 (Or.inl rfl) rfl (sh_k hs10 43 3 (by decide) rfl) rfl rfl dX3_recall_39 ?_
  refine Wp.nm fun h11 e12 => ?_
  have ht := ht h11 e12
  have hs13 : Sh h11 := by rw [e12]; exact sh_si hs10
  refine ab_aload_n (i := 0) dX3_recall_42 rfl rfl ?_
  refine ab_aload_n (i := 0) dX3_recall_43 rfl rfl ?_
  refine ab_getR (b := 53) f_X3_61 rfl (sh_k hs13 43 3 (by decide) rfl) (sh_r hs13 62 rfl) dX3_recall_44 ?_
  refine ab_bipush (v := 21) dX3_recall_47 (by decide) ?_
  refine ab_iald (sh_k hs13 53 14 (by decide) rfl) (sh_in hs13 53 22 (by decide) (by decide) rfl (by unfold vp_in; decide)) dX3_recall_49 ?_
  refine ab_putI f_X3_46 (Or.inl rfl) rfl (sh_k hs13 43 3 (by decide) rfl) rfl rfl dX3_recall_50 ?_
  refine Wp.nm fun h14 e15 => ?_
  have ht := ht h14 e15
  have hs16 : Sh h14 := by rw [e15]; exact sh_si hs13
  refine ab_aload_n (i := 0) dX3_recall_53 rfl rfl ?_
  refine ab_iconst (v := 0) dX3_recall_54 (by decide) ?_
  refine ab_putI f_X3_31 (Or.inl rfl) rfl (sh_k hs16 43 3 (by decide) rfl) rfl rfl dX3_recall_55 ?_
  refine Wp.nm fun h17 e18 => ?_
  have ht := ht h17 e18
  have hs19 : Sh h17 := by rw [e18]; exact sh_si hs16
  exact ab_vret rfl dX3_recall_58 (Nat.le_of_ble_eq_true rfl) (Nat.le_of_ble_eq_true rfl) ht
theorem dX3_step_0 : decode cX3_step 0 = .ok (.aload_n 0, 1) := by decide +kernel
theorem dX3_step_1 : decode cX3_step 1 = .ok (.iload_n 1, 1) := by decide +kernel
theorem dX3_step_2 : decode cX3_step 2 = .ok (.invokevirtual 118, 3) := by decide +kernel
theorem dX3_step_5 : decode cX3_step 5 = .ok (.iconst 0, 1) := by decide +kernel
theorem dX3_step_6 : decode cX3_step 6 = .ok (.istore_n 2, 1) := by decide +kernel
theorem dX3_step_7 : decode cX3_step 7 = .ok (.aload_n 0, 1) := by decide +kernel
theorem dX3_step_8 : decode cX3_step 8 = .ok (.invokevirtual 122, 3) := by decide +kernel
theorem dX3_step_11 : decode cX3_step 11 = .ok (.ifCond .ne 11, 3) := by decide +kernel
theorem dX3_step_14 : decode cX3_step 14 = .ok (.aload_n 0, 1) := by decide +kernel
theorem dX3_step_15 : decode cX3_step 15 = .ok (.iload_n 1, 1) := by decide +kernel
theorem dX3_step_16 : decode cX3_step 16 = .ok (.invokevirtual 126, 3) := by decide +kernel
theorem dX3_step_19 : decode cX3_step 19 = .ok (.ifCond .eq 91, 3) := by decide +kernel
theorem dX3_step_22 : decode cX3_step 22 = .ok (.aload_n 0, 1) := by decide +kernel
theorem dX3_step_23 : decode cX3_step 23 = .ok (.iload_n 1, 1) := by decide +kernel
theorem dX3_step_24 : decode cX3_step 24 = .ok (.invokevirtual 130, 3) := by decide +kernel
theorem dX3_step_27 : decode cX3_step 27 = .ok (.istore_n 2, 1) := by decide +kernel
theorem dX3_step_28 : decode cX3_step 28 = .ok (.iconst 0, 1) := by decide +kernel
theorem dX3_step_29 : decode cX3_step 29 = .ok (.istore_n 3, 1) := by decide +kernel
theorem dX3_step_30 : decode cX3_step 30 = .ok (.iload_n 3, 1) := by decide +kernel
theorem dX3_step_31 : decode cX3_step 31 = .ok (.aload_n 0, 1) := by decide +kernel
theorem dX3_step_32 : decode cX3_step 32 = .ok (.getfield 9, 3) := by decide +kernel
theorem dX3_step_35 : decode cX3_step 35 = .ok (.if_icmp .ge 36, 3) := by decide +kernel
theorem dX3_step_38 : decode cX3_step 38 = .ok (.aload_n 0, 1) := by decide +kernel
theorem dX3_step_39 : decode cX3_step 39 = .ok (.getfield 58, 3) := by decide +kernel
theorem dX3_step_42 : decode cX3_step 42 = .ok (.iload_n 3, 1) := by decide +kernel
theorem dX3_step_43 : decode cX3_step 43 = .ok (.aload_n 0, 1) := by decide +kernel
theorem dX3_step_44 : decode cX3_step 44 = .ok (.getfield 28, 3) := by decide +kernel
theorem dX3_step_47 : decode cX3_step 47 = .ok (.iload_n 3, 1) := by decide +kernel
theorem dX3_step_48 : decode cX3_step 48 = .ok (.ishr, 1) := by decide +kernel
theorem dX3_step_49 : decode cX3_step 49 = .ok (.iconst 1, 1) := by decide +kernel
theorem dX3_step_50 : decode cX3_step 50 = .ok (.iand, 1) := by decide +kernel
theorem dX3_step_51 : decode cX3_step 51 = .ok (.ifCond .ne 7, 3) := by decide +kernel
theorem dX3_step_54 : decode cX3_step 54 = .ok (.iconst 0, 1) := by decide +kernel
theorem dX3_step_55 : decode cX3_step 55 = .ok (.goto 9, 3) := by decide +kernel
theorem dX3_step_58 : decode cX3_step 58 = .ok (.aload_n 0, 1) := by decide +kernel
theorem dX3_step_59 : decode cX3_step 59 = .ok (.iload_n 3, 1) := by decide +kernel
theorem dX3_step_60 : decode cX3_step 60 = .ok (.iload_n 1, 1) := by decide +kernel
theorem dX3_step_61 : decode cX3_step 61 = .ok (.invokevirtual 133, 3) := by decide +kernel
theorem dX3_step_64 : decode cX3_step 64 = .ok (.iastore, 1) := by decide +kernel
theorem dX3_step_65 : decode cX3_step 65 = .ok (.iinc 3 1, 3) := by decide +kernel
theorem dX3_step_68 : decode cX3_step 68 = .ok (.goto (-38), 3) := by decide +kernel
theorem dX3_step_71 : decode cX3_step 71 = .ok (.iconst 0, 1) := by decide +kernel
theorem dX3_step_72 : decode cX3_step 72 = .ok (.istore_n 3, 1) := by decide +kernel
theorem dX3_step_73 : decode cX3_step 73 = .ok (.iload_n 3, 1) := by decide +kernel
theorem dX3_step_74 : decode cX3_step 74 = .ok (.aload_n 0, 1) := by decide +kernel
theorem dX3_step_75 : decode cX3_step 75 = .ok (.getfield 9, 3) := by decide +kernel
theorem dX3_step_78 : decode cX3_step 78 = .ok (.if_icmp .ge 32, 3) := by decide +kernel
theorem dX3_step_81 : decode cX3_step 81 = .ok (.aload_n 0, 1) := by decide +kernel
theorem dX3_step_82 : decode cX3_step 82 = .ok (.getfield 58, 3) := by decide +kernel
theorem dX3_step_85 : decode cX3_step 85 = .ok (.iload_n 3, 1) := by decide +kernel
theorem dX3_step_86 : decode cX3_step 86 = .ok (.iaload, 1) := by decide +kernel
theorem dX3_step_87 : decode cX3_step 87 = .ok (.ifCond .eq 17, 3) := by decide +kernel
theorem dX3_step_90 : decode cX3_step 90 = .ok (.aload_n 0, 1) := by decide +kernel
theorem dX3_step_91 : decode cX3_step 91 = .ok (.iload_n 3, 1) := by decide +kernel
theorem dX3_step_92 : decode cX3_step 92 = .ok (.invokevirtual 136, 3) := by decide +kernel
theorem dX3_step_95 : decode cX3_step 95 = .ok (.ifCond .eq 9, 3) := by decide +kernel
theorem dX3_step_98 : decode cX3_step 98 = .ok (.iload_n 2, 1) := by decide +kernel
theorem dX3_step_99 : decode cX3_step 99 = .ok (.iconst 1, 1) := by decide +kernel
theorem dX3_step_100 : decode cX3_step 100 = .ok (.iload_n 3, 1) := by decide +kernel
theorem dX3_step_101 : decode cX3_step 101 = .ok (.ishl, 1) := by decide +kernel
theorem dX3_step_102 : decode cX3_step 102 = .ok (.ior, 1) := by decide +kernel
theorem dX3_step_103 : decode cX3_step 103 = .ok (.istore_n 2, 1) := by decide +kernel
theorem dX3_step_104 : decode cX3_step 104 = .ok (.iinc 3 1, 3) := by decide +kernel
theorem dX3_step_107 : decode cX3_step 107 = .ok (.goto (-34), 3) := by decide +kernel
theorem dX3_step_110 : decode cX3_step 110 = .ok (.aload_n 0, 1) := by decide +kernel
theorem dX3_step_111 : decode cX3_step 111 = .ok (.iload_n 1, 1) := by decide +kernel
theorem dX3_step_112 : decode cX3_step 112 = .ok (.iload_n 2, 1) := by decide +kernel
theorem dX3_step_113 : decode cX3_step 113 = .ok (.invokevirtual 140, 3) := by decide +kernel
theorem dX3_step_116 : decode cX3_step 116 = .ok (.ireturn, 1) := by decide +kernel
set_option maxRecDepth 20000 in
theorem T_X3_step_30 {Q : Option Value → ah_T → Prop} {h : ah_T} (hs : Sh h) (x1 : Int32) (x2 : Int32) (x3 : Int32) (ht : (((ah_i h 43 0) ≤ x3 → Wp mX3_step Q 0 0 73 [some (.ref 43), some (.int x1), some (.int x2), some (.int 0)] [] h) ∧ (¬ (ah_i h 43 0) ≤ x3 → ((¬ (((ah_i h 43 5) >>> (x3 &&& 31)) &&& 1) = 0 → (Mt mX3_shunnedBy [.ref 43, .int x3, .int x1] h (ab_qi fun v25 h23 => Sh h23 ∧ (vp_in x3 (ah_n h23 52)) ∧ (∀ h27, h27 = ah_si h23 52 (Int32.toNatClampNeg x3) v25 → Wp mX3_step Q 0 0 30 [some (.ref 43), some (.int x1), some (.int x2), some (.int (x3 + 1))] [] h27)))) ∧ ((((ah_i h 43 5) >>> (x3 &&& 31)) &&& 1) = 0 → (vp_in x3 (ah_n h 52)) ∧ (∀ h31, h31 = ah_si h 52 (Int32.toNatClampNeg x3) 0 → Wp mX3_step Q 0 0 30 [some (.ref 43), some (.int x1), some (.int x2), some (.int (x3 + 1))] [] h31)))))) : Wp mX3_step Q 0 0 30 [some (.ref 43), some (.int x1), some (.int x2), some (.int x3)] [] h := by
  refine ab_iload_n (i := 3) dX3_step_30 rfl rfl ?_
  refine ab_aload_n (i := 0) dX3_step_31 rfl rfl ?_
  refine ab_getI f_X3_9 rfl (sh_k hs 43 3 (by decide) rfl) dX3_step_32 ?_
  refine ab_icmp_ge (tgt := 71) dX3_step_35 (by decide) (fun c21 => ?_) (fun c21 => ?_)
  · have ht := ht.1 c21
    refine ab_iconst (v := 0) dX3_step_71 (by decide) ?_
    refine ab_istore_n (i := 3) (L' := [some (.ref 43), some (.int x1), some (.int x2), some (.int 0)]) dX3_step_72 rfl (by exact (Nat.le_of_ble_eq_true rfl)) rfl rfl ?_
    exact Wp.fewer (L' := [some (.ref 43), some (.int x1), some (.int x2), some (.int 0)]) (show ab_leL _ _ from ⟨rfl, ⟨rfl, ⟨rfl, ⟨rfl, trivial⟩⟩⟩⟩) ht
  · have ht := ht.2 c21
    refine ab_aload_n (i := 0) dX3_step_38 rfl rfl ?_
    refine ab_getR (b := 52) f_X3_58 rfl (sh_k hs 43 3 (by decide) rfl) (sh_r hs 61 rfl) dX3_step_39 ?_
    refine ab_iload_n (i := 3) dX3_step_42 rfl rfl ?_
    refine ab_aload_n (i := 0) dX3_step_43 rfl rfl ?_
    refine ab_getI f_X3_28 rfl (sh_k hs 43 3 (by decide) rfl) dX3_step_44 ?_
    refine ab_iload_n (i := 3) dX3_step_47 rfl rfl ?_
    refine ab_ishr dX3_step_48 ?_
    refine ab_iconst (v := 1) dX3_step_49 (by decide) ?_
    refine ab_iand dX3_step_50 ?_
    refine ab_if_ne (tgt := 58) dX3_step_51 (by decide) (fun c22 => ?_) (fun c22 => ?_)
    · have ht := ht.1 c22
      refine ab_aload_n (i := 0) dX3_step_58 rfl rfl ?_
      refine ab_iload_n (i := 3) dX3_step_59 rfl rfl ?_
      refine ab_iload_n (i := 1) dX3_step_60 rfl rfl ?_
      refine ab_callV (b := 43) (As := [.int x3, .int x1]) ht (Y_X3_shunnedBy) l_X3_133 in_X3_shunnedBy se_X3_shunnedBy (sh_k hs 43 3 (by decide) rfl) (by decide) rfl rfl ⟨(Nat.le_of_ble_eq_true rfl), (Nat.le_of_ble_eq_true rfl), (Nat.le_of_ble_eq_true rfl), (Nat.le_of_ble_eq_true rfl)⟩ dX3_step_61 ?_
      rintro _ h23 ⟨v25, rfl, hs24, ht⟩
      obtain ⟨hc26, ht⟩ := ht
      refine ab_iast (sh_k hs24 52 14 (by decide) rfl) hc26 dX3_step_64 ?_
      refine Wp.nm fun h27 e28 => ?_
      have ht := ht h27 e28
      have hs29 : Sh h27 := by rw [e28]; exact sh_si hs24
      refine ab_iinc (i := 3) (x := x3) (v := (x3 + 1)) (L' := [some (.ref 43), some (.int x1), some (.int x2), some (.int (x3 + 1))]) dX3_step_65 rfl rfl (by exact (Nat.le_of_ble_eq_true rfl)) rfl rfl ?_
      refine ab_goto (tgt := 30) dX3_step_68 (by decide) ?_
      exact Wp.fewer (L' := [some (.ref 43), some (.int x1), some (.int x2), some (.int (x3 + 1))]) (show ab_leL _ _ from ⟨rfl, ⟨rfl, ⟨rfl, ⟨rfl, trivial⟩⟩⟩⟩) ht
    · have ht := ht.2 c22
      refine ab_iconst (v := 0) dX3_step_54 (by decide) ?_
      refine ab_goto (tgt := 64) dX3_step_55 (by decide) ?_
      obtain ⟨hc30, ht⟩ := ht
      refine ab_iast (sh_k hs 52 14 (by decide) rfl) hc30 dX3_step_64 ?_
      refine Wp.nm fun h31 e32 => ?_
      have ht := ht h31 e32
      have hs33 : Sh h31 := by rw [e32]; exact sh_si hs
      refine ab_iinc (i := 3) (x := x3) (v := (x3 + 1)) (L' := [some (.ref 43), some (.int x1), some (.int x2), some (.int (x3 + 1))]) dX3_step_65 rfl rfl (by exact (Nat.le_of_ble_eq_true rfl)) rfl rfl ?_
      refine ab_goto (tgt := 30) dX3_step_68 (by decide) ?_
      exact Wp.fewer (L' := [some (.ref 43), some (.int x1), some (.int x2), some (.int (x3 + 1))]) (show ab_leL _ _ from ⟨rfl, ⟨rfl, ⟨rfl, ⟨rfl, trivial⟩⟩⟩⟩) ht
set_option maxRecDepth 20000 in
theorem T_X3_step_73 {Q : Option Value → ah_T → Prop} {h : ah_T} (hs : Sh h) (x1 : Int32) (x2 : Int32) (x3 : Int32) (ht : (((ah_i h 43 0) ≤ x3 → (Mt mX3_finish [.ref 43, .int x1, .int x2] h (ab_qi fun v37 h35 => Sh h35 ∧ Q (some (.int v37)) h35))) ∧ (¬ (ah_i h 43 0) ≤ x3 → (vp_in x3 (ah_n h 52)) ∧ (((ah_i h 52 (Int32.toNatClampNeg x3)) = 0 → Wp mX3_step Q 0 0 73 [some (.ref 43), some (.int x1), some (.int x2), some (.int (x3 + 1))] [] h) ∧ (¬ (ah_i h 52 (Int32.toNatClampNeg x3)) = 0 → (Mt mX3_yields [.ref 43, .int x3] h (ab_qi fun v42 h40 => Sh h40 ∧ ((v42 = 0 → Wp mX3_step Q 0 0 73 [some (.ref 43), some (.int x1), some (.int x2), some (.int (x3 + 1))] [] h40) ∧ (¬ v42 = 0 → Wp mX3_step Q 0 0 73 [some (.ref 43), some (.int x1), some (.int (x2 ||| ((1 : Int32) <<< (x3 &&& 31)))), some (.int (x3 + 1))] [] h40))))))))) : Wp mX3_step Q 0 0 73 [some (.ref 43), some (.int x1), some (.int x2), some (.int x3)] [] h := by
  refine ab_iload_n (i := 3) dX3_step_73 rfl rfl ?_
  refine ab_aload_n (i := 0) dX3_step_74 rfl rfl ?_
  refine ab_getI f_X3_9 rfl (sh_k hs 43 3 (by decide) rfl) dX3_step_75 ?_
  refine ab_icmp_ge (tgt := 110) dX3_step_78 (by decide) (fun c34 => ?_) (fun c34 => ?_)
  · have ht := ht.1 c34
    refine ab_aload_n (i := 0) dX3_step_110 rfl rfl ?_
    refine ab_iload_n (i := 1) dX3_step_111 rfl rfl ?_
    refine ab_iload_n (i := 2) dX3_step_112 rfl rfl ?_
    refine ab_callV (b := 43) (As := [.int x1, .int x2]) ht (Y_X3_finish) l_X3_140 in_X3_finish se_X3_finish (sh_k hs 43 3 (by decide) rfl) (by decide) rfl rfl ⟨(Nat.le_of_ble_eq_true rfl), (Nat.le_of_ble_eq_true rfl), (Nat.le_of_ble_eq_true rfl), (Nat.le_of_ble_eq_true rfl)⟩ dX3_step_113 ?_
    rintro _ h35 ⟨v37, rfl, hs36, ht⟩
    exact ab_iret rfl dX3_step_116 (Nat.le_of_ble_eq_true rfl) (Nat.le_of_ble_eq_true rfl) ht
  · have ht := ht.2 c34
    refine ab_aload_n (i := 0) dX3_step_81 rfl rfl ?_
    refine ab_getR (b := 52) f_X3_58 rfl (sh_k hs 43 3 (by decide) rfl) (sh_r hs 61 rfl) dX3_step_82 ?_
    refine ab_iload_n (i := 3) dX3_step_85 rfl rfl ?_
    obtain ⟨hc38, ht⟩ := ht
    refine ab_iald (sh_k hs 52 14 (by decide) rfl) hc38 dX3_step_86 ?_
    refine ab_if_eq (tgt := 104) dX3_step_87 (by decide) (fun c39 => ?_) (fun c39 => ?_)
    · have ht := ht.1 c39
      refine ab_iinc (i := 3) (x := x3) (v := (x3 + 1)) (L' := [some (.ref 43), some (.int x1), some (.int x2), some (.int (x3 + 1))]) dX3_step_104 rfl rfl (by exact (Nat.le_of_ble_eq_true rfl)) rfl rfl ?_
      refine ab_goto (tgt := 73) dX3_step_107 (by decide) ?_
      exact Wp.fewer (L' := [some (.ref 43), some (.int x1), some (.int x2), some (.int (x3 + 1))]) (show ab_leL _ _ from ⟨rfl, ⟨rfl, ⟨rfl, ⟨rfl, trivial⟩⟩⟩⟩) ht
    · have ht := ht.2 c39
      refine ab_aload_n (i := 0) dX3_step_90 rfl rfl ?_
      refine ab_iload_n (i := 3) dX3_step_91 rfl rfl ?_
      refine ab_callV (b := 43) (As := [.int x3]) ht (Y_X3_yields) l_X3_136 in_X3_yields se_X3_yields (sh_k hs 43 3 (by decide) rfl) (by decide) rfl rfl ⟨(Nat.le_of_ble_eq_true rfl), (Nat.le_of_ble_eq_true rfl), (Nat.le_of_ble_eq_true rfl), (Nat.le_of_ble_eq_true rfl)⟩ dX3_step_92 ?_
      rintro _ h40 ⟨v42, rfl, hs41, ht⟩
      refine ab_if_eq (tgt := 104) dX3_step_95 (by decide) (fun c43 => ?_) (fun c43 => ?_)
      · have ht := ht.1 c43
        refine ab_iinc (i := 3) (x := x3) (v := (x3 + 1)) (L' := [some (.ref 43), some (.int x1), some (.int x2), some (.int (x3 + 1))]) dX3_step_104 rfl rfl (by exact (Nat.le_of_ble_eq_true rfl)) rfl rfl ?_
        refine ab_goto (tgt := 73) dX3_step_107 (by decide) ?_
        exact Wp.fewer (L' := [some (.ref 43), some (.int x1), some (.int x2), some (.int (x3 + 1))]) (show ab_leL _ _ from ⟨rfl, ⟨rfl, ⟨rfl, ⟨rfl, trivial⟩⟩⟩⟩) ht
      · have ht := ht.2 c43
        refine ab_iload_n (i := 2) dX3_step_98 rfl rfl ?_
        refine ab_iconst (v := 1) dX3_step_99 (by decide) ?_
        refine ab_iload_n (i := 3) dX3_step_100 rfl rfl ?_
        refine ab_ishl dX3_step_101 ?_
        refine ab_ior dX3_step_102 ?_
        refine ab_istore_n (i := 2) (L' := [some (.ref 43), some (.int x1), some (.int (x2 ||| ((1 : Int32) <<< (x3 &&& 31)))), some (.int x3)]) dX3_step_103 rfl (by exact (Nat.le_of_ble_eq_true rfl)) rfl rfl ?_
        refine ab_iinc (i := 3) (x := x3) (v := (x3 + 1)) (L' := [some (.ref 43), some (.int x1), some (.int (x2 ||| ((1 : Int32) <<< (x3 &&& 31)))), some (.int (x3 + 1))]) dX3_step_104 rfl rfl (by exact (Nat.le_of_ble_eq_true rfl)) rfl rfl ?_
        refine ab_goto (tgt := 73) dX3_step_107 (by decide) ?_
        exact Wp.fewer (L' := [some (.ref 43), some (.int x1), some (.int (x2 ||| ((1 : Int32) <<< (x3 &&& 31)))), some (.int (x3 + 1))]) (show ab_leL _ _ from ⟨rfl, ⟨rfl, ⟨rfl, ⟨rfl, trivial⟩⟩⟩⟩) ht
set_option maxRecDepth 20000 in
theorem T_X3_step {Q : Option Value → ah_T → Prop} {h : ah_T} (hs : Sh h) (x1 : Int32) (ht : (Mt mX3_prepare [.ref 43, .int x1] h (ab_qv fun h1 => Sh h1 ∧ (Mt mX3_stirredLamps [.ref 43] h1 (ab_qi fun v6 h4 => Sh h4 ∧ ((¬ v6 = 0 → (Mt mX3_fleeing [.ref 43, .int x1] h4 (ab_qi fun v10 h8 => Sh h8 ∧ Wp mX3_step Q 0 0 30 [some (.ref 43), some (.int x1), some (.int v10), some (.int 0)] [] h8))) ∧ (v6 = 0 → (Mt mX3_movedLanterns [.ref 43, .int x1] h4 (ab_qi fun v13 h11 => Sh h11 ∧ ((v13 = 0 → (Mt mX3_finish [.ref 43, .int x1, .int 0] h11 (ab_qi fun v17 h15 => Sh h15 ∧ Q (some (.int v17)) h15))) ∧ (¬ v13 = 0 → (Mt mX3_fleeing [.ref 43, .int x1] h11 (ab_qi fun v20 h18 => Sh h18 ∧ Wp mX3_step Q 0 0 30 [some (.ref 43), some (.int x1), some (.int v20), some (.int 0)] [] h18))))))))))))) : Mt mX3_step [.ref 43, .int x1] h Q := by
  refine Mt.ofWp rfl (by exact (Nat.le_of_ble_eq_true rfl)) (Wp.fewer (L' := [some (.ref 43), some (.int x1), none, none]) (show ab_leL _ _ from ⟨rfl, ⟨rfl, trivial⟩⟩) ?_)
  refine ab_aload_n (i := 0) dX3_step_0 rfl rfl ?_
  refine ab_iload_n (i := 1) dX3_step_1 rfl rfl ?_
  refine ab_callV (b := 43) (As := [.int x1]) ht (Y_X3_prepare) l_X3_118 in_X3_prepare se_X3_prepare (sh_k hs 43 3 (by decide) rfl) (by decide) rfl rfl ⟨(Nat.le_of_ble_eq_true rfl), (Nat.le_of_ble_eq_true rfl), (Nat.le_of_ble_eq_true rfl), (Nat.le_of_ble_eq_true rfl)⟩ dX3_step_2 ?_
  rintro _ h1 ⟨rfl, hs2, ht⟩
  refine ab_iconst (v := 0) dX3_step_5 (by decide) ?_
  refine ab_istore_n (i := 2) (L' := [some (.ref 43), some (.int x1), some (.int 0), none]) dX3_step_6 rfl (by exact (Nat.le_of_ble_eq_true rfl)) rfl rfl ?_
  refine ab_aload_n (i := 0) dX3_step_7 rfl rfl ?_
  refine ab_callV (b := 43) (As := []) ht (Y_X3_stirredLamps) l_X3_122 in_X3_stirredLamps se_X3_stirredLamps (sh_k hs2 43 3 (by decide) rfl) (by decide) rfl rfl ⟨(Nat.le_of_ble_eq_true rfl), (Nat.le_of_ble_eq_true rfl), (Nat.le_of_ble_eq_true rfl), (Nat.le_of_ble_eq_true rfl)⟩ dX3_step_8 ?_
  rintro _ h4 ⟨v6, rfl, hs5, ht⟩
  refine ab_if_ne (tgt := 22) dX3_step_11 (by decide) (fun c7 => ?_) (fun c7 => ?_)
  · have ht := ht.1 c7
    refine ab_aload_n (i := 0) dX3_step_22 rfl rfl ?_
    refine ab_iload_n (i := 1) dX3_step_23 rfl rfl ?_
    refine ab_callV (b := 43) (As := [.int x1]) ht (Y_X3_fleeing) l_X3_130 in_X3_fleeing se_X3_fleeing (sh_k hs5 43 3 (by decide) rfl) (by decide) rfl rfl ⟨(Nat.le_of_ble_eq_true rfl), (Nat.le_of_ble_eq_true rfl), (Nat.le_of_ble_eq_true rfl), (Nat.le_of_ble_eq_true rfl)⟩ dX3_step_24 ?_
    rintro _ h8 ⟨v10, rfl, hs9, ht⟩
    refine ab_istore_n (i := 2) (L' := [some (.ref 43), some (.int x1), some (.int v10), none]) dX3_step_27 rfl (by exact (Nat.le_of_ble_eq_true rfl)) rfl rfl ?_
    refine ab_iconst (v := 0) dX3_step_28 (by decide) ?_
    refine ab_istore_n (i := 3) (L' := [some (.ref 43), some (.int x1), some (.int v10), some (.int 0)]) dX3_step_29 rfl (by exact (Nat.le_of_ble_eq_true rfl)) rfl rfl ?_
    exact Wp.fewer (L' := [some (.ref 43), some (.int x1), some (.int v10), some (.int 0)]) (show ab_leL _ _ from ⟨rfl, ⟨rfl, ⟨rfl, ⟨rfl, trivial⟩⟩⟩⟩) ht
  · have ht := ht.2 c7
    refine ab_aload_n (i := 0) dX3_step_14 rfl rfl ?_
    refine ab_iload_n (i := 1) dX3_step_15 rfl rfl ?_
    refine ab_callV (b := 43) (As := [.int x1]) ht (Y_X3_movedLanterns) l_X3_126 in_X3_movedLanterns se_X3_movedLanterns (sh_k hs5 43 3 (by decide) rfl) (by decide) rfl rfl ⟨(Nat.le_of_ble_eq_true rfl), (Nat.le_of_ble_eq_true rfl), (Nat.le_of_ble_eq_true rfl), (Nat.le_of_ble_eq_true rfl)⟩ dX3_step_16 ?_
    rintro _ h11 ⟨v13, rfl, hs12, ht⟩
    refine ab_if_eq (tgt := 110) dX3_step_19 (by decide) (fun c14 => ?_) (fun c14 => ?_)
    · have ht := ht.1 c14
      refine ab_aload_n (i := 0) dX3_step_110 rfl rfl ?_
      refine ab_iload_n (i := 1) dX3_step_111 rfl rfl ?_
      refine ab_iload_n (i := 2) dX3_step_112 rfl rfl ?_
      refine ab_callV (b := 43) (As := [.int x1, .int 0]) ht (Y_X3_finish) l_X3_140 in_X3_finish se_X3_finish (sh_k hs12 43 3 (by decide) rfl) (by decide) rfl rfl ⟨(Nat.le_of_ble_eq_true rfl), (Nat.le_of_ble_eq_true rfl), (Nat.le_of_ble_eq_true rfl), (Nat.le_of_ble_eq_true rfl)⟩ dX3_step_113 ?_
      rintro _ h15 ⟨v17, rfl, hs16, ht⟩
      exact ab_iret rfl dX3_step_116 (Nat.le_of_ble_eq_true rfl) (Nat.le_of_ble_eq_true rfl) ht
    · have ht := ht.2 c14
      refine ab_aload_n (i := 0) dX3_step_22 rfl rfl ?_
      refine ab_iload_n (i := 1) dX3_step_23 rfl rfl ?_
      refine ab_callV (b := 43) (As := [.int x1]) ht (Y_X3_fleeing) l_X3_130 in_X3_fleeing se_X3_fleeing (sh_k hs12 43 3 (by decide) rfl) (by decide) rfl rfl ⟨(Nat.le_of_ble_eq_true rfl), (Nat.le_of_ble_eq_true rfl), (Nat.le_of_ble_eq_true rfl), (Nat.le_of_ble_eq_true rfl)⟩ dX3_step_24 ?_
      rintro _ h18 ⟨v20, rfl, hs19, ht⟩
      refine ab_istore_n (i := 2) (L' := [some (.ref 43), some (.int x1), some (.int v20), none]) dX3_step_27 rfl (by exact (Nat.le_of_ble_eq_true rfl)) rfl rfl ?_
      refine ab_iconst (v := 0) dX3_step_28 (by decide) ?_
      refine ab_istore_n (i := 3) (L' := [some (.ref 43), some (.int x1), some (.int v20), some (.int 0)]) dX3_step_29 rfl (by exact (Nat.le_of_ble_eq_true rfl)) rfl rfl ?_
      exact Wp.fewer (L' := [some (.ref 43), some (.int x1), some (.int v20), some (.int 0)]) (show ab_leL _ _ from ⟨rfl, ⟨rfl, ⟨rfl, ⟨rfl, trivial⟩⟩⟩⟩) ht
theorem dX3_prepare_0 : decode cX3_prepare 0 = .ok (.aload_n 0, 1) := by decide +kernel
theorem dX3_prepare_1 : decode cX3_prepare 1 = .ok (.getfield 52, 3) := by decide +kernel
theorem dX3_prepare_4 : decode cX3_prepare 4 = .ok (.iload_n 1, 1) := by decide +kernel
theorem dX3_prepare_5 : decode cX3_prepare 5 = .ok (.iaload, 1) := by decide +kernel
theorem dX3_prepare_6 : decode cX3_prepare 6 = .ok (.istore_n 2, 1) := by decide +kernel
theorem dX3_prepare_7 : decode cX3_prepare 7 = .ok (.iconst 0, 1) := by decide +kernel
theorem dX3_prepare_8 : decode cX3_prepare 8 = .ok (.istore_n 3, 1) := by decide +kernel
theorem dX3_prepare_9 : decode cX3_prepare 9 = .ok (.iload_n 3, 1) := by decide +kernel
theorem dX3_prepare_10 : decode cX3_prepare 10 = .ok (.bipush 24, 2) := by decide +kernel
theorem dX3_prepare_12 : decode cX3_prepare 12 = .ok (.if_icmp .ge 100, 3) := by decide +kernel
theorem dX3_prepare_15 : decode cX3_prepare 15 = .ok (.iload_n 2, 1) := by decide +kernel
theorem dX3_prepare_16 : decode cX3_prepare 16 = .ok (.iconst (-1), 1) := by decide +kernel
theorem dX3_prepare_17 : decode cX3_prepare 17 = .ok (.if_icmp .eq 95, 3) := by decide +kernel
theorem dX3_prepare_20 : decode cX3_prepare 20 = .ok (.aload_n 0, 1) := by decide +kernel
theorem dX3_prepare_21 : decode cX3_prepare 21 = .ok (.getfield 64, 3) := by decide +kernel
theorem dX3_prepare_24 : decode cX3_prepare 24 = .ok (.getfield 96, 3) := by decide +kernel
theorem dX3_prepare_27 : decode cX3_prepare 27 = .ok (.iload_n 2, 1) := by decide +kernel
theorem dX3_prepare_28 : decode cX3_prepare 28 = .ok (.iconst 0, 1) := by decide +kernel
theorem dX3_prepare_29 : decode cX3_prepare 29 = .ok (.invokevirtual 86, 3) := by decide +kernel
theorem dX3_prepare_32 : decode cX3_prepare 32 = .ok (.istore 4, 2) := by decide +kernel
theorem dX3_prepare_34 : decode cX3_prepare 34 = .ok (.aload_n 0, 1) := by decide +kernel
theorem dX3_prepare_35 : decode cX3_prepare 35 = .ok (.getfield 64, 3) := by decide +kernel
theorem dX3_prepare_38 : decode cX3_prepare 38 = .ok (.getfield 96, 3) := by decide +kernel
theorem dX3_prepare_41 : decode cX3_prepare 41 = .ok (.iload_n 2, 1) := by decide +kernel
theorem dX3_prepare_42 : decode cX3_prepare 42 = .ok (.iconst 2, 1) := by decide +kernel
theorem dX3_prepare_43 : decode cX3_prepare 43 = .ok (.invokevirtual 86, 3) := by decide +kernel
theorem dX3_prepare_46 : decode cX3_prepare 46 = .ok (.ifCond .ne 36, 3) := by decide +kernel
theorem dX3_prepare_49 : decode cX3_prepare 49 = .ok (.aload_n 0, 1) := by decide +kernel
theorem dX3_prepare_50 : decode cX3_prepare 50 = .ok (.dup, 1) := by decide +kernel
theorem dX3_prepare_51 : decode cX3_prepare 51 = .ok (.getfield 28, 3) := by decide +kernel
theorem dX3_prepare_54 : decode cX3_prepare 54 = .ok (.iconst 1, 1) := by decide +kernel
theorem dX3_prepare_55 : decode cX3_prepare 55 = .ok (.iload 4, 2) := by decide +kernel
theorem dX3_prepare_57 : decode cX3_prepare 57 = .ok (.ishl, 1) := by decide +kernel
theorem dX3_prepare_58 : decode cX3_prepare 58 = .ok (.iconst (-1), 1) := by decide +kernel
theorem dX3_prepare_59 : decode cX3_prepare 59 = .ok (.ixor, 1) := by decide +kernel
theorem dX3_prepare_60 : decode cX3_prepare 60 = .ok (.iand, 1) := by decide +kernel
theorem dX3_prepare_61 : decode cX3_prepare 61 = .ok (.putfield 28, 3) := by decide +kernel
theorem dX3_prepare_64 : decode cX3_prepare 64 = .ok (.aload_n 0, 1) := by decide +kernel
theorem dX3_prepare_65 : decode cX3_prepare 65 = .ok (.dup, 1) := by decide +kernel
theorem dX3_prepare_66 : decode cX3_prepare 66 = .ok (.getfield 46, 3) := by decide +kernel
theorem dX3_prepare_69 : decode cX3_prepare 69 = .ok (.iconst 1, 1) := by decide +kernel
theorem dX3_prepare_70 : decode cX3_prepare 70 = .ok (.iload 4, 2) := by decide +kernel
theorem dX3_prepare_72 : decode cX3_prepare 72 = .ok (.ishl, 1) := by decide +kernel
theorem dX3_prepare_73 : decode cX3_prepare 73 = .ok (.iconst (-1), 1) := by decide +kernel
theorem dX3_prepare_74 : decode cX3_prepare 74 = .ok (.ixor, 1) := by decide +kernel
theorem dX3_prepare_75 : decode cX3_prepare 75 = .ok (.iand, 1) := by decide +kernel
theorem dX3_prepare_76 : decode cX3_prepare 76 = .ok (.putfield 46, 3) := by decide +kernel
theorem dX3_prepare_79 : decode cX3_prepare 79 = .ok (.goto 20, 3) := by decide +kernel
theorem dX3_prepare_82 : decode cX3_prepare 82 = .ok (.aload_n 0, 1) := by decide +kernel
theorem dX3_prepare_83 : decode cX3_prepare 83 = .ok (.getfield 22, 3) := by decide +kernel
theorem dX3_prepare_86 : decode cX3_prepare 86 = .ok (.iload 4, 2) := by decide +kernel
theorem dX3_prepare_88 : decode cX3_prepare 88 = .ok (.iaload, 1) := by decide +kernel
theorem dX3_prepare_89 : decode cX3_prepare 89 = .ok (.ifCond .le 10, 3) := by decide +kernel
theorem dX3_prepare_92 : decode cX3_prepare 92 = .ok (.aload_n 0, 1) := by decide +kernel
theorem dX3_prepare_93 : decode cX3_prepare 93 = .ok (.iload 4, 2) := by decide +kernel
theorem dX3_prepare_95 : decode cX3_prepare 95 = .ok (.iload_n 1, 1) := by decide +kernel
theorem dX3_prepare_96 : decode cX3_prepare 96 = .ok (.invokevirtual 143, 3) := by decide +kernel
theorem dX3_prepare_99 : decode cX3_prepare 99 = .ok (.aload_n 0, 1) := by decide +kernel
theorem dX3_prepare_100 : decode cX3_prepare 100 = .ok (.getfield 55, 3) := by decide +kernel
theorem dX3_prepare_103 : decode cX3_prepare 103 = .ok (.iload_n 2, 1) := by decide +kernel
theorem dX3_prepare_104 : decode cX3_prepare 104 = .ok (.iaload, 1) := by decide +kernel
theorem dX3_prepare_105 : decode cX3_prepare 105 = .ok (.istore_n 2, 1) := by decide +kernel
theorem dX3_prepare_106 : decode cX3_prepare 106 = .ok (.iinc 3 1, 3) := by decide +kernel
theorem dX3_prepare_109 : decode cX3_prepare 109 = .ok (.goto (-100), 3) := by decide +kernel
theorem dX3_prepare_112 : decode cX3_prepare 112 = .ok (.iconst 0, 1) := by decide +kernel
theorem dX3_prepare_113 : decode cX3_prepare 113 = .ok (.istore_n 3, 1) := by decide +kernel
theorem dX3_prepare_114 : decode cX3_prepare 114 = .ok (.iload_n 3, 1) := by decide +kernel
theorem dX3_prepare_115 : decode cX3_prepare 115 = .ok (.aload_n 0, 1) := by decide +kernel
theorem dX3_prepare_116 : decode cX3_prepare 116 = .ok (.getfield 9, 3) := by decide +kernel
theorem dX3_prepare_119 : decode cX3_prepare 119 = .ok (.if_icmp .ge 53, 3) := by decide +kernel
theorem dX3_prepare_122 : decode cX3_prepare 122 = .ok (.aload_n 0, 1) := by decide +kernel
theorem dX3_prepare_123 : decode cX3_prepare 123 = .ok (.getfield 46, 3) := by decide +kernel
theorem dX3_prepare_126 : decode cX3_prepare 126 = .ok (.ifCond .eq 46, 3) := by decide +kernel
theorem dX3_prepare_129 : decode cX3_prepare 129 = .ok (.aload_n 0, 1) := by decide +kernel
theorem dX3_prepare_130 : decode cX3_prepare 130 = .ok (.getfield 46, 3) := by decide +kernel
theorem dX3_prepare_133 : decode cX3_prepare 133 = .ok (.iload_n 3, 1) := by decide +kernel
theorem dX3_prepare_134 : decode cX3_prepare 134 = .ok (.ishr, 1) := by decide +kernel
theorem dX3_prepare_135 : decode cX3_prepare 135 = .ok (.iconst 1, 1) := by decide +kernel
theorem dX3_prepare_136 : decode cX3_prepare 136 = .ok (.iand, 1) := by decide +kernel
theorem dX3_prepare_137 : decode cX3_prepare 137 = .ok (.ifCond .eq 29, 3) := by decide +kernel
theorem dX3_prepare_140 : decode cX3_prepare 140 = .ok (.iload_n 1, 1) := by decide +kernel
theorem dX3_prepare_141 : decode cX3_prepare 141 = .ok (.aload_n 0, 1) := by decide +kernel
theorem dX3_prepare_142 : decode cX3_prepare 142 = .ok (.getfield 25, 3) := by decide +kernel
theorem dX3_prepare_145 : decode cX3_prepare 145 = .ok (.iload_n 3, 1) := by decide +kernel
theorem dX3_prepare_146 : decode cX3_prepare 146 = .ok (.iaload, 1) := by decide +kernel
theorem dX3_prepare_147 : decode cX3_prepare 147 = .ok (.isub, 1) := by decide +kernel
theorem dX3_prepare_148 : decode cX3_prepare 148 = .ok (.aload_n 0, 1) := by decide +kernel
theorem dX3_prepare_149 : decode cX3_prepare 149 = .ok (.getfield 64, 3) := by decide +kernel
theorem dX3_prepare_152 : decode cX3_prepare 152 = .ok (.getfield 147, 3) := by decide +kernel
theorem dX3_prepare_155 : decode cX3_prepare 155 = .ok (.iconst 1, 1) := by decide +kernel
theorem dX3_prepare_156 : decode cX3_prepare 156 = .ok (.iaload, 1) := by decide +kernel
theorem dX3_prepare_157 : decode cX3_prepare 157 = .ok (.if_icmp .lt 9, 3) := by decide +kernel
theorem dX3_prepare_160 : decode cX3_prepare 160 = .ok (.aload_n 0, 1) := by decide +kernel
theorem dX3_prepare_161 : decode cX3_prepare 161 = .ok (.iload_n 3, 1) := by decide +kernel
theorem dX3_prepare_162 : decode cX3_prepare 162 = .ok (.iload_n 1, 1) := by decide +kernel
theorem dX3_prepare_163 : decode cX3_prepare 163 = .ok (.invokevirtual 143, 3) := by decide +kernel
theorem dX3_prepare_166 : decode cX3_prepare 166 = .ok (.iinc 3 1, 3) := by decide +kernel
theorem dX3_prepare_169 : decode cX3_prepare 169 = .ok (.goto (-55), 3) := by decide +kernel
theorem dX3_prepare_172 : decode cX3_prepare 172 = .ok (.return_, 1) := by decide +kernel
set_option maxRecDepth 20000 in
theorem T_X3_prepare_9 {Q : Option Value → ah_T → Prop} {h : ah_T} (hs : Sh h) (x1 : Int32) (x2 : Int32) (x3 : Int32) (ht : ((24 ≤ x3 → Wp mX3_prepare Q 0 0 114 [some (.ref 43), some (.int x1), none, some (.int 0), none] [] h) ∧ (¬ 24 ≤ x3 → ((x2 = (-1) → Wp mX3_prepare Q 0 0 114 [some (.ref 43), some (.int x1), none, some (.int 0), none] [] h) ∧ (¬ x2 = (-1) → (Mt mX7_get [.ref 6, .int x2, .int 0] h (ab_qi fun v6 h4 => Sh h4 ∧ (Mt mX7_get [.ref 6, .int x2, .int 2] h4 (ab_qi fun v9 h7 => Sh h7 ∧ ((¬ v9 = 0 → (vp_in v6 (ah_n h7 46)) ∧ (((ah_i h7 46 (Int32.toNatClampNeg v6)) ≤ 0 → (vp_in x2 (ah_n h7 51)) ∧ Wp mX3_prepare Q 0 0 9 [some (.ref 43), some (.int x1), some (.int (ah_i h7 51 (Int32.toNatClampNeg x2))), some (.int (x3 + 1)), none] [] h7) ∧ (¬ (ah_i h7 46 (Int32.toNatClampNeg v6)) ≤ 0 → (Mt mX3_kindle [.ref 43, .int v6, .int x1] h7 (ab_qv fun h14 => Sh h14 ∧ (vp_in x2 (ah_n h14 51)) ∧ Wp mX3_prepare Q 0 0 9 [some (.ref 43), some (.int x1), some (.int (ah_i h14 51 (Int32.toNatClampNeg x2))), some (.int (x3 + 1)), none] [] h14))))) ∧ (v9 = 0 → (∀ h18, h18 = ah_si h7 43 5 ((ah_i h7 43 5) &&& (((1 : Int32) <<< (v6 &&& 31)) ^^^ (-1))) → (∀ h21, h21 = ah_si h18 43 14 ((ah_i h18 43 14) &&& (((1 : Int32) <<< (v6 &&& 31)) ^^^ (-1))) → (vp_in x2 (ah_n h21 51)) ∧ Wp mX3_prepare Q 0 0 9 [some (.ref 43), some (.int x1), some (.int (ah_i h21 51 (Int32.toNatClampNeg x2))), some (.int (x3 + 1)), none] [] h21))))))))))))) : Wp mX3_prepare Q 0 0 9 [some (.ref 43), some (.int x1), some (.int x2), some (.int x3), none] [] h := by
  refine ab_iload_n (i := 3) dX3_prepare_9 rfl rfl ?_
  refine ab_bipush (v := 24) dX3_prepare_10 (by decide) ?_
  refine ab_icmp_ge (tgt := 112) dX3_prepare_12 (by decide) (fun c2 => ?_) (fun c2 => ?_)
  · have ht := ht.1 c2
    refine ab_iconst (v := 0) dX3_prepare_112 (by decide) ?_
    refine ab_istore_n (i := 3) (L' := [some (.ref 43), some (.int x1), some (.int x2), some (.int 0), none]) dX3_prepare_113 rfl (by exact (Nat.le_of_ble_eq_true rfl)) rfl rfl ?_
    exact Wp.fewer (L' := [some (.ref 43), some (.int x1), none, some (.int 0), none]) (show ab_leL _ _ from ⟨rfl, ⟨rfl, ⟨rfl, trivial⟩⟩⟩) ht
  · have ht := ht.2 c2
    refine ab_iload_n (i := 2) dX3_prepare_15 rfl rfl ?_
    refine ab_iconst (v := (-1)) dX3_prepare_16 (by decide) ?_
    refine ab_icmp_eq (tgt := 112) dX3_prepare_17 (by decide) (fun c3 => ?_) (fun c3 => ?_)
    · have ht := ht.1 c3
      refine ab_iconst (v := 0) dX3_prepare_112 (by decide) ?_
      refine ab_istore_n (i := 3) (L' := [some (.ref 43), some (.int x1), some (.int x2), some (.int 0), none]) dX3_prepare_113 rfl (by exact (Nat.le_of_ble_eq_true rfl)) rfl rfl ?_
      exact Wp.fewer (L' := [some (.ref 43), some (.int x1), none, some (.int 0), none]) (show ab_leL _ _ from ⟨rfl, ⟨rfl, ⟨rfl, trivial⟩⟩⟩) ht
    · have ht := ht.2 c3
      refine ab_aload_n (i := 0) dX3_prepare_20 rfl rfl ?_
      refine ab_getR (b := 1) f_X3_64 rfl (sh_k hs 43 3 (by decide) rfl) (sh_r hs 56 rfl) dX3_prepare_21 ?_
      refine ab_getR (b := 6) f_X3_96 rfl (sh_k hs 1 10 (by decide) rfl) (sh_r hs 15 rfl) dX3_prepare_24 ?_
      refine ab_iload_n (i := 2) dX3_prepare_27 rfl rfl ?_
      refine ab_iconst (v := 0) dX3_prepare_28 (by decide) ?_
      refine ab_callV (b := 6) (As := [.int x2, .int 0]) ht (Y_X7_get) l_X3_86 in_X7_get se_X7_get (sh_k hs 6 7 (by decide) rfl) (by decide) rfl rfl ⟨(Nat.le_of_ble_eq_true rfl), (Nat.le_of_ble_eq_true rfl), (Nat.le_of_ble_eq_true rfl), (Nat.le_of_ble_eq_true rfl)⟩ dX3_prepare_29 ?_
      rintro _ h4 ⟨v6, rfl, hs5, ht⟩
      refine ab_istore (i := 4) (L' := [some (.ref 43), some (.int x1), some (.int x2), some (.int x3), some (.int v6)]) dX3_prepare_32 (by exact (Nat.le_of_ble_eq_true rfl)) rfl rfl ?_
      refine ab_aload_n (i := 0) dX3_prepare_34 rfl rfl ?_
      refine ab_getR (b := 1) f_X3_64 rfl (sh_k hs5 43 3 (by decide) rfl) (sh_r hs5 56 rfl) dX3_prepare_35 ?_
      refine ab_getR (b := 6) f_X3_96 rfl (sh_k hs5 1 10 (by decide) rfl) (sh_r hs5 15 rfl) dX3_prepare_38 ?_
      refine ab_iload_n (i := 2) dX3_prepare_41 rfl rfl ?_
      refine ab_iconst (v := 2) dX3_prepare_42 (by decide) ?_
      refine ab_callV (b := 6) (As := [.int x2, .int 2]) ht (Y_X7_get) l_X3_86 in_X7_get se_X7_get (sh_k hs5 6 7 (by decide) rfl) (by decide) rfl rfl ⟨(Nat.le_of_ble_eq_true rfl), (Nat.le_of_ble_eq_true rfl), (Nat.le_of_ble_eq_true rfl), (Nat.le_of_ble_eq_true rfl)⟩ dX3_prepare_43 ?_
      rintro _ h7 ⟨v9, rfl, hs8, ht⟩
      refine ab_if_ne (tgt := 82) dX3_prepare_46 (by decide) (fun c10 => ?_) (fun c10 => ?_)
      · have ht := ht.1 c10
        refine ab_aload_n (i := 0) dX3_prepare_82 rfl rfl ?_
        refine ab_getR (b := 46) f_X3_22 rfl (sh_k hs8 43 3 (by decide) rfl) (sh_r hs8 52 rfl) dX3_prepare_83 ?_
        refine ab_iload (i := 4) dX3_prepare_86 rfl ?_
        obtain ⟨hc11, ht⟩ := ht
        refine ab_iald (sh_k hs8 46 14 (by decide) rfl) hc11 dX3_prepare_88 ?_
        refine ab_if_le (tgt := 99) dX3_prepare_89 (by decide) (fun c12 => ?_) (fun c12 => ?_)
        · have ht := ht.1 c12
          refine ab_aload_n (i := 0) dX3_prepare_99 rfl rfl ?_
          refine ab_getR (b := 51) f_X3_55 rfl (sh_k hs8 43 3 (by decide) rfl) (sh_r hs8 60 rfl) dX3_prepare_100 ?_
          refine ab_iload_n (i := 2) dX3_prepare_103 rfl rfl ?_
          obtain ⟨hc13, ht⟩ := ht
          refine ab_iald (sh_k hs8 51 14 (by decide) rfl) hc13 dX3_prepare_104 ?_
          refine ab_istore_n (i := 2) (L' := [some (.ref 43), some (.int x1), some (.int (ah_i h7 51 (Int32.toNatClampNeg x2))), some (.int x3), some (.int v6)]) dX3_prepare_105 rfl (by exact (Nat.le_of_ble_eq_true rfl)) rfl rfl ?_
          refine ab_iinc (i := 3) (x := x3) (v := (x3 + 1)) (L' := [some (.ref 43), some (.int x1), some (.int (ah_i h7 51 (Int32.toNatClampNeg x2))), some (.int (x3 + 1)), some (.int v6)]) dX3_prepare_106 rfl rfl (by exact (Nat.le_of_ble_eq_true rfl)) rfl rfl ?_
          refine ab_goto (tgt := 9) dX3_prepare_109 (by decide) ?_
          exact Wp.fewer (L' := [some (.ref 43), some (.int x1), some (.int (ah_i h7 51 (Int32.toNatClampNeg x2))), some (.int (x3 + 1)), none]) (show ab_leL _ _ from ⟨rfl, ⟨rfl, ⟨rfl, ⟨rfl, trivial⟩⟩⟩⟩) ht
        · have ht := ht.2 c12
          refine ab_aload_n (i := 0) dX3_prepare_92 rfl rfl ?_
          refine ab_iload (i := 4) dX3_prepare_93 rfl ?_
          refine ab_iload_n (i := 1) dX3_prepare_95 rfl rfl ?_
          refine ab_callV (b := 43) (As := [.int v6, .int x1]) ht (Y_X3_kindle) l_X3_143 in_X3_kindle se_X3_kindle (sh_k hs8 43 3 (by decide) rfl) (by decide) rfl rfl ⟨(Nat.le_of_ble_eq_true rfl), (Nat.le_of_ble_eq_true rfl), (Nat.le_of_ble_eq_true rfl), (Nat.le_of_ble_eq_true rfl)⟩ dX3_prepare_96 ?_
          rintro _ h14 ⟨rfl, hs15, ht⟩
          refine ab_aload_n (i := 0) dX3_prepare_99 rfl rfl ?_
          refine ab_getR (b := 51) f_X3_55 rfl (sh_k hs15 43 3 (by decide) rfl) (sh_r hs15 60 rfl) dX3_prepare_100 ?_
          refine ab_iload_n (i := 2) dX3_prepare_103 rfl rfl ?_
          obtain ⟨hc17, ht⟩ := ht
          refine ab_iald (sh_k hs15 51 14 (by decide) rfl) hc17 dX3_prepare_104 ?_
          refine ab_istore_n (i := 2) (L' := [some (.ref 43), some (.int x1), some (.int (ah_i h14 51 (Int32.toNatClampNeg x2))), some (.int x3), some (.int v6)]) dX3_prepare_105 rfl (by exact (Nat.le_of_ble_eq_true rfl)) rfl rfl ?_
          refine ab_iinc (i := 3) (x := x3) (v := (x3 + 1)) (L' := [some (.ref 43), some (.int x1), some (.int (ah_i h14 51 (Int32.toNatClampNeg x2))), some (.int (x3 + 1)), some (.int v6)]) dX3_prepare_106 rfl rfl (by exact (Nat.le_of_ble_eq_true rfl)) rfl rfl ?_
          refine ab_goto (tgt := 9) dX3_prepare_109 (by decide) ?_
          exact Wp.fewer (L' := [some (.ref 43), some (.int x1), some (.int (ah_i h14 51 (Int32.toNatClampNeg x2))), some (.int (x3 + 1)), none]) (show ab_leL _ _ from ⟨rfl, ⟨rfl, ⟨rfl, ⟨rfl, trivial⟩⟩⟩⟩) ht
      · have ht := ht.2 c10
        refine ab_aload_n (i := 0) dX3_prepare_49 rfl rfl ?_
        refine ab_dup dX3_prepare_50 rfl ?_
        refine ab_getI f_X3_28 rfl (sh_k hs8 43 3 (by decide) rfl) dX3_prepare_51 ?_
        refine ab_iconst (v := 1) dX3_prepare_54 (by decide) ?_
        refine ab_iload (i := 4) dX3_prepare_55 rfl ?_
        refine ab_ishl dX3_prepare_57 ?_
        refine ab_iconst (v := (-1)) dX3_prepare_58 (by decide) ?_
        refine ab_ixor dX3_prepare_59 ?_
        refine ab_iand dX3_prepare_60 ?_
        refine ab_putI f_X3_28 (Or.inl rfl) rfl (sh_k hs8 43 3 (by decide) rfl) rfl rfl dX3_prepare_61 ?_
        refine Wp.nm fun h18 e19 => ?_
        have ht := ht h18 e19
        have hs20 : Sh h18 := by rw [e19]; exact sh_si hs8
        refine ab_aload_n (i := 0) dX3_prepare_64 rfl rfl ?_
        refine ab_dup dX3_prepare_65 rfl ?_
        refine ab_getI f_X3_46 rfl (sh_k hs20 43 3 (by decide) rfl) dX3_prepare_66 ?_
        refine ab_iconst (v := 1) dX3_prepare_69 (by decide) ?_
        refine ab_iload (i := 4) dX3_prepare_70 rfl ?_
        refine ab_ishl dX3_prepare_72 ?_
        refine ab_iconst (v := (-1)) dX3_prepare_73 (by decide) ?_
        refine ab_ixor dX3_prepare_74 ?_
        refine ab_iand dX3_prepare_75 ?_
        refine ab_putI f_X3_46 (Or.inl rfl) rfl (sh_k hs20 43 3 (by decide) rfl) rfl rfl dX3_prepare_76 ?_
        refine Wp.nm fun h21 e22 => ?_
        have ht := ht h21 e22
        have hs23 : Sh h21 := by rw [e22]; exact sh_si hs20
        refine ab_goto (tgt := 99) dX3_prepare_79 (by decide) ?_
        refine ab_aload_n (i := 0) dX3_prepare_99 rfl rfl ?_
        refine ab_getR (b := 51) f_X3_55 rfl (sh_k hs23 43 3 (by decide) rfl) (sh_r hs23 60 rfl) dX3_prepare_100 ?_
        refine ab_iload_n (i := 2) dX3_prepare_103 rfl rfl ?_
        obtain ⟨hc24, ht⟩ := ht
        refine ab_iald (sh_k hs23 51 14 (by decide) rfl) hc24 dX3_prepare_104 ?_
        refine ab_istore_n (i := 2) (L' := [some (.ref 43), some (.int x1), some (.int (ah_i h21 51 (Int32.toNatClampNeg x2))), some (.int x3), some (.int v6)]) dX3_prepare_105 rfl (by exact (Nat.le_of_ble_eq_true rfl)) rfl rfl ?_
        refine ab_iinc (i := 3) (x := x3) (v := (x3 + 1)) (L' := [some (.ref 43), some (.int x1), some (.int (ah_i h21 51 (Int32.toNatClampNeg x2))), some (.int (x3 + 1)), some (.int v6)]) dX3_prepare_106 rfl rfl (by exact (Nat.le_of_ble_eq_true rfl)) rfl rfl ?_
        refine ab_goto (tgt := 9) dX3_prepare_109 (by decide) ?_
        exact Wp.fewer (L' := [some (.ref 43), some (.int x1), some (.int (ah_i h21 51 (Int32.toNatClampNeg x2))), some (.int (x3 + 1)), none]) (show ab_leL _ _ from ⟨rfl, ⟨rfl, ⟨rfl, ⟨rfl, trivial⟩⟩⟩⟩) ht
set_option maxRecDepth 20000 in
theorem T_X3_prepare_114 {Q : Option Value → ah_T → Prop} {h : ah_T} (hs : Sh h) (x1 : Int32) (x3 : Int32) (ht : (((ah_i h 43 0) ≤ x3 → Q none h) ∧ (¬ (ah_i h 43 0) ≤ x3 → (((ah_i h 43 14) = 0 → Q none h) ∧ (¬ (ah_i h 43 14) = 0 → (((((ah_i h 43 14) >>> (x3 &&& 31)) &&& 1) = 0 → Wp mX3_prepare Q 0 0 114 [some (.ref 43), some (.int x1), none, some (.int (x3 + 1)), none] [] h) ∧ (¬ (((ah_i h 43 14) >>> (x3 &&& 31)) &&& 1) = 0 → (vp_in x3 (ah_n h 47)) ∧ (((x1 - (ah_i h 47 (Int32.toNatClampNeg x3))) < (ah_i h 14 (Int32.toNatClampNeg 1)) → Wp mX3_prepare Q 0 0 114 [some (.ref 43), some (.int x1), none, some (.int (x3 + 1)), none] [] h) ∧ (¬ (x1 - (ah_i h 47 (Int32.toNatClampNeg x3))) < (ah_i h 14 (Int32.toNatClampNeg 1)) → (Mt mX3_kindle [.ref 43, .int x3, .int x1] h (ab_qv fun h30 => Sh h30 ∧ Wp mX3_prepare Q 0 0 114 [some (.ref 43), some (.int x1), none, some (.int (x3 + 1)), none] [] h30))))))))))) : Wp mX3_prepare Q 0 0 114 [some (.ref 43), some (.int x1), none, some (.int x3), none] [] h := by
  refine ab_iload_n (i := 3) dX3_prepare_114 rfl rfl ?_
  refine ab_aload_n (i := 0) dX3_prepare_115 rfl rfl ?_
  refine ab_getI f_X3_9 rfl (sh_k hs 43 3 (by decide) rfl) dX3_prepare_116 ?_
  refine ab_icmp_ge (tgt := 172) dX3_prepare_119 (by decide) (fun c25 => ?_) (fun c25 => ?_)
  · have ht := ht.1 c25
    exact ab_vret rfl dX3_prepare_172 (Nat.le_of_ble_eq_true rfl) (Nat.le_of_ble_eq_true rfl) ht
  · have ht := ht.2 c25
    refine ab_aload_n (i := 0) dX3_prepare_122 rfl rfl ?_
    refine ab_getI f_X3_46 rfl (sh_k hs 43 3 (by decide) rfl) dX3_prepare_123 ?_
    refine ab_if_eq (tgt := 172) dX3_prepare_126 (by decide) (fun c26 => ?_) (fun c26 => ?_)
    · have ht := ht.1 c26
      exact ab_vret rfl dX3_prepare_172 (Nat.le_of_ble_eq_true rfl) (Nat.le_of_ble_eq_true rfl) ht
    · have ht := ht.2 c26
      refine ab_aload_n (i := 0) dX3_prepare_129 rfl rfl ?_
      refine ab_getI f_X3_46 rfl (sh_k hs 43 3 (by decide) rfl) dX3_prepare_130 ?_
      refine ab_iload_n (i := 3) dX3_prepare_133 rfl rfl ?_
      refine ab_ishr dX3_prepare_134 ?_
      refine ab_iconst (v := 1) dX3_prepare_135 (by decide) ?_
      refine ab_iand dX3_prepare_136 ?_
      refine ab_if_eq (tgt := 166) dX3_prepare_137 (by decide) (fun c27 => ?_) (fun c27 => ?_)
      · have ht := ht.1 c27
        refine ab_iinc (i := 3) (x := x3) (v := (x3 + 1)) (L' := [some (.ref 43), some (.int x1), none, some (.int (x3 + 1)), none]) dX3_prepare_166 rfl rfl (by exact (Nat.le_of_ble_eq_true rfl)) rfl rfl ?_
        refine ab_goto (tgt := 114) dX3_prepare_169 (by decide) ?_
        exact Wp.fewer (L' := [some (.ref 43), some (.int x1), none, some (.int (x3 + 1)), none]) (show ab_leL _ _ from ⟨rfl, ⟨rfl, ⟨rfl, trivial⟩⟩⟩) ht
      · have ht := ht.2 c27
        refine ab_iload_n (i := 1) dX3_prepare_140 rfl rfl ?_
        refine ab_aload_n (i := 0) dX3_prepare_141 rfl rfl ?_
        refine ab_getR (b := 47) f_X3_25 rfl (sh_k hs 43 3 (by decide) rfl) (sh_r hs 53 rfl) dX3_prepare_142 ?_
        refine ab_iload_n (i := 3) dX3_prepare_145 rfl rfl ?_
        obtain ⟨hc28, ht⟩ := ht
        refine ab_iald (sh_k hs 47 14 (by decide) rfl) hc28 dX3_prepare_146 ?_
        refine ab_isub dX3_prepare_147 ?_
        refine ab_aload_n (i := 0) dX3_prepare_148 rfl rfl ?_
        refine ab_getR (b := 1) f_X3_64 rfl (sh_k hs 43 3 (by decide) rfl) (sh_r hs 56 rfl) dX3_prepare_149 ?_
        refine ab_getR (b := 14) f_X3_147 rfl (sh_k hs 1 10 (by decide) rfl) (sh_r hs 19 rfl) dX3_prepare_152 ?_
        refine ab_iconst (v := 1) dX3_prepare_155 (by decide) ?_
        refine ab_iald (sh_k hs 14 14 (by decide) rfl) (sh_in hs 14 3 (by decide) (by decide) rfl (by unfold vp_in; decide)) dX3_prepare_156 ?_
        refine ab_icmp_lt (tgt := 166) dX3_prepare_157 (by decide) (fun c29 => ?_) (fun c29 => ?_)
        · have ht := ht.1 c29
          refine ab_iinc (i := 3) (x := x3) (v := (x3 + 1)) (L' := [some (.ref 43), some (.int x1), none, some (.int (x3 + 1)), none]) dX3_prepare_166 rfl rfl (by exact (Nat.le_of_ble_eq_true rfl)) rfl rfl ?_
          refine ab_goto (tgt := 114) dX3_prepare_169 (by decide) ?_
          exact Wp.fewer (L' := [some (.ref 43), some (.int x1), none, some (.int (x3 + 1)), none]) (show ab_leL _ _ from ⟨rfl, ⟨rfl, ⟨rfl, trivial⟩⟩⟩) ht
        · have ht := ht.2 c29
          refine ab_aload_n (i := 0) dX3_prepare_160 rfl rfl ?_
          refine ab_iload_n (i := 3) dX3_prepare_161 rfl rfl ?_
          refine ab_iload_n (i := 1) dX3_prepare_162 rfl rfl ?_
          refine ab_callV (b := 43) (As := [.int x3, .int x1]) ht (Y_X3_kindle) l_X3_143 in_X3_kindle se_X3_kindle (sh_k hs 43 3 (by decide) rfl) (by decide) rfl rfl ⟨(Nat.le_of_ble_eq_true rfl), (Nat.le_of_ble_eq_true rfl), (Nat.le_of_ble_eq_true rfl), (Nat.le_of_ble_eq_true rfl)⟩ dX3_prepare_163 ?_
          rintro _ h30 ⟨rfl, hs31, ht⟩
          refine ab_iinc (i := 3) (x := x3) (v := (x3 + 1)) (L' := [some (.ref 43), some (.int x1), none, some (.int (x3 + 1)), none]) dX3_prepare_166 rfl rfl (by exact (Nat.le_of_ble_eq_true rfl)) rfl rfl ?_
          refine ab_goto (tgt := 114) dX3_prepare_169 (by decide) ?_
          exact Wp.fewer (L' := [some (.ref 43), some (.int x1), none, some (.int (x3 + 1)), none]) (show ab_leL _ _ from ⟨rfl, ⟨rfl, ⟨rfl, trivial⟩⟩⟩) ht
set_option maxRecDepth 20000 in
theorem T_X3_prepare {Q : Option Value → ah_T → Prop} {h : ah_T} (hs : Sh h) (x1 : Int32) (ht : (vp_in x1 (ah_n h 50)) ∧ Wp mX3_prepare Q 0 0 9 [some (.ref 43), some (.int x1), some (.int (ah_i h 50 (Int32.toNatClampNeg x1))), some (.int 0), none] [] h) : Mt mX3_prepare [.ref 43, .int x1] h Q := by
  refine Mt.ofWp rfl (by exact (Nat.le_of_ble_eq_true rfl)) (Wp.fewer (L' := [some (.ref 43), some (.int x1), none, none, none]) (show ab_leL _ _ from ⟨rfl, ⟨rfl, trivial⟩⟩) ?_)
  refine ab_aload_n (i := 0) dX3_prepare_0 rfl rfl ?_
  refine ab_getR (b := 50) f_X3_52 rfl (sh_k hs 43 3 (by decide) rfl) (sh_r hs 59 rfl) dX3_prepare_1 ?_
  refine ab_iload_n (i := 1) dX3_prepare_4 rfl rfl ?_
  obtain ⟨hc1, ht⟩ := ht
  refine ab_iald (sh_k hs 50 14 (by decide) rfl) hc1 dX3_prepare_5 ?_
  refine ab_istore_n (i := 2) (L' := [some (.ref 43), some (.int x1), some (.int (ah_i h 50 (Int32.toNatClampNeg x1))), none, none]) dX3_prepare_6 rfl (by exact (Nat.le_of_ble_eq_true rfl)) rfl rfl ?_
  refine ab_iconst (v := 0) dX3_prepare_7 (by decide) ?_
  refine ab_istore_n (i := 3) (L' := [some (.ref 43), some (.int x1), some (.int (ah_i h 50 (Int32.toNatClampNeg x1))), some (.int 0), none]) dX3_prepare_8 rfl (by exact (Nat.le_of_ble_eq_true rfl)) rfl rfl ?_
  exact Wp.fewer (L' := [some (.ref 43), some (.int x1), some (.int (ah_i h 50 (Int32.toNatClampNeg x1))), some (.int 0), none]) (show ab_leL _ _ from ⟨rfl, ⟨rfl, ⟨rfl, ⟨rfl, trivial⟩⟩⟩⟩) ht
theorem dX3_kindle_0 : decode cX3_kindle 0 = .ok (.aload_n 0, 1) := by decide +kernel
theorem dX3_kindle_1 : decode cX3_kindle 1 = .ok (.dup, 1) := by decide +kernel
theorem dX3_kindle_2 : decode cX3_kindle 2 = .ok (.getfield 28, 3) := by decide +kernel
theorem dX3_kindle_5 : decode cX3_kindle 5 = .ok (.iconst 1, 1) := by decide +kernel
theorem dX3_kindle_6 : decode cX3_kindle 6 = .ok (.iload_n 1, 1) := by decide +kernel
theorem dX3_kindle_7 : decode cX3_kindle 7 = .ok (.ishl, 1) := by decide +kernel
theorem dX3_kindle_8 : decode cX3_kindle 8 = .ok (.ior, 1) := by decide +kernel
theorem dX3_kindle_9 : decode cX3_kindle 9 = .ok (.putfield 28, 3) := by decide +kernel
theorem dX3_kindle_12 : decode cX3_kindle 12 = .ok (.aload_n 0, 1) := by decide +kernel
theorem dX3_kindle_13 : decode cX3_kindle 13 = .ok (.dup, 1) := by decide +kernel
theorem dX3_kindle_14 : decode cX3_kindle 14 = .ok (.getfield 31, 3) := by decide +kernel
theorem dX3_kindle_17 : decode cX3_kindle 17 = .ok (.iconst 1, 1) := by decide +kernel
theorem dX3_kindle_18 : decode cX3_kindle 18 = .ok (.iload_n 1, 1) := by decide +kernel
theorem dX3_kindle_19 : decode cX3_kindle 19 = .ok (.ishl, 1) := by decide +kernel
theorem dX3_kindle_20 : decode cX3_kindle 20 = .ok (.ior, 1) := by decide +kernel
theorem dX3_kindle_21 : decode cX3_kindle 21 = .ok (.putfield 31, 3) := by decide +kernel
theorem dX3_kindle_24 : decode cX3_kindle 24 = .ok (.aload_n 0, 1) := by decide +kernel
theorem dX3_kindle_25 : decode cX3_kindle 25 = .ok (.dup, 1) := by decide +kernel
theorem dX3_kindle_26 : decode cX3_kindle 26 = .ok (.getfield 46, 3) := by decide +kernel
theorem dX3_kindle_29 : decode cX3_kindle 29 = .ok (.iconst 1, 1) := by decide +kernel
theorem dX3_kindle_30 : decode cX3_kindle 30 = .ok (.iload_n 1, 1) := by decide +kernel
theorem dX3_kindle_31 : decode cX3_kindle 31 = .ok (.ishl, 1) := by decide +kernel
theorem dX3_kindle_32 : decode cX3_kindle 32 = .ok (.iconst (-1), 1) := by decide +kernel
theorem dX3_kindle_33 : decode cX3_kindle 33 = .ok (.ixor, 1) := by decide +kernel
theorem dX3_kindle_34 : decode cX3_kindle 34 = .ok (.iand, 1) := by decide +kernel
theorem dX3_kindle_35 : decode cX3_kindle 35 = .ok (.putfield 46, 3) := by decide +kernel
theorem dX3_kindle_38 : decode cX3_kindle 38 = .ok (.aload_n 0, 1) := by decide +kernel
theorem dX3_kindle_39 : decode cX3_kindle 39 = .ok (.getfield 25, 3) := by decide +kernel
theorem dX3_kindle_42 : decode cX3_kindle 42 = .ok (.iload_n 1, 1) := by decide +kernel
theorem dX3_kindle_43 : decode cX3_kindle 43 = .ok (.iload_n 2, 1) := by decide +kernel
theorem dX3_kindle_44 : decode cX3_kindle 44 = .ok (.iastore, 1) := by decide +kernel
theorem dX3_kindle_45 : decode cX3_kindle 45 = .ok (.return_, 1) := by decide +kernel
set_option maxRecDepth 20000 in
theorem T_X3_kindle {Q : Option Value → ah_T → Prop} {h : ah_T} (hs : Sh h) (x1 : Int32) (x2 : Int32) (ht : (∀ h1, h1 = ah_si h 43 5 ((ah_i h 43 5) ||| ((1 : Int32) <<< (x1 &&& 31))) → (∀ h4, h4 = ah_si h1 43 6 ((ah_i h1 43 6) ||| ((1 : Int32) <<< (x1 &&& 31))) → (∀ h7, h7 = ah_si h4 43 14 ((ah_i h4 43 14) &&& (((1 : Int32) <<< (x1 &&& 31)) ^^^ (-1))) → (vp_in x1 (ah_n h7 47)) ∧ (∀ h11, h11 = ah_si h7 47 (Int32.toNatClampNeg x1) x2 → Q none h11))))) : Mt mX3_kindle [.ref 43, .int x1, .int x2] h Q := by
  refine Mt.ofWp rfl (by exact (Nat.le_of_ble_eq_true rfl)) (Wp.fewer (L' := [some (.ref 43), some (.int x1), some (.int x2)]) (show ab_leL _ _ from ⟨rfl, ⟨rfl, ⟨rfl, trivial⟩⟩⟩) ?_)
  refine ab_aload_n (i := 0) dX3_kindle_0 rfl rfl ?_
  refine ab_dup dX3_kindle_1 rfl ?_
  refine ab_getI f_X3_28 rfl (sh_k hs 43 3 (by decide) rfl) dX3_kindle_2 ?_
  refine ab_iconst (v := 1) dX3_kindle_5 (by decide) ?_
  refine ab_iload_n (i := 1) dX3_kindle_6 rfl rfl ?_
  refine ab_ishl dX3_kindle_7 ?_
  refine ab_ior dX3_kindle_8 ?_
  refine ab_putI f_X3_28 (Or.inl rfl) rfl (sh_k hs 43 3 (by decide) rfl) rfl rfl dX3_kindle_9 ?_
  refine Wp.nm fun h1 e2 => ?_
  have ht := ht h1 e2
  have hs3 : Sh h1 := by rw [e2]; exact sh_si hs
  refine ab_aload_n (i := 0) dX3_kindle_12 rfl rfl ?_
  refine ab_dup dX3_kindle_13 rfl ?_
  refine ab_getI f_X3_31 rfl (sh_k hs3 43 3 (by decide) rfl) dX3_kindle_14 ?_
  refine ab_iconst (v := 1) dX3_kindle_17 (by decide) ?_
  refine ab_iload_n (i := 1) dX3_kindle_18 rfl rfl ?_
  refine ab_ishl dX3_kindle_19 ?_
  refine ab_ior dX3_kindle_20 ?_
  refine ab_putI f_X3_31 (Or.inl rfl) rfl (sh_k hs3 43 3 (by decide) rfl) rfl rfl dX3_kindle_21 ?_
  refine Wp.nm fun h4 e5 => ?_
  have ht := ht h4 e5
  have hs6 : Sh h4 := by rw [e5]; exact sh_si hs3
  refine ab_aload_n (i := 0) dX3_kindle_24 rfl rfl ?_
  refine ab_dup dX3_kindle_25 rfl ?_
  refine ab_getI f_X3_46 rfl (sh_k hs6 43 3 (by decide) rfl) dX3_kindle_26 ?_
  refine ab_iconst (v := 1) dX3_kindle_29 (by decide) ?_
  refine ab_iload_n (i := 1) dX3_kindle_30 rfl rfl ?_
  refine ab_ishl dX3_kindle_31 ?_
  refine ab_iconst (v := (-1)) dX3_kindle_32 (by decide) ?_
  refine ab_ixor dX3_kindle_33 ?_
  refine ab_iand dX3_kindle_34 ?_
  refine ab_putI f_X3_46 (Or.inl rfl) rfl (sh_k hs6 43 3 (by decide) rfl) rfl rfl dX3_kindle_35 ?_
  refine Wp.nm fun h7 e8 => ?_
  have ht := ht h7 e8
  have hs9 : Sh h7 := by rw [e8]; exact sh_si hs6
  refine ab_aload_n (i := 0) dX3_kindle_38 rfl rfl ?_
  refine ab_getR (b := 47) f_X3_25 rfl (sh_k hs9 43 3 (by decide) rfl) (sh_r hs9 53 rfl) dX3_kindle_39 ?_
  refine ab_iload_n (i := 1) dX3_kindle_42 rfl rfl ?_
  refine ab_iload_n (i := 2) dX3_kindle_43 rfl rfl ?_
  obtain ⟨hc10, ht⟩ := ht
  refine ab_iast (sh_k hs9 47 14 (by decide) rfl) hc10 dX3_kindle_44 ?_
  refine Wp.nm fun h11 e12 => ?_
  have ht := ht h11 e12
  have hs13 : Sh h11 := by rw [e12]; exact sh_si hs9
  exact ab_vret rfl dX3_kindle_45 (Nat.le_of_ble_eq_true rfl) (Nat.le_of_ble_eq_true rfl) ht
theorem dX3_stirredLamps_0 : decode cX3_stirredLamps 0 = .ok (.aload_n 0, 1) := by decide +kernel
theorem dX3_stirredLamps_1 : decode cX3_stirredLamps 1 = .ok (.getfield 72, 3) := by decide +kernel
theorem dX3_stirredLamps_4 : decode cX3_stirredLamps 4 = .ok (.iconst 0, 1) := by decide +kernel
theorem dX3_stirredLamps_5 : decode cX3_stirredLamps 5 = .ok (.iconst 5, 1) := by decide +kernel
theorem dX3_stirredLamps_6 : decode cX3_stirredLamps 6 = .ok (.invokevirtual 150, 3) := by decide +kernel
theorem dX3_stirredLamps_9 : decode cX3_stirredLamps 9 = .ok (.ifCond .eq 10, 3) := by decide +kernel
theorem dX3_stirredLamps_12 : decode cX3_stirredLamps 12 = .ok (.aload_n 0, 1) := by decide +kernel
theorem dX3_stirredLamps_13 : decode cX3_stirredLamps 13 = .ok (.getfield 28, 3) := by decide +kernel
theorem dX3_stirredLamps_16 : decode cX3_stirredLamps 16 = .ok (.goto 12, 3) := by decide +kernel
theorem dX3_stirredLamps_19 : decode cX3_stirredLamps 19 = .ok (.aload_n 0, 1) := by decide +kernel
theorem dX3_stirredLamps_20 : decode cX3_stirredLamps 20 = .ok (.getfield 31, 3) := by decide +kernel
theorem dX3_stirredLamps_23 : decode cX3_stirredLamps 23 = .ok (.aload_n 0, 1) := by decide +kernel
theorem dX3_stirredLamps_24 : decode cX3_stirredLamps 24 = .ok (.getfield 28, 3) := by decide +kernel
theorem dX3_stirredLamps_27 : decode cX3_stirredLamps 27 = .ok (.iand, 1) := by decide +kernel
theorem dX3_stirredLamps_28 : decode cX3_stirredLamps 28 = .ok (.ireturn, 1) := by decide +kernel
set_option maxRecDepth 20000 in
theorem T_X3_stirredLamps {Q : Option Value → ah_T → Prop} {h : ah_T} (hs : Sh h)  (ht : (Mt mX8_heeds [.ref 38, .int 0, .int 5] h (ab_qi fun v3 h1 => Sh h1 ∧ ((v3 = 0 → Q (some (.int ((ah_i h1 43 6) &&& (ah_i h1 43 5)))) h1) ∧ (¬ v3 = 0 → Q (some (.int (ah_i h1 43 5))) h1))))) : Mt mX3_stirredLamps [.ref 43] h Q := by
  refine Mt.ofWp rfl (by exact (Nat.le_of_ble_eq_true rfl)) (Wp.fewer (L' := [some (.ref 43)]) (show ab_leL _ _ from ⟨rfl, trivial⟩) ?_)
  refine ab_aload_n (i := 0) dX3_stirredLamps_0 rfl rfl ?_
  refine ab_getR (b := 38) f_X3_72 rfl (sh_k hs 43 3 (by decide) rfl) (sh_r hs 58 rfl) dX3_stirredLamps_1 ?_
  refine ab_iconst (v := 0) dX3_stirredLamps_4 (by decide) ?_
  refine ab_iconst (v := 5) dX3_stirredLamps_5 (by decide) ?_
  refine ab_callV (b := 38) (As := [.int 0, .int 5]) ht (Y_X8_heeds) l_X3_150 in_X8_heeds se_X8_heeds (sh_k hs 38 8 (by decide) rfl) (by decide) rfl rfl ⟨(Nat.le_of_ble_eq_true rfl), (Nat.le_of_ble_eq_true rfl), (Nat.le_of_ble_eq_true rfl), (Nat.le_of_ble_eq_true rfl)⟩ dX3_stirredLamps_6 ?_
  rintro _ h1 ⟨v3, rfl, hs2, ht⟩
  refine ab_if_eq (tgt := 19) dX3_stirredLamps_9 (by decide) (fun c4 => ?_) (fun c4 => ?_)
  · have ht := ht.1 c4
    refine ab_aload_n (i := 0) dX3_stirredLamps_19 rfl rfl ?_
    refine ab_getI f_X3_31 rfl (sh_k hs2 43 3 (by decide) rfl) dX3_stirredLamps_20 ?_
    refine ab_aload_n (i := 0) dX3_stirredLamps_23 rfl rfl ?_
    refine ab_getI f_X3_28 rfl (sh_k hs2 43 3 (by decide) rfl) dX3_stirredLamps_24 ?_
    refine ab_iand dX3_stirredLamps_27 ?_
    exact ab_iret rfl dX3_stirredLamps_28 (Nat.le_of_ble_eq_true rfl) (Nat.le_of_ble_eq_true rfl) ht
  · have ht := ht.2 c4
    refine ab_aload_n (i := 0) dX3_stirredLamps_12 rfl rfl ?_
    refine ab_getI f_X3_28 rfl (sh_k hs2 43 3 (by decide) rfl) dX3_stirredLamps_13 ?_
    refine ab_goto (tgt := 28) dX3_stirredLamps_16 (by decide) ?_
    exact ab_iret rfl dX3_stirredLamps_28 (Nat.le_of_ble_eq_true rfl) (Nat.le_of_ble_eq_true rfl) ht
theorem dX3_movedLanterns_0 : decode cX3_movedLanterns 0 = .ok (.iconst 0, 1) := by decide +kernel
theorem dX3_movedLanterns_1 : decode cX3_movedLanterns 1 = .ok (.istore_n 2, 1) := by decide +kernel
theorem dX3_movedLanterns_2 : decode cX3_movedLanterns 2 = .ok (.iconst 0, 1) := by decide +kernel
theorem dX3_movedLanterns_3 : decode cX3_movedLanterns 3 = .ok (.istore_n 3, 1) := by decide +kernel
theorem dX3_movedLanterns_4 : decode cX3_movedLanterns 4 = .ok (.iload_n 3, 1) := by decide +kernel
theorem dX3_movedLanterns_5 : decode cX3_movedLanterns 5 = .ok (.aload_n 0, 1) := by decide +kernel
theorem dX3_movedLanterns_6 : decode cX3_movedLanterns 6 = .ok (.getfield 37, 3) := by decide +kernel
theorem dX3_movedLanterns_9 : decode cX3_movedLanterns 9 = .ok (.if_icmp .ge 76, 3) := by decide +kernel
theorem dX3_movedLanterns_12 : decode cX3_movedLanterns 12 = .ok (.aload_n 0, 1) := by decide +kernel
theorem dX3_movedLanterns_13 : decode cX3_movedLanterns 13 = .ok (.getfield 43, 3) := by decide +kernel
theorem dX3_movedLanterns_16 : decode cX3_movedLanterns 16 = .ok (.iload_n 3, 1) := by decide +kernel
theorem dX3_movedLanterns_17 : decode cX3_movedLanterns 17 = .ok (.bipush 120, 2) := by decide +kernel
theorem dX3_movedLanterns_19 : decode cX3_movedLanterns 19 = .ok (.imul, 1) := by decide +kernel
theorem dX3_movedLanterns_20 : decode cX3_movedLanterns 20 = .ok (.iload_n 1, 1) := by decide +kernel
theorem dX3_movedLanterns_21 : decode cX3_movedLanterns 21 = .ok (.iadd, 1) := by decide +kernel
theorem dX3_movedLanterns_22 : decode cX3_movedLanterns 22 = .ok (.iaload, 1) := by decide +kernel
theorem dX3_movedLanterns_23 : decode cX3_movedLanterns 23 = .ok (.istore 4, 2) := by decide +kernel
theorem dX3_movedLanterns_25 : decode cX3_movedLanterns 25 = .ok (.iload_n 1, 1) := by decide +kernel
theorem dX3_movedLanterns_26 : decode cX3_movedLanterns 26 = .ok (.ifCond .ne 7, 3) := by decide +kernel
theorem dX3_movedLanterns_29 : decode cX3_movedLanterns 29 = .ok (.iconst (-1), 1) := by decide +kernel
theorem dX3_movedLanterns_30 : decode cX3_movedLanterns 30 = .ok (.goto 16, 3) := by decide +kernel
theorem dX3_movedLanterns_33 : decode cX3_movedLanterns 33 = .ok (.aload_n 0, 1) := by decide +kernel
theorem dX3_movedLanterns_34 : decode cX3_movedLanterns 34 = .ok (.getfield 43, 3) := by decide +kernel
theorem dX3_movedLanterns_37 : decode cX3_movedLanterns 37 = .ok (.iload_n 3, 1) := by decide +kernel
theorem dX3_movedLanterns_38 : decode cX3_movedLanterns 38 = .ok (.bipush 120, 2) := by decide +kernel
theorem dX3_movedLanterns_40 : decode cX3_movedLanterns 40 = .ok (.imul, 1) := by decide +kernel
theorem dX3_movedLanterns_41 : decode cX3_movedLanterns 41 = .ok (.iload_n 1, 1) := by decide +kernel
theorem dX3_movedLanterns_42 : decode cX3_movedLanterns 42 = .ok (.iadd, 1) := by decide +kernel
theorem dX3_movedLanterns_43 : decode cX3_movedLanterns 43 = .ok (.iconst 1, 1) := by decide +kernel
theorem dX3_movedLanterns_44 : decode cX3_movedLanterns 44 = .ok (.isub, 1) := by decide +kernel
theorem dX3_movedLanterns_45 : decode cX3_movedLanterns 45 = .ok (.iaload, 1) := by decide +kernel
theorem dX3_movedLanterns_46 : decode cX3_movedLanterns 46 = .ok (.istore 5, 2) := by decide +kernel
theorem dX3_movedLanterns_48 : decode cX3_movedLanterns 48 = .ok (.iload 4, 2) := by decide +kernel
theorem dX3_movedLanterns_50 : decode cX3_movedLanterns 50 = .ok (.iconst (-1), 1) := by decide +kernel
theorem dX3_movedLanterns_51 : decode cX3_movedLanterns 51 = .ok (.if_icmp .eq 28, 3) := by decide +kernel
theorem dX3_movedLanterns_54 : decode cX3_movedLanterns 54 = .ok (.iload 4, 2) := by decide +kernel
theorem dX3_movedLanterns_56 : decode cX3_movedLanterns 56 = .ok (.iload 5, 2) := by decide +kernel
theorem dX3_movedLanterns_58 : decode cX3_movedLanterns 58 = .ok (.if_icmp .ne 15, 3) := by decide +kernel
theorem dX3_movedLanterns_61 : decode cX3_movedLanterns 61 = .ok (.aload_n 0, 1) := by decide +kernel
theorem dX3_movedLanterns_62 : decode cX3_movedLanterns 62 = .ok (.getfield 72, 3) := by decide +kernel
theorem dX3_movedLanterns_65 : decode cX3_movedLanterns 65 = .ok (.iconst 0, 1) := by decide +kernel
theorem dX3_movedLanterns_66 : decode cX3_movedLanterns 66 = .ok (.iconst 5, 1) := by decide +kernel
theorem dX3_movedLanterns_67 : decode cX3_movedLanterns 67 = .ok (.invokevirtual 150, 3) := by decide +kernel
theorem dX3_movedLanterns_70 : decode cX3_movedLanterns 70 = .ok (.ifCond .eq 9, 3) := by decide +kernel
theorem dX3_movedLanterns_73 : decode cX3_movedLanterns 73 = .ok (.iload_n 2, 1) := by decide +kernel
theorem dX3_movedLanterns_74 : decode cX3_movedLanterns 74 = .ok (.iconst 1, 1) := by decide +kernel
theorem dX3_movedLanterns_75 : decode cX3_movedLanterns 75 = .ok (.iload_n 3, 1) := by decide +kernel
theorem dX3_movedLanterns_76 : decode cX3_movedLanterns 76 = .ok (.ishl, 1) := by decide +kernel
theorem dX3_movedLanterns_77 : decode cX3_movedLanterns 77 = .ok (.ior, 1) := by decide +kernel
theorem dX3_movedLanterns_78 : decode cX3_movedLanterns 78 = .ok (.istore_n 2, 1) := by decide +kernel
theorem dX3_movedLanterns_79 : decode cX3_movedLanterns 79 = .ok (.iinc 3 1, 3) := by decide +kernel
theorem dX3_movedLanterns_82 : decode cX3_movedLanterns 82 = .ok (.goto (-78), 3) := by decide +kernel
theorem dX3_movedLanterns_85 : decode cX3_movedLanterns 85 = .ok (.iload_n 2, 1) := by decide +kernel
theorem dX3_movedLanterns_86 : decode cX3_movedLanterns 86 = .ok (.ireturn, 1) := by decide +kernel
set_option maxRecDepth 20000 in
theorem T_X3_movedLanterns_4 {Q : Option Value → ah_T → Prop} {h : ah_T} (hs : Sh h) (x1 : Int32) (x2 : Int32) (x3 : Int32) (ht : (((ah_i h 43 8) ≤ x3 → Q (some (.int x2)) h) ∧ (¬ (ah_i h 43 8) ≤ x3 → (vp_in ((x3 * 120) + x1) (ah_n h 49)) ∧ ((¬ x1 = 0 → (vp_in (((x3 * 120) + x1) - 1) (ah_n h 49)) ∧ (((ah_i h 49 (Int32.toNatClampNeg ((x3 * 120) + x1))) = (-1) → Wp mX3_movedLanterns Q 0 0 4 [some (.ref 43), some (.int x1), some (.int x2), some (.int (x3 + 1)), none, none] [] h) ∧ (¬ (ah_i h 49 (Int32.toNatClampNeg ((x3 * 120) + x1))) = (-1) → ((¬ (ah_i h 49 (Int32.toNatClampNeg ((x3 * 120) + x1))) = (ah_i h 49 (Int32.toNatClampNeg (((x3 * 120) + x1) - 1))) → Wp mX3_movedLanterns Q 0 0 4 [some (.ref 43), some (.int x1), some (.int (x2 ||| ((1 : Int32) <<< (x3 &&& 31)))), some (.int (x3 + 1)), none, none] [] h) ∧ ((ah_i h 49 (Int32.toNatClampNeg ((x3 * 120) + x1))) = (ah_i h 49 (Int32.toNatClampNeg (((x3 * 120) + x1) - 1))) → (Mt mX8_heeds [.ref 38, .int 0, .int 5] h (ab_qi fun v9 h7 => Sh h7 ∧ ((v9 = 0 → Wp mX3_movedLanterns Q 0 0 4 [some (.ref 43), some (.int x1), some (.int x2), some (.int (x3 + 1)), none, none] [] h7) ∧ (¬ v9 = 0 → Wp mX3_movedLanterns Q 0 0 4 [some (.ref 43), some (.int x1), some (.int (x2 ||| ((1 : Int32) <<< (x3 &&& 31)))), some (.int (x3 + 1)), none, none] [] h7))))))))) ∧ (x1 = 0 → (((ah_i h 49 (Int32.toNatClampNeg ((x3 * 120) + x1))) = (-1) → Wp mX3_movedLanterns Q 0 0 4 [some (.ref 43), some (.int x1), some (.int x2), some (.int (x3 + 1)), none, none] [] h) ∧ (¬ (ah_i h 49 (Int32.toNatClampNeg ((x3 * 120) + x1))) = (-1) → ((¬ (ah_i h 49 (Int32.toNatClampNeg ((x3 * 120) + x1))) = (-1) → Wp mX3_movedLanterns Q 0 0 4 [some (.ref 43), some (.int x1), some (.int (x2 ||| ((1 : Int32) <<< (x3 &&& 31)))), some (.int (x3 + 1)), none, none] [] h) ∧ ((ah_i h 49 (Int32.toNatClampNeg ((x3 * 120) + x1))) = (-1) → (Mt mX8_heeds [.ref 38, .int 0, .int 5] h (ab_qi fun v15 h13 => Sh h13 ∧ ((v15 = 0 → Wp mX3_movedLanterns Q 0 0 4 [some (.ref 43), some (.int x1), some (.int x2), some (.int (x3 + 1)), none, none] [] h13) ∧ (¬ v15 = 0 → Wp mX3_movedLanterns Q 0 0 4 [some (.ref 43), some (.int x1), some (.int (x2 ||| ((1 : Int32) <<< (x3 &&& 31)))), some (.int (x3 + 1)), none, none] [] h13))))))))))))) : Wp mX3_movedLanterns Q 0 0 4 [some (.ref 43), some (.int x1), some (.int x2), some (.int x3), none, none] [] h := by
  refine ab_iload_n (i := 3) dX3_movedLanterns_4 rfl rfl ?_
  refine ab_aload_n (i := 0) dX3_movedLanterns_5 rfl rfl ?_
  refine ab_getI f_X3_37 rfl (sh_k hs 43 3 (by decide) rfl) dX3_movedLanterns_6 ?_
  refine ab_icmp_ge (tgt := 85) dX3_movedLanterns_9 (by decide) (fun c1 => ?_) (fun c1 => ?_)
  · have ht := ht.1 c1
    refine ab_iload_n (i := 2) dX3_movedLanterns_85 rfl rfl ?_
    exact ab_iret rfl dX3_movedLanterns_86 (Nat.le_of_ble_eq_true rfl) (Nat.le_of_ble_eq_true rfl) ht
  · have ht := ht.2 c1
    refine ab_aload_n (i := 0) dX3_movedLanterns_12 rfl rfl ?_
    refine ab_getR (b := 49) f_X3_43 rfl (sh_k hs 43 3 (by decide) rfl) (sh_r hs 55 rfl) dX3_movedLanterns_13 ?_
    refine ab_iload_n (i := 3) dX3_movedLanterns_16 rfl rfl ?_
    refine ab_bipush (v := 120) dX3_movedLanterns_17 (by decide) ?_
    refine ab_imul dX3_movedLanterns_19 ?_
    refine ab_iload_n (i := 1) dX3_movedLanterns_20 rfl rfl ?_
    refine ab_iadd dX3_movedLanterns_21 ?_
    obtain ⟨hc2, ht⟩ := ht
    refine ab_iald (sh_k hs 49 14 (by decide) rfl) hc2 dX3_movedLanterns_22 ?_
    refine ab_istore (i := 4) (L' := [some (.ref 43), some (.int x1), some (.int x2), some (.int x3), some (.int (ah_i h 49 (Int32.toNatClampNeg ((x3 * 120) + x1)))), none]) dX3_movedLanterns_23 (by exact (Nat.le_of_ble_eq_true rfl)) rfl rfl ?_
    refine ab_iload_n (i := 1) dX3_movedLanterns_25 rfl rfl ?_
    refine ab_if_ne (tgt := 33) dX3_movedLanterns_26 (by decide) (fun c3 => ?_) (fun c3 => ?_)
    · have ht := ht.1 c3
      refine ab_aload_n (i := 0) dX3_movedLanterns_33 rfl rfl ?_
      refine ab_getR (b := 49) f_X3_43 rfl (sh_k hs 43 3 (by decide) rfl) (sh_r hs 55 rfl) dX3_movedLanterns_34 ?_
      refine ab_iload_n (i := 3) dX3_movedLanterns_37 rfl rfl ?_
      refine ab_bipush (v := 120) dX3_movedLanterns_38 (by decide) ?_
      refine ab_imul dX3_movedLanterns_40 ?_
      refine ab_iload_n (i := 1) dX3_movedLanterns_41 rfl rfl ?_
      refine ab_iadd dX3_movedLanterns_42 ?_
      refine ab_iconst (v := 1) dX3_movedLanterns_43 (by decide) ?_
      refine ab_isub dX3_movedLanterns_44 ?_
      obtain ⟨hc4, ht⟩ := ht
      refine ab_iald (sh_k hs 49 14 (by decide) rfl) hc4 dX3_movedLanterns_45 ?_
      refine ab_istore (i := 5) (L' := [some (.ref 43), some (.int x1), some (.int x2), some (.int x3), some (.int (ah_i h 49 (Int32.toNatClampNeg ((x3 * 120) + x1)))), some (.int (ah_i h 49 (Int32.toNatClampNeg (((x3 * 120) + x1) - 1))))]) dX3_movedLanterns_46 (by exact (Nat.le_of_ble_eq_true rfl)) rfl rfl ?_
      refine ab_iload (i := 4) dX3_movedLanterns_48 rfl ?_
      refine ab_iconst (v := (-1)) dX3_movedLanterns_50 (by decide) ?_
      refine ab_icmp_eq (tgt := 79) dX3_movedLanterns_51 (by decide) (fun c5 => ?_) (fun c5 => ?_)
      · have ht := ht.1 c5
        refine ab_iinc (i := 3) (x := x3) (v := (x3 + 1)) (L' := [some (.ref 43), some (.int x1), some (.int x2), some (.int (x3 + 1)), some (.int (ah_i h 49 (Int32.toNatClampNeg ((x3 * 120) + x1)))), some (.int (ah_i h 49 (Int32.toNatClampNeg (((x3 * 120) + x1) - 1))))]) dX3_movedLanterns_79 rfl rfl (by exact (Nat.le_of_ble_eq_true rfl)) rfl rfl ?_
        refine ab_goto (tgt := 4) dX3_movedLanterns_82 (by decide) ?_
        exact Wp.fewer (L' := [some (.ref 43), some (.int x1), some (.int x2), some (.int (x3 + 1)), none, none]) (show ab_leL _ _ from ⟨rfl, ⟨rfl, ⟨rfl, ⟨rfl, trivial⟩⟩⟩⟩) ht
      · have ht := ht.2 c5
        refine ab_iload (i := 4) dX3_movedLanterns_54 rfl ?_
        refine ab_iload (i := 5) dX3_movedLanterns_56 rfl ?_
        refine ab_icmp_ne (tgt := 73) dX3_movedLanterns_58 (by decide) (fun c6 => ?_) (fun c6 => ?_)
        · have ht := ht.1 c6
          refine ab_iload_n (i := 2) dX3_movedLanterns_73 rfl rfl ?_
          refine ab_iconst (v := 1) dX3_movedLanterns_74 (by decide) ?_
          refine ab_iload_n (i := 3) dX3_movedLanterns_75 rfl rfl ?_
          refine ab_ishl dX3_movedLanterns_76 ?_
          refine ab_ior dX3_movedLanterns_77 ?_
          refine ab_istore_n (i := 2) (L' := [some (.ref 43), some (.int x1), some (.int (x2 ||| ((1 : Int32) <<< (x3 &&& 31)))), some (.int x3), some (.int (ah_i h 49 (Int32.toNatClampNeg ((x3 * 120) + x1)))), some (.int (ah_i h 49 (Int32.toNatClampNeg (((x3 * 120) + x1) - 1))))]) dX3_movedLanterns_78 rfl (by exact (Nat.le_of_ble_eq_true rfl)) rfl rfl ?_
          refine ab_iinc (i := 3) (x := x3) (v := (x3 + 1)) (L' := [some (.ref 43), some (.int x1), some (.int (x2 ||| ((1 : Int32) <<< (x3 &&& 31)))), some (.int (x3 + 1)), some (.int (ah_i h 49 (Int32.toNatClampNeg ((x3 * 120) + x1)))), some (.int (ah_i h 49 (Int32.toNatClampNeg (((x3 * 120) + x1) - 1))))]) dX3_movedLanterns_79 rfl rfl (by exact (Nat.le_of_ble_eq_true rfl)) rfl rfl ?_
          refine ab_goto (tgt := 4) dX3_movedLanterns_82 (by decide) ?_
          exact Wp.fewer (L' := [some (.ref 43), some (.int x1), some (.int (x2 ||| ((1 : Int32) <<< (x3 &&& 31)))), some (.int (x3 + 1)), none, none]) (show ab_leL _ _ from ⟨rfl, ⟨rfl, ⟨rfl, ⟨rfl, trivial⟩⟩⟩⟩) ht
        · have ht := ht.2 c6
          refine ab_aload_n (i := 0) dX3_movedLanterns_61 rfl rfl ?_
          refine ab_getR (b := 38) f_X3_72 rfl (sh_k hs 43 3 (by decide) rfl) (sh_r hs 58 rfl) dX3_movedLanterns_62 ?_
          refine ab_iconst (v := 0) dX3_movedLanterns_65 (by decide) ?_
          refine ab_iconst (v := 5) dX3_movedLanterns_66 (by decide) ?_
          refine ab_callV (b := 38) (As := [.int 0, .int 5]) ht (Y_X8_heeds) l_X3_150 in_X8_heeds se_X8_heeds (sh_k hs 38 8 (by decide) rfl) (by decide) rfl rfl ⟨(Nat.le_of_ble_eq_true rfl), (Nat.le_of_ble_eq_true rfl), (Nat.le_of_ble_eq_true rfl), (Nat.le_of_ble_eq_true rfl)⟩ dX3_movedLanterns_67 ?_
          rintro _ h7 ⟨v9, rfl, hs8, ht⟩
          refine ab_if_eq (tgt := 79) dX3_movedLanterns_70 (by decide) (fun c10 => ?_) (fun c10 => ?_)
          · have ht := ht.1 c10
            refine ab_iinc (i := 3) (x := x3) (v := (x3 + 1)) (L' := [some (.ref 43), some (.int x1), some (.int x2), some (.int (x3 + 1)), some (.int (ah_i h 49 (Int32.toNatClampNeg ((x3 * 120) + x1)))), some (.int (ah_i h 49 (Int32.toNatClampNeg (((x3 * 120) + x1) - 1))))]) dX3_movedLanterns_79 rfl rfl (by exact (Nat.le_of_ble_eq_true rfl)) rfl rfl ?_
            refine ab_goto (tgt := 4) dX3_movedLanterns_82 (by decide) ?_
            exact Wp.fewer (L' := [some (.ref 43), some (.int x1), some (.int x2), some (.int (x3 + 1)), none, none]) (show ab_leL _ _ from ⟨rfl, ⟨rfl, ⟨rfl, ⟨rfl, trivial⟩⟩⟩⟩) ht
          · have ht := ht.2 c10
            refine ab_iload_n (i := 2) dX3_movedLanterns_73 rfl rfl ?_
            refine ab_iconst (v := 1) dX3_movedLanterns_74 (by decide) ?_
            refine ab_iload_n (i := 3) dX3_movedLanterns_75 rfl rfl ?_
            refine ab_ishl dX3_movedLanterns_76 ?_
            refine ab_ior dX3_movedLanterns_77 ?_
            refine ab_istore_n (i := 2) (L' := [some (.ref 43), some (.int x1), some (.int (x2 ||| ((1 : Int32) <<< (x3 &&& 31)))), some (.int x3), some (.int (ah_i h 49 (Int32.toNatClampNeg ((x3 * 120) + x1)))), some (.int (ah_i h 49 (Int32.toNatClampNeg (((x3 * 120) + x1) - 1))))]) dX3_movedLanterns_78 rfl (by exact (Nat.le_of_ble_eq_true rfl)) rfl rfl ?_
            refine ab_iinc (i := 3) (x := x3) (v := (x3 + 1)) (L' := [some (.ref 43), some (.int x1), some (.int (x2 ||| ((1 : Int32) <<< (x3 &&& 31)))), some (.int (x3 + 1)), some (.int (ah_i h 49 (Int32.toNatClampNeg ((x3 * 120) + x1)))), some (.int (ah_i h 49 (Int32.toNatClampNeg (((x3 * 120) + x1) - 1))))]) dX3_movedLanterns_79 rfl rfl (by exact (Nat.le_of_ble_eq_true rfl)) rfl rfl ?_
            refine ab_goto (tgt := 4) dX3_movedLanterns_82 (by decide) ?_
            exact Wp.fewer (L' := [some (.ref 43), some (.int x1), some (.int (x2 ||| ((1 : Int32) <<< (x3 &&& 31)))), some (.int (x3 + 1)), none, none]) (show ab_leL _ _ from ⟨rfl, ⟨rfl, ⟨rfl, ⟨rfl, trivial⟩⟩⟩⟩) ht
    · have ht := ht.2 c3
      refine ab_iconst (v := (-1)) dX3_movedLanterns_29 (by decide) ?_
      refine ab_goto (tgt := 46) dX3_movedLanterns_30 (by decide) ?_
      refine ab_istore (i := 5) (L' := [some (.ref 43), some (.int x1), some (.int x2), some (.int x3), some (.int (ah_i h 49 (Int32.toNatClampNeg ((x3 * 120) + x1)))), some (.int (-1))]) dX3_movedLanterns_46 (by exact (Nat.le_of_ble_eq_true rfl)) rfl rfl ?_
      refine ab_iload (i := 4) dX3_movedLanterns_48 rfl ?_
      refine ab_iconst (v := (-1)) dX3_movedLanterns_50 (by decide) ?_
      refine ab_icmp_eq (tgt := 79) dX3_movedLanterns_51 (by decide) (fun c11 => ?_) (fun c11 => ?_)
      · have ht := ht.1 c11
        refine ab_iinc (i := 3) (x := x3) (v := (x3 + 1)) (L' := [some (.ref 43), some (.int x1), some (.int x2), some (.int (x3 + 1)), some (.int (ah_i h 49 (Int32.toNatClampNeg ((x3 * 120) + x1)))), some (.int (-1))]) dX3_movedLanterns_79 rfl rfl (by exact (Nat.le_of_ble_eq_true rfl)) rfl rfl ?_
        refine ab_goto (tgt := 4) dX3_movedLanterns_82 (by decide) ?_
        exact Wp.fewer (L' := [some (.ref 43), some (.int x1), some (.int x2), some (.int (x3 + 1)), none, none]) (show ab_leL _ _ from ⟨rfl, ⟨rfl, ⟨rfl, ⟨rfl, trivial⟩⟩⟩⟩) ht
      · have ht := ht.2 c11
        refine ab_iload (i := 4) dX3_movedLanterns_54 rfl ?_
        refine ab_iload (i := 5) dX3_movedLanterns_56 rfl ?_
        refine ab_icmp_ne (tgt := 73) dX3_movedLanterns_58 (by decide) (fun c12 => ?_) (fun c12 => ?_)
        · have ht := ht.1 c12
          refine ab_iload_n (i := 2) dX3_movedLanterns_73 rfl rfl ?_
          refine ab_iconst (v := 1) dX3_movedLanterns_74 (by decide) ?_
          refine ab_iload_n (i := 3) dX3_movedLanterns_75 rfl rfl ?_
          refine ab_ishl dX3_movedLanterns_76 ?_
          refine ab_ior dX3_movedLanterns_77 ?_
          refine ab_istore_n (i := 2) (L' := [some (.ref 43), some (.int x1), some (.int (x2 ||| ((1 : Int32) <<< (x3 &&& 31)))), some (.int x3), some (.int (ah_i h 49 (Int32.toNatClampNeg ((x3 * 120) + x1)))), some (.int (-1))]) dX3_movedLanterns_78 rfl (by exact (Nat.le_of_ble_eq_true rfl)) rfl rfl ?_
          refine ab_iinc (i := 3) (x := x3) (v := (x3 + 1)) (L' := [some (.ref 43), some (.int x1), some (.int (x2 ||| ((1 : Int32) <<< (x3 &&& 31)))), some (.int (x3 + 1)), some (.int (ah_i h 49 (Int32.toNatClampNeg ((x3 * 120) + x1)))), some (.int (-1))]) dX3_movedLanterns_79 rfl rfl (by exact (Nat.le_of_ble_eq_true rfl)) rfl rfl ?_
          refine ab_goto (tgt := 4) dX3_movedLanterns_82 (by decide) ?_
          exact Wp.fewer (L' := [some (.ref 43), some (.int x1), some (.int (x2 ||| ((1 : Int32) <<< (x3 &&& 31)))), some (.int (x3 + 1)), none, none]) (show ab_leL _ _ from ⟨rfl, ⟨rfl, ⟨rfl, ⟨rfl, trivial⟩⟩⟩⟩) ht
        · have ht := ht.2 c12
          refine ab_aload_n (i := 0) dX3_movedLanterns_61 rfl rfl ?_
          refine ab_getR (b := 38) f_X3_72 rfl (sh_k hs 43 3 (by decide) rfl) (sh_r hs 58 rfl) dX3_movedLanterns_62 ?_
          refine ab_iconst (v := 0) dX3_movedLanterns_65 (by decide) ?_
          refine ab_iconst (v := 5) dX3_movedLanterns_66 (by decide) ?_
          refine ab_callV (b := 38) (As := [.int 0, .int 5]) ht (Y_X8_heeds) l_X3_150 in_X8_heeds se_X8_heeds (sh_k hs 38 8 (by decide) rfl) (by decide) rfl rfl ⟨(Nat.le_of_ble_eq_true rfl), (Nat.le_of_ble_eq_true rfl), (Nat.le_of_ble_eq_true rfl), (Nat.le_of_ble_eq_true rfl)⟩ dX3_movedLanterns_67 ?_
          rintro _ h13 ⟨v15, rfl, hs14, ht⟩
          refine ab_if_eq (tgt := 79) dX3_movedLanterns_70 (by decide) (fun c16 => ?_) (fun c16 => ?_)
          · have ht := ht.1 c16
            refine ab_iinc (i := 3) (x := x3) (v := (x3 + 1)) (L' := [some (.ref 43), some (.int x1), some (.int x2), some (.int (x3 + 1)), some (.int (ah_i h 49 (Int32.toNatClampNeg ((x3 * 120) + x1)))), some (.int (-1))]) dX3_movedLanterns_79 rfl rfl (by exact (Nat.le_of_ble_eq_true rfl)) rfl rfl ?_
            refine ab_goto (tgt := 4) dX3_movedLanterns_82 (by decide) ?_
            exact Wp.fewer (L' := [some (.ref 43), some (.int x1), some (.int x2), some (.int (x3 + 1)), none, none]) (show ab_leL _ _ from ⟨rfl, ⟨rfl, ⟨rfl, ⟨rfl, trivial⟩⟩⟩⟩) ht
          · have ht := ht.2 c16
            refine ab_iload_n (i := 2) dX3_movedLanterns_73 rfl rfl ?_
            refine ab_iconst (v := 1) dX3_movedLanterns_74 (by decide) ?_
            refine ab_iload_n (i := 3) dX3_movedLanterns_75 rfl rfl ?_
            refine ab_ishl dX3_movedLanterns_76 ?_
            refine ab_ior dX3_movedLanterns_77 ?_
            refine ab_istore_n (i := 2) (L' := [some (.ref 43), some (.int x1), some (.int (x2 ||| ((1 : Int32) <<< (x3 &&& 31)))), some (.int x3), some (.int (ah_i h 49 (Int32.toNatClampNeg ((x3 * 120) + x1)))), some (.int (-1))]) dX3_movedLanterns_78 rfl (by exact (Nat.le_of_ble_eq_true rfl)) rfl rfl ?_
            refine ab_iinc (i := 3) (x := x3) (v := (x3 + 1)) (L' := [some (.ref 43), some (.int x1), some (.int (x2 ||| ((1 : Int32) <<< (x3 &&& 31)))), some (.int (x3 + 1)), some (.int (ah_i h 49 (Int32.toNatClampNeg ((x3 * 120) + x1)))), some (.int (-1))]) dX3_movedLanterns_79 rfl rfl (by exact (Nat.le_of_ble_eq_true rfl)) rfl rfl ?_
            refine ab_goto (tgt := 4) dX3_movedLanterns_82 (by decide) ?_
            exact Wp.fewer (L' := [some (.ref 43), some (.int x1), some (.int (x2 ||| ((1 : Int32) <<< (x3 &&& 31)))), some (.int (x3 + 1)), none, none]) (show ab_leL _ _ from ⟨rfl, ⟨rfl, ⟨rfl, ⟨rfl, trivial⟩⟩⟩⟩) ht
set_option maxRecDepth 20000 in
theorem T_X3_movedLanterns {Q : Option Value → ah_T → Prop} {h : ah_T} (hs : Sh h) (x1 : Int32) (ht : Wp mX3_movedLanterns Q 0 0 4 [some (.ref 43), some (.int x1), some (.int 0), some (.int 0), none, none] [] h) : Mt mX3_movedLanterns [.ref 43, .int x1] h Q := by
  refine Mt.ofWp rfl (by exact (Nat.le_of_ble_eq_true rfl)) (Wp.fewer (L' := [some (.ref 43), some (.int x1), none, none, none, none]) (show ab_leL _ _ from ⟨rfl, ⟨rfl, trivial⟩⟩) ?_)
  refine ab_iconst (v := 0) dX3_movedLanterns_0 (by decide) ?_
  refine ab_istore_n (i := 2) (L' := [some (.ref 43), some (.int x1), some (.int 0), none, none, none]) dX3_movedLanterns_1 rfl (by exact (Nat.le_of_ble_eq_true rfl)) rfl rfl ?_
  refine ab_iconst (v := 0) dX3_movedLanterns_2 (by decide) ?_
  refine ab_istore_n (i := 3) (L' := [some (.ref 43), some (.int x1), some (.int 0), some (.int 0), none, none]) dX3_movedLanterns_3 rfl (by exact (Nat.le_of_ble_eq_true rfl)) rfl rfl ?_
  exact Wp.fewer (L' := [some (.ref 43), some (.int x1), some (.int 0), some (.int 0), none, none]) (show ab_leL _ _ from ⟨rfl, ⟨rfl, ⟨rfl, ⟨rfl, trivial⟩⟩⟩⟩) ht
theorem dX3_fleeing_0 : decode cX3_fleeing 0 = .ok (.iconst 0, 1) := by decide +kernel
theorem dX3_fleeing_1 : decode cX3_fleeing 1 = .ok (.istore_n 2, 1) := by decide +kernel
theorem dX3_fleeing_2 : decode cX3_fleeing 2 = .ok (.iconst 0, 1) := by decide +kernel
theorem dX3_fleeing_3 : decode cX3_fleeing 3 = .ok (.istore_n 3, 1) := by decide +kernel
theorem dX3_fleeing_4 : decode cX3_fleeing 4 = .ok (.iload_n 3, 1) := by decide +kernel
theorem dX3_fleeing_5 : decode cX3_fleeing 5 = .ok (.aload_n 0, 1) := by decide +kernel
theorem dX3_fleeing_6 : decode cX3_fleeing 6 = .ok (.getfield 37, 3) := by decide +kernel
theorem dX3_fleeing_9 : decode cX3_fleeing 9 = .ok (.if_icmp .ge 141, 3) := by decide +kernel
theorem dX3_fleeing_12 : decode cX3_fleeing 12 = .ok (.aload_n 0, 1) := by decide +kernel
theorem dX3_fleeing_13 : decode cX3_fleeing 13 = .ok (.getfield 43, 3) := by decide +kernel
theorem dX3_fleeing_16 : decode cX3_fleeing 16 = .ok (.iload_n 3, 1) := by decide +kernel
theorem dX3_fleeing_17 : decode cX3_fleeing 17 = .ok (.bipush 120, 2) := by decide +kernel
theorem dX3_fleeing_19 : decode cX3_fleeing 19 = .ok (.imul, 1) := by decide +kernel
theorem dX3_fleeing_20 : decode cX3_fleeing 20 = .ok (.iload_n 1, 1) := by decide +kernel
theorem dX3_fleeing_21 : decode cX3_fleeing 21 = .ok (.iadd, 1) := by decide +kernel
theorem dX3_fleeing_22 : decode cX3_fleeing 22 = .ok (.iaload, 1) := by decide +kernel
theorem dX3_fleeing_23 : decode cX3_fleeing 23 = .ok (.istore 4, 2) := by decide +kernel
theorem dX3_fleeing_25 : decode cX3_fleeing 25 = .ok (.iload 4, 2) := by decide +kernel
theorem dX3_fleeing_27 : decode cX3_fleeing 27 = .ok (.iconst (-1), 1) := by decide +kernel
theorem dX3_fleeing_28 : decode cX3_fleeing 28 = .ok (.if_icmp .ne 6, 3) := by decide +kernel
theorem dX3_fleeing_31 : decode cX3_fleeing 31 = .ok (.goto 113, 3) := by decide +kernel
theorem dX3_fleeing_34 : decode cX3_fleeing 34 = .ok (.aload_n 0, 1) := by decide +kernel
theorem dX3_fleeing_35 : decode cX3_fleeing 35 = .ok (.getfield 40, 3) := by decide +kernel
theorem dX3_fleeing_38 : decode cX3_fleeing 38 = .ok (.iload_n 3, 1) := by decide +kernel
theorem dX3_fleeing_39 : decode cX3_fleeing 39 = .ok (.iaload, 1) := by decide +kernel
theorem dX3_fleeing_40 : decode cX3_fleeing 40 = .ok (.istore 5, 2) := by decide +kernel
theorem dX3_fleeing_42 : decode cX3_fleeing 42 = .ok (.aload_n 0, 1) := by decide +kernel
theorem dX3_fleeing_43 : decode cX3_fleeing 43 = .ok (.getfield 72, 3) := by decide +kernel
theorem dX3_fleeing_46 : decode cX3_fleeing 46 = .ok (.iload 5, 2) := by decide +kernel
theorem dX3_fleeing_48 : decode cX3_fleeing 48 = .ok (.iload 4, 2) := by decide +kernel
theorem dX3_fleeing_50 : decode cX3_fleeing 50 = .ok (.iload_n 1, 1) := by decide +kernel
theorem dX3_fleeing_51 : decode cX3_fleeing 51 = .ok (.invokevirtual 156, 3) := by decide +kernel
theorem dX3_fleeing_54 : decode cX3_fleeing 54 = .ok (.istore 6, 2) := by decide +kernel
theorem dX3_fleeing_56 : decode cX3_fleeing 56 = .ok (.aload_n 0, 1) := by decide +kernel
theorem dX3_fleeing_57 : decode cX3_fleeing 57 = .ok (.getfield 49, 3) := by decide +kernel
theorem dX3_fleeing_60 : decode cX3_fleeing 60 = .ok (.iconst (-1), 1) := by decide +kernel
theorem dX3_fleeing_61 : decode cX3_fleeing 61 = .ok (.if_icmp .eq 73, 3) := by decide +kernel
theorem dX3_fleeing_64 : decode cX3_fleeing 64 = .ok (.aload_n 0, 1) := by decide +kernel
theorem dX3_fleeing_65 : decode cX3_fleeing 65 = .ok (.getfield 68, 3) := by decide +kernel
theorem dX3_fleeing_68 : decode cX3_fleeing 68 = .ok (.aload_n 0, 1) := by decide +kernel
theorem dX3_fleeing_69 : decode cX3_fleeing 69 = .ok (.getfield 15, 3) := by decide +kernel
theorem dX3_fleeing_72 : decode cX3_fleeing 72 = .ok (.aload_n 0, 1) := by decide +kernel
theorem dX3_fleeing_73 : decode cX3_fleeing 73 = .ok (.getfield 49, 3) := by decide +kernel
theorem dX3_fleeing_76 : decode cX3_fleeing 76 = .ok (.iaload, 1) := by decide +kernel
theorem dX3_fleeing_77 : decode cX3_fleeing 77 = .ok (.iload 4, 2) := by decide +kernel
theorem dX3_fleeing_79 : decode cX3_fleeing 79 = .ok (.invokevirtual 160, 3) := by decide +kernel
theorem dX3_fleeing_82 : decode cX3_fleeing 82 = .ok (.istore 7, 2) := by decide +kernel
theorem dX3_fleeing_84 : decode cX3_fleeing 84 = .ok (.iload 6, 2) := by decide +kernel
theorem dX3_fleeing_86 : decode cX3_fleeing 86 = .ok (.iconst 1, 1) := by decide +kernel
theorem dX3_fleeing_87 : decode cX3_fleeing 87 = .ok (.aload_n 0, 1) := by decide +kernel
theorem dX3_fleeing_88 : decode cX3_fleeing 88 = .ok (.getfield 49, 3) := by decide +kernel
theorem dX3_fleeing_91 : decode cX3_fleeing 91 = .ok (.ishl, 1) := by decide +kernel
theorem dX3_fleeing_92 : decode cX3_fleeing 92 = .ok (.iconst (-1), 1) := by decide +kernel
theorem dX3_fleeing_93 : decode cX3_fleeing 93 = .ok (.ixor, 1) := by decide +kernel
theorem dX3_fleeing_94 : decode cX3_fleeing 94 = .ok (.iand, 1) := by decide +kernel
theorem dX3_fleeing_95 : decode cX3_fleeing 95 = .ok (.istore 6, 2) := by decide +kernel
theorem dX3_fleeing_97 : decode cX3_fleeing 97 = .ok (.iload 6, 2) := by decide +kernel
theorem dX3_fleeing_99 : decode cX3_fleeing 99 = .ok (.aload_n 0, 1) := by decide +kernel
theorem dX3_fleeing_100 : decode cX3_fleeing 100 = .ok (.getfield 72, 3) := by decide +kernel
theorem dX3_fleeing_103 : decode cX3_fleeing 103 = .ok (.iconst 0, 1) := by decide +kernel
theorem dX3_fleeing_104 : decode cX3_fleeing 104 = .ok (.aload_n 0, 1) := by decide +kernel
theorem dX3_fleeing_105 : decode cX3_fleeing 105 = .ok (.getfield 49, 3) := by decide +kernel
theorem dX3_fleeing_108 : decode cX3_fleeing 108 = .ok (.aload_n 0, 1) := by decide +kernel
theorem dX3_fleeing_109 : decode cX3_fleeing 109 = .ok (.getfield 19, 3) := by decide +kernel
theorem dX3_fleeing_112 : decode cX3_fleeing 112 = .ok (.aload_n 0, 1) := by decide +kernel
theorem dX3_fleeing_113 : decode cX3_fleeing 113 = .ok (.getfield 49, 3) := by decide +kernel
theorem dX3_fleeing_116 : decode cX3_fleeing 116 = .ok (.iaload, 1) := by decide +kernel
theorem dX3_fleeing_117 : decode cX3_fleeing 117 = .ok (.iload 5, 2) := by decide +kernel
theorem dX3_fleeing_119 : decode cX3_fleeing 119 = .ok (.iload 7, 2) := by decide +kernel
theorem dX3_fleeing_121 : decode cX3_fleeing 121 = .ok (.iconst 1, 1) := by decide +kernel
theorem dX3_fleeing_122 : decode cX3_fleeing 122 = .ok (.iload_n 1, 1) := by decide +kernel
theorem dX3_fleeing_123 : decode cX3_fleeing 123 = .ok (.invokevirtual 165, 3) := by decide +kernel
theorem dX3_fleeing_126 : decode cX3_fleeing 126 = .ok (.aload_n 0, 1) := by decide +kernel
theorem dX3_fleeing_127 : decode cX3_fleeing 127 = .ok (.getfield 49, 3) := by decide +kernel
theorem dX3_fleeing_130 : decode cX3_fleeing 130 = .ok (.ishl, 1) := by decide +kernel
theorem dX3_fleeing_131 : decode cX3_fleeing 131 = .ok (.ior, 1) := by decide +kernel
theorem dX3_fleeing_132 : decode cX3_fleeing 132 = .ok (.istore 6, 2) := by decide +kernel
theorem dX3_fleeing_134 : decode cX3_fleeing 134 = .ok (.iload_n 2, 1) := by decide +kernel
theorem dX3_fleeing_135 : decode cX3_fleeing 135 = .ok (.iload 6, 2) := by decide +kernel
theorem dX3_fleeing_137 : decode cX3_fleeing 137 = .ok (.aload_n 0, 1) := by decide +kernel
theorem dX3_fleeing_138 : decode cX3_fleeing 138 = .ok (.getfield 28, 3) := by decide +kernel
theorem dX3_fleeing_141 : decode cX3_fleeing 141 = .ok (.iand, 1) := by decide +kernel
theorem dX3_fleeing_142 : decode cX3_fleeing 142 = .ok (.ior, 1) := by decide +kernel
theorem dX3_fleeing_143 : decode cX3_fleeing 143 = .ok (.istore_n 2, 1) := by decide +kernel
theorem dX3_fleeing_144 : decode cX3_fleeing 144 = .ok (.iinc 3 1, 3) := by decide +kernel
theorem dX3_fleeing_147 : decode cX3_fleeing 147 = .ok (.goto (-143), 3) := by decide +kernel
theorem dX3_fleeing_150 : decode cX3_fleeing 150 = .ok (.iload_n 2, 1) := by decide +kernel
theorem dX3_fleeing_151 : decode cX3_fleeing 151 = .ok (.ireturn, 1) := by decide +kernel
set_option maxRecDepth 20000 in
theorem T_X3_fleeing_4 {Q : Option Value → ah_T → Prop} {h : ah_T} (hs : Sh h) (x1 : Int32) (x2 : Int32) (x3 : Int32) (ht : (((ah_i h 43 8) ≤ x3 → Q (some (.int x2)) h) ∧ (¬ (ah_i h 43 8) ≤ x3 → (vp_in ((x3 * 120) + x1) (ah_n h 49)) ∧ ((¬ (ah_i h 49 (Int32.toNatClampNeg ((x3 * 120) + x1))) = (-1) → (vp_in x3 (ah_n h 48)) ∧ (Mt mX8_fearful [.ref 38, .int (ah_i h 48 (Int32.toNatClampNeg x3)), .int (ah_i h 49 (Int32.toNatClampNeg ((x3 * 120) + x1))), .int x1] h (ab_qi fun v7 h5 => Sh h5 ∧ (((ah_i h5 43 15) = (-1) → Wp mX3_fleeing Q 0 0 4 [some (.ref 43), some (.int x1), some (.int (x2 ||| (v7 &&& (ah_i h5 43 5)))), some (.int (x3 + 1)), none, none, none, none] [] h5) ∧ (¬ (ah_i h5 43 15) = (-1) → (vp_in (ah_i h5 43 15) (ah_n h5 44)) ∧ ((¬ (f_X11_isIn (ah_i h5 44 (Int32.toNatClampNeg (ah_i h5 43 15))) 12) = 0 → (¬ (f_X11_isIn (ah_i h 49 (Int32.toNatClampNeg ((x3 * 120) + x1))) 12) = 0 → vp_in (((ah_i h5 44 (Int32.toNatClampNeg (ah_i h5 43 15))) * 12) + (ah_i h 49 (Int32.toNatClampNeg ((x3 * 120) + x1)))) (ah_n h5 34)))) ∧ (vp_in (ah_i h5 43 15) (ah_n h5 45)) ∧ (Mt mX8_ask [.ref 38, .int 0, .int (ah_i h5 43 15), .int (ah_i h5 45 (Int32.toNatClampNeg (ah_i h5 43 15))), .int (ah_i h 48 (Int32.toNatClampNeg x3)), .int (f_X6_sight h5 (ah_i h5 44 (Int32.toNatClampNeg (ah_i h5 43 15))) (ah_i h 49 (Int32.toNatClampNeg ((x3 * 120) + x1)))), .int 1, .int x1] h5 (ab_qi fun v14 h12 => Sh h12 ∧ Wp mX3_fleeing Q 0 0 4 [some (.ref 43), some (.int x1), some (.int (x2 ||| (((v7 &&& (((1 : Int32) <<< ((ah_i h5 43 15) &&& 31)) ^^^ (-1))) ||| (v14 <<< ((ah_i h12 43 15) &&& 31))) &&& (ah_i h12 43 5)))), some (.int (x3 + 1)), none, none, none, none] [] h12))))))) ∧ ((ah_i h 49 (Int32.toNatClampNeg ((x3 * 120) + x1))) = (-1) → Wp mX3_fleeing Q 0 0 4 [some (.ref 43), some (.int x1), some (.int x2), some (.int (x3 + 1)), none, none, none, none] [] h))))) : Wp mX3_fleeing Q 0 0 4 [some (.ref 43), some (.int x1), some (.int x2), some (.int x3), none, none, none, none] [] h := by
  refine ab_iload_n (i := 3) dX3_fleeing_4 rfl rfl ?_
  refine ab_aload_n (i := 0) dX3_fleeing_5 rfl rfl ?_
  refine ab_getI f_X3_37 rfl (sh_k hs 43 3 (by decide) rfl) dX3_fleeing_6 ?_
  refine ab_icmp_ge (tgt := 150) dX3_fleeing_9 (by decide) (fun c1 => ?_) (fun c1 => ?_)
  · have ht := ht.1 c1
    refine ab_iload_n (i := 2) dX3_fleeing_150 rfl rfl ?_
    exact ab_iret rfl dX3_fleeing_151 (Nat.le_of_ble_eq_true rfl) (Nat.le_of_ble_eq_true rfl) ht
  · have ht := ht.2 c1
    refine ab_aload_n (i := 0) dX3_fleeing_12 rfl rfl ?_
    refine ab_getR (b := 49) f_X3_43 rfl (sh_k hs 43 3 (by decide) rfl) (sh_r hs 55 rfl) dX3_fleeing_13 ?_
    refine ab_iload_n (i := 3) dX3_fleeing_16 rfl rfl ?_
    refine ab_bipush (v := 120) dX3_fleeing_17 (by decide) ?_
    refine ab_imul dX3_fleeing_19 ?_
    refine ab_iload_n (i := 1) dX3_fleeing_20 rfl rfl ?_
    refine ab_iadd dX3_fleeing_21 ?_
    obtain ⟨hc2, ht⟩ := ht
    refine ab_iald (sh_k hs 49 14 (by decide) rfl) hc2 dX3_fleeing_22 ?_
    refine ab_istore (i := 4) (L' := [some (.ref 43), some (.int x1), some (.int x2), some (.int x3), some (.int (ah_i h 49 (Int32.toNatClampNeg ((x3 * 120) + x1)))), none, none, none]) dX3_fleeing_23 (by exact (Nat.le_of_ble_eq_true rfl)) rfl rfl ?_
    refine ab_iload (i := 4) dX3_fleeing_25 rfl ?_
    refine ab_iconst (v := (-1)) dX3_fleeing_27 (by decide) ?_
    refine ab_icmp_ne (tgt := 34) dX3_fleeing_28 (by decide) (fun c3 => ?_) (fun c3 => ?_)
    · have ht := ht.1 c3
      refine ab_aload_n (i := 0) dX3_fleeing_34 rfl rfl ?_
      refine ab_getR (b := 48) f_X3_40 rfl (sh_k hs 43 3 (by decide) rfl) (sh_r hs 54 rfl) dX3_fleeing_35 ?_
      refine ab_iload_n (i := 3) dX3_fleeing_38 rfl rfl ?_
      obtain ⟨hc4, ht⟩ := ht
      refine ab_iald (sh_k hs 48 14 (by decide) rfl) hc4 dX3_fleeing_39 ?_
      refine ab_istore (i := 5) (L' := [some (.ref 43), some (.int x1), some (.int x2), some (.int x3), some (.int (ah_i h 49 (Int32.toNatClampNeg ((x3 * 120) + x1)))), some (.int (ah_i h 48 (Int32.toNatClampNeg x3))), none, none]) dX3_fleeing_40 (by exact (Nat.le_of_ble_eq_true rfl)) rfl rfl ?_
      refine ab_aload_n (i := 0) dX3_fleeing_42 rfl rfl ?_
      refine ab_getR (b := 38) f_X3_72 rfl (sh_k hs 43 3 (by decide) rfl) (sh_r hs 58 rfl) dX3_fleeing_43 ?_
      refine ab_iload (i := 5) dX3_fleeing_46 rfl ?_
      refine ab_iload (i := 4) dX3_fleeing_48 rfl ?_
      refine ab_iload_n (i := 1) dX3_fleeing_50 rfl rfl ?_
      refine ab_callV (b := 38) (As := [.int (ah_i h 48 (Int32.toNatClampNeg x3)), .int (ah_i h 49 (Int32.toNatClampNeg ((x3 * 120) + x1))), .int x1]) ht (Y_X8_fearful) l_X3_156 in_X8_fearful se_X8_fearful (sh_k hs 38 8 (by decide) rfl) (by decide) rfl rfl ⟨(Nat.le_of_ble_eq_true rfl), (Nat.le_of_ble_eq_true rfl), (Nat.le_of_ble_eq_true rfl), (Nat.le_of_ble_eq_true rfl)⟩ dX3_fleeing_51 ?_
      rintro _ h5 ⟨v7, rfl, hs6, ht⟩
      refine ab_istore (i := 6) (L' := [some (.ref 43), some (.int x1), some (.int x2), some (.int x3), some (.int (ah_i h 49 (Int32.toNatClampNeg ((x3 * 120) + x1)))), some (.int (ah_i h 48 (Int32.toNatClampNeg x3))), some (.int v7), none]) dX3_fleeing_54 (by exact (Nat.le_of_ble_eq_true rfl)) rfl rfl ?_
      refine ab_aload_n (i := 0) dX3_fleeing_56 rfl rfl ?_
      refine ab_getI f_X3_49 rfl (sh_k hs6 43 3 (by decide) rfl) dX3_fleeing_57 ?_
      refine ab_iconst (v := (-1)) dX3_fleeing_60 (by decide) ?_
      refine ab_icmp_eq (tgt := 134) dX3_fleeing_61 (by decide) (fun c8 => ?_) (fun c8 => ?_)
      · have ht := ht.1 c8
        refine ab_iload_n (i := 2) dX3_fleeing_134 rfl rfl ?_
        refine ab_iload (i := 6) dX3_fleeing_135 rfl ?_
        refine ab_aload_n (i := 0) dX3_fleeing_137 rfl rfl ?_
        refine ab_getI f_X3_28 rfl (sh_k hs6 43 3 (by decide) rfl) dX3_fleeing_138 ?_
        refine ab_iand dX3_fleeing_141 ?_
        refine ab_ior dX3_fleeing_142 ?_
        refine ab_istore_n (i := 2) (L' := [some (.ref 43), some (.int x1), some (.int (x2 ||| (v7 &&& (ah_i h5 43 5)))), some (.int x3), some (.int (ah_i h 49 (Int32.toNatClampNeg ((x3 * 120) + x1)))), some (.int (ah_i h 48 (Int32.toNatClampNeg x3))), some (.int v7), none]) dX3_fleeing_143 rfl (by exact (Nat.le_of_ble_eq_true rfl)) rfl rfl ?_
        refine ab_iinc (i := 3) (x := x3) (v := (x3 + 1)) (L' := [some (.ref 43), some (.int x1), some (.int (x2 ||| (v7 &&& (ah_i h5 43 5)))), some (.int (x3 + 1)), some (.int (ah_i h 49 (Int32.toNatClampNeg ((x3 * 120) + x1)))), some (.int (ah_i h 48 (Int32.toNatClampNeg x3))), some (.int v7), none]) dX3_fleeing_144 rfl rfl (by exact (Nat.le_of_ble_eq_true rfl)) rfl rfl ?_
        refine ab_goto (tgt := 4) dX3_fleeing_147 (by decide) ?_
        exact Wp.fewer (L' := [some (.ref 43), some (.int x1), some (.int (x2 ||| (v7 &&& (ah_i h5 43 5)))), some (.int (x3 + 1)), none, none, none, none]) (show ab_leL _ _ from ⟨rfl, ⟨rfl, ⟨rfl, ⟨rfl, trivial⟩⟩⟩⟩) ht
      · have ht := ht.2 c8
        refine ab_aload_n (i := 0) dX3_fleeing_64 rfl rfl ?_
        refine ab_getR (b := 29) f_X3_68 rfl (sh_k hs6 43 3 (by decide) rfl) (sh_r hs6 57 rfl) dX3_fleeing_65 ?_
        refine ab_aload_n (i := 0) dX3_fleeing_68 rfl rfl ?_
        refine ab_getR (b := 44) f_X3_15 rfl (sh_k hs6 43 3 (by decide) rfl) (sh_r hs6 50 rfl) dX3_fleeing_69 ?_
        refine ab_aload_n (i := 0) dX3_fleeing_72 rfl rfl ?_
        refine ab_getI f_X3_49 rfl (sh_k hs6 43 3 (by decide) rfl) dX3_fleeing_73 ?_
        obtain ⟨hc9, ht⟩ := ht
        refine ab_iald (sh_k hs6 44 14 (by decide) rfl) hc9 dX3_fleeing_76 ?_
        refine ab_iload (i := 4) dX3_fleeing_77 rfl ?_
        obtain ⟨hc10, ht⟩ := ht
        refine ab_callV (b := 29) (Q' := fun r h' => r = some (.int (f_X6_sight h5 (ah_i h5 44 (Int32.toNatClampNeg (ah_i h5 43 15))) (ah_i h 49 (Int32.toNatClampNeg ((x3 * 120) + x1))))) ∧ h5 = h') (As := [.int (ah_i h5 44 (Int32.toNatClampNeg (ah_i h5 43 15))), .int (ah_i h 49 (Int32.toNatClampNeg ((x3 * 120) + x1)))]) (c_X6_sight hs6 (ah_i h5 44 (Int32.toNatClampNeg (ah_i h5 43 15))) (ah_i h 49 (Int32.toNatClampNeg ((x3 * 120) + x1)))  hc10 ⟨rfl, rfl⟩) (Y_X6_sight) l_X3_160 in_X6_sight se_X6_sight (sh_k hs6 29 6 (by decide) rfl) (by decide) rfl rfl ⟨(Nat.le_of_ble_eq_true rfl), (Nat.le_of_ble_eq_true rfl), (Nat.le_of_ble_eq_true rfl), (Nat.le_of_ble_eq_true rfl)⟩ dX3_fleeing_79 ?_
        rintro _ _ ⟨rfl, rfl⟩
        refine ab_istore (i := 7) (L' := [some (.ref 43), some (.int x1), some (.int x2), some (.int x3), some (.int (ah_i h 49 (Int32.toNatClampNeg ((x3 * 120) + x1)))), some (.int (ah_i h 48 (Int32.toNatClampNeg x3))), some (.int v7), some (.int (f_X6_sight h5 (ah_i h5 44 (Int32.toNatClampNeg (ah_i h5 43 15))) (ah_i h 49 (Int32.toNatClampNeg ((x3 * 120) + x1)))))]) dX3_fleeing_82 (by exact (Nat.le_of_ble_eq_true rfl)) rfl rfl ?_
        refine ab_iload (i := 6) dX3_fleeing_84 rfl ?_
        refine ab_iconst (v := 1) dX3_fleeing_86 (by decide) ?_
        refine ab_aload_n (i := 0) dX3_fleeing_87 rfl rfl ?_
        refine ab_getI f_X3_49 rfl (sh_k hs6 43 3 (by decide) rfl) dX3_fleeing_88 ?_
        refine ab_ishl dX3_fleeing_91 ?_
        refine ab_iconst (v := (-1)) dX3_fleeing_92 (by decide) ?_
        refine ab_ixor dX3_fleeing_93 ?_
        refine ab_iand dX3_fleeing_94 ?_
        refine ab_istore (i := 6) (L' := [some (.ref 43), some (.int x1), some (.int x2), some (.int x3), some (.int (ah_i h 49 (Int32.toNatClampNeg ((x3 * 120) + x1)))), some (.int (ah_i h 48 (Int32.toNatClampNeg x3))), some (.int (v7 &&& (((1 : Int32) <<< ((ah_i h5 43 15) &&& 31)) ^^^ (-1)))), some (.int (f_X6_sight h5 (ah_i h5 44 (Int32.toNatClampNeg (ah_i h5 43 15))) (ah_i h 49 (Int32.toNatClampNeg ((x3 * 120) + x1)))))]) dX3_fleeing_95 (by exact (Nat.le_of_ble_eq_true rfl)) rfl rfl ?_
        refine ab_iload (i := 6) dX3_fleeing_97 rfl ?_
        refine ab_aload_n (i := 0) dX3_fleeing_99 rfl rfl ?_
        refine ab_getR (b := 38) f_X3_72 rfl (sh_k hs6 43 3 (by decide) rfl) (sh_r hs6 58 rfl) dX3_fleeing_100 ?_
        refine ab_iconst (v := 0) dX3_fleeing_103 (by decide) ?_
        refine ab_aload_n (i := 0) dX3_fleeing_104 rfl rfl ?_
        refine ab_getI f_X3_49 rfl (sh_k hs6 43 3 (by decide) rfl) dX3_fleeing_105 ?_
        refine ab_aload_n (i := 0) dX3_fleeing_108 rfl rfl ?_
        refine ab_getR (b := 45) f_X3_19 rfl (sh_k hs6 43 3 (by decide) rfl) (sh_r hs6 51 rfl) dX3_fleeing_109 ?_
        refine ab_aload_n (i := 0) dX3_fleeing_112 rfl rfl ?_
        refine ab_getI f_X3_49 rfl (sh_k hs6 43 3 (by decide) rfl) dX3_fleeing_113 ?_
        obtain ⟨hc11, ht⟩ := ht
        refine ab_iald (sh_k hs6 45 14 (by decide) rfl) hc11 dX3_fleeing_116 ?_
        refine ab_iload (i := 5) dX3_fleeing_117 rfl ?_
        refine ab_iload (i := 7) dX3_fleeing_119 rfl ?_
        refine ab_iconst (v := 1) dX3_fleeing_121 (by decide) ?_
        refine ab_iload_n (i := 1) dX3_fleeing_122 rfl rfl ?_
        refine ab_callV (b := 38) (As := [.int 0, .int (ah_i h5 43 15), .int (ah_i h5 45 (Int32.toNatClampNeg (ah_i h5 43 15))), .int (ah_i h 48 (Int32.toNatClampNeg x3)), .int (f_X6_sight h5 (ah_i h5 44 (Int32.toNatClampNeg (ah_i h5 43 15))) (ah_i h 49 (Int32.toNatClampNeg ((x3 * 120) + x1)))), .int 1, .int x1]) ht (Y_X8_ask) l_X3_165 in_X8_ask se_X8_ask (sh_k hs6 38 8 (by decide) rfl) (by decide) rfl rfl ⟨(Nat.le_of_ble_eq_true rfl), (Nat.le_of_ble_eq_true rfl), (Nat.le_of_ble_eq_true rfl), (Nat.le_of_ble_eq_true rfl)⟩ dX3_fleeing_123 ?_
        rintro _ h12 ⟨v14, rfl, hs13, ht⟩
        refine ab_aload_n (i := 0) dX3_fleeing_126 rfl rfl ?_
        refine ab_getI f_X3_49 rfl (sh_k hs13 43 3 (by decide) rfl) dX3_fleeing_127 ?_
        refine ab_ishl dX3_fleeing_130 ?_
        refine ab_ior dX3_fleeing_131 ?_
        refine ab_istore (i := 6) (L' := [some (.ref 43), some (.int x1), some (.int x2), some (.int x3), some (.int (ah_i h 49 (Int32.toNatClampNeg ((x3 * 120) + x1)))), some (.int (ah_i h 48 (Int32.toNatClampNeg x3))), some (.int ((v7 &&& (((1 : Int32) <<< ((ah_i h5 43 15) &&& 31)) ^^^ (-1))) ||| (v14 <<< ((ah_i h12 43 15) &&& 31)))), some (.int (f_X6_sight h5 (ah_i h5 44 (Int32.toNatClampNeg (ah_i h5 43 15))) (ah_i h 49 (Int32.toNatClampNeg ((x3 * 120) + x1)))))]) dX3_fleeing_132 (by exact (Nat.le_of_ble_eq_true rfl)) rfl rfl ?_
        refine ab_iload_n (i := 2) dX3_fleeing_134 rfl rfl ?_
        refine ab_iload (i := 6) dX3_fleeing_135 rfl ?_
        refine ab_aload_n (i := 0) dX3_fleeing_137 rfl rfl ?_
        refine ab_getI f_X3_28 rfl (sh_k hs13 43 3 (by decide) rfl) dX3_fleeing_138 ?_
        refine ab_iand dX3_fleeing_141 ?_
        refine ab_ior dX3_fleeing_142 ?_
        refine ab_istore_n (i := 2) (L' := [some (.ref 43), some (.int x1), some (.int (x2 ||| (((v7 &&& (((1 : Int32) <<< ((ah_i h5 43 15) &&& 31)) ^^^ (-1))) ||| (v14 <<< ((ah_i h12 43 15) &&& 31))) &&& (ah_i h12 43 5)))), some (.int x3), some (.int (ah_i h 49 (Int32.toNatClampNeg ((x3 * 120) + x1)))), some (.int (ah_i h 48 (Int32.toNatClampNeg x3))), some (.int ((v7 &&& (((1 : Int32) <<< ((ah_i h5 43 15) &&& 31)) ^^^ (-1))) ||| (v14 <<< ((ah_i h12 43 15) &&& 31)))), some (.int (f_X6_sight h5 (ah_i h5 44 (Int32.toNatClampNeg (ah_i h5 43 15))) (ah_i h 49 (Int32.toNatClampNeg ((x3 * 120) + x1)))))]) dX3_fleeing_143 rfl (by exact (Nat.le_of_ble_eq_true rfl)) rfl rfl ?_
        refine ab_iinc (i := 3) (x := x3) (v := (x3 + 1)) (L' := [some (.ref 43), some (.int x1), some (.int (x2 ||| (((v7 &&& (((1 : Int32) <<< ((ah_i h5 43 15) &&& 31)) ^^^ (-1))) ||| (v14 <<< ((ah_i h12 43 15) &&& 31))) &&& (ah_i h12 43 5)))), some (.int (x3 + 1)), some (.int (ah_i h 49 (Int32.toNatClampNeg ((x3 * 120) + x1)))), some (.int (ah_i h 48 (Int32.toNatClampNeg x3))), some (.int ((v7 &&& (((1 : Int32) <<< ((ah_i h5 43 15) &&& 31)) ^^^ (-1))) ||| (v14 <<< ((ah_i h12 43 15) &&& 31)))), some (.int (f_X6_sight h5 (ah_i h5 44 (Int32.toNatClampNeg (ah_i h5 43 15))) (ah_i h 49 (Int32.toNatClampNeg ((x3 * 120) + x1)))))]) dX3_fleeing_144 rfl rfl (by exact (Nat.le_of_ble_eq_true rfl)) rfl rfl ?_
        refine ab_goto (tgt := 4) dX3_fleeing_147 (by decide) ?_
        exact Wp.fewer (L' := [some (.ref 43), some (.int x1), some (.int (x2 ||| (((v7 &&& (((1 : Int32) <<< ((ah_i h5 43 15) &&& 31)) ^^^ (-1))) ||| (v14 <<< ((ah_i h12 43 15) &&& 31))) &&& (ah_i h12 43 5)))), some (.int (x3 + 1)), none, none, none, none]) (show ab_leL _ _ from ⟨rfl, ⟨rfl, ⟨rfl, ⟨rfl, trivial⟩⟩⟩⟩) ht
    · have ht := ht.2 c3
      refine ab_goto (tgt := 144) dX3_fleeing_31 (by decide) ?_
      refine ab_iinc (i := 3) (x := x3) (v := (x3 + 1)) (L' := [some (.ref 43), some (.int x1), some (.int x2), some (.int (x3 + 1)), some (.int (ah_i h 49 (Int32.toNatClampNeg ((x3 * 120) + x1)))), none, none, none]) dX3_fleeing_144 rfl rfl (by exact (Nat.le_of_ble_eq_true rfl)) rfl rfl ?_
      refine ab_goto (tgt := 4) dX3_fleeing_147 (by decide) ?_
      exact Wp.fewer (L' := [some (.ref 43), some (.int x1), some (.int x2), some (.int (x3 + 1)), none, none, none, none]) (show ab_leL _ _ from ⟨rfl, ⟨rfl, ⟨rfl, ⟨rfl, trivial⟩⟩⟩⟩) ht
set_option maxRecDepth 20000 in
theorem T_X3_fleeing {Q : Option Value → ah_T → Prop} {h : ah_T} (hs : Sh h) (x1 : Int32) (ht : Wp mX3_fleeing Q 0 0 4 [some (.ref 43), some (.int x1), some (.int 0), some (.int 0), none, none, none, none] [] h) : Mt mX3_fleeing [.ref 43, .int x1] h Q := by
  refine Mt.ofWp rfl (by exact (Nat.le_of_ble_eq_true rfl)) (Wp.fewer (L' := [some (.ref 43), some (.int x1), none, none, none, none, none, none]) (show ab_leL _ _ from ⟨rfl, ⟨rfl, trivial⟩⟩) ?_)
  refine ab_iconst (v := 0) dX3_fleeing_0 (by decide) ?_
  refine ab_istore_n (i := 2) (L' := [some (.ref 43), some (.int x1), some (.int 0), none, none, none, none, none]) dX3_fleeing_1 rfl (by exact (Nat.le_of_ble_eq_true rfl)) rfl rfl ?_
  refine ab_iconst (v := 0) dX3_fleeing_2 (by decide) ?_
  refine ab_istore_n (i := 3) (L' := [some (.ref 43), some (.int x1), some (.int 0), some (.int 0), none, none, none, none]) dX3_fleeing_3 rfl (by exact (Nat.le_of_ble_eq_true rfl)) rfl rfl ?_
  exact Wp.fewer (L' := [some (.ref 43), some (.int x1), some (.int 0), some (.int 0), none, none, none, none]) (show ab_leL _ _ from ⟨rfl, ⟨rfl, ⟨rfl, ⟨rfl, trivial⟩⟩⟩⟩) ht
theorem dX3_shunnedBy_0 : decode cX3_shunnedBy 0 = .ok (.aload_n 0, 1) := by decide +kernel
theorem dX3_shunnedBy_1 : decode cX3_shunnedBy 1 = .ok (.getfield 49, 3) := by decide +kernel
theorem dX3_shunnedBy_4 : decode cX3_shunnedBy 4 = .ok (.iconst (-1), 1) := by decide +kernel
theorem dX3_shunnedBy_5 : decode cX3_shunnedBy 5 = .ok (.if_icmp .ne 7, 3) := by decide +kernel
theorem dX3_shunnedBy_8 : decode cX3_shunnedBy 8 = .ok (.iconst 0, 1) := by decide +kernel
theorem dX3_shunnedBy_9 : decode cX3_shunnedBy 9 = .ok (.goto 35, 3) := by decide +kernel
theorem dX3_shunnedBy_12 : decode cX3_shunnedBy 12 = .ok (.iload_n 1, 1) := by decide +kernel
theorem dX3_shunnedBy_13 : decode cX3_shunnedBy 13 = .ok (.aload_n 0, 1) := by decide +kernel
theorem dX3_shunnedBy_14 : decode cX3_shunnedBy 14 = .ok (.getfield 49, 3) := by decide +kernel
theorem dX3_shunnedBy_17 : decode cX3_shunnedBy 17 = .ok (.if_icmp .ne 16, 3) := by decide +kernel
theorem dX3_shunnedBy_20 : decode cX3_shunnedBy 20 = .ok (.aload_n 0, 1) := by decide +kernel
theorem dX3_shunnedBy_21 : decode cX3_shunnedBy 21 = .ok (.getfield 28, 3) := by decide +kernel
theorem dX3_shunnedBy_24 : decode cX3_shunnedBy 24 = .ok (.iconst 1, 1) := by decide +kernel
theorem dX3_shunnedBy_25 : decode cX3_shunnedBy 25 = .ok (.iload_n 1, 1) := by decide +kernel
theorem dX3_shunnedBy_26 : decode cX3_shunnedBy 26 = .ok (.ishl, 1) := by decide +kernel
theorem dX3_shunnedBy_27 : decode cX3_shunnedBy 27 = .ok (.iconst (-1), 1) := by decide +kernel
theorem dX3_shunnedBy_28 : decode cX3_shunnedBy 28 = .ok (.ixor, 1) := by decide +kernel
theorem dX3_shunnedBy_29 : decode cX3_shunnedBy 29 = .ok (.iand, 1) := by decide +kernel
theorem dX3_shunnedBy_30 : decode cX3_shunnedBy 30 = .ok (.goto 14, 3) := by decide +kernel
theorem dX3_shunnedBy_33 : decode cX3_shunnedBy 33 = .ok (.aload_n 0, 1) := by decide +kernel
theorem dX3_shunnedBy_34 : decode cX3_shunnedBy 34 = .ok (.getfield 28, 3) := by decide +kernel
theorem dX3_shunnedBy_37 : decode cX3_shunnedBy 37 = .ok (.iconst 1, 1) := by decide +kernel
theorem dX3_shunnedBy_38 : decode cX3_shunnedBy 38 = .ok (.aload_n 0, 1) := by decide +kernel
theorem dX3_shunnedBy_39 : decode cX3_shunnedBy 39 = .ok (.getfield 49, 3) := by decide +kernel
theorem dX3_shunnedBy_42 : decode cX3_shunnedBy 42 = .ok (.ishl, 1) := by decide +kernel
theorem dX3_shunnedBy_43 : decode cX3_shunnedBy 43 = .ok (.iand, 1) := by decide +kernel
theorem dX3_shunnedBy_44 : decode cX3_shunnedBy 44 = .ok (.istore_n 3, 1) := by decide +kernel
theorem dX3_shunnedBy_45 : decode cX3_shunnedBy 45 = .ok (.aload_n 0, 1) := by decide +kernel
theorem dX3_shunnedBy_46 : decode cX3_shunnedBy 46 = .ok (.getfield 28, 3) := by decide +kernel
theorem dX3_shunnedBy_49 : decode cX3_shunnedBy 49 = .ok (.iload_n 3, 1) := by decide +kernel
theorem dX3_shunnedBy_50 : decode cX3_shunnedBy 50 = .ok (.iconst (-1), 1) := by decide +kernel
theorem dX3_shunnedBy_51 : decode cX3_shunnedBy 51 = .ok (.ixor, 1) := by decide +kernel
theorem dX3_shunnedBy_52 : decode cX3_shunnedBy 52 = .ok (.iand, 1) := by decide +kernel
theorem dX3_shunnedBy_53 : decode cX3_shunnedBy 53 = .ok (.iconst 1, 1) := by decide +kernel
theorem dX3_shunnedBy_54 : decode cX3_shunnedBy 54 = .ok (.iload_n 1, 1) := by decide +kernel
theorem dX3_shunnedBy_55 : decode cX3_shunnedBy 55 = .ok (.ishl, 1) := by decide +kernel
theorem dX3_shunnedBy_56 : decode cX3_shunnedBy 56 = .ok (.iconst (-1), 1) := by decide +kernel
theorem dX3_shunnedBy_57 : decode cX3_shunnedBy 57 = .ok (.ixor, 1) := by decide +kernel
theorem dX3_shunnedBy_58 : decode cX3_shunnedBy 58 = .ok (.iand, 1) := by decide +kernel
theorem dX3_shunnedBy_59 : decode cX3_shunnedBy 59 = .ok (.istore 4, 2) := by decide +kernel
theorem dX3_shunnedBy_61 : decode cX3_shunnedBy 61 = .ok (.iconst 0, 1) := by decide +kernel
theorem dX3_shunnedBy_62 : decode cX3_shunnedBy 62 = .ok (.istore 5, 2) := by decide +kernel
theorem dX3_shunnedBy_64 : decode cX3_shunnedBy 64 = .ok (.iload 4, 2) := by decide +kernel
theorem dX3_shunnedBy_66 : decode cX3_shunnedBy 66 = .ok (.ifCond .eq 72, 3) := by decide +kernel
theorem dX3_shunnedBy_69 : decode cX3_shunnedBy 69 = .ok (.aload_n 0, 1) := by decide +kernel
theorem dX3_shunnedBy_70 : decode cX3_shunnedBy 70 = .ok (.getfield 72, 3) := by decide +kernel
theorem dX3_shunnedBy_73 : decode cX3_shunnedBy 73 = .ok (.iconst 0, 1) := by decide +kernel
theorem dX3_shunnedBy_74 : decode cX3_shunnedBy 74 = .ok (.iconst 4, 1) := by decide +kernel
theorem dX3_shunnedBy_75 : decode cX3_shunnedBy 75 = .ok (.invokevirtual 150, 3) := by decide +kernel
theorem dX3_shunnedBy_78 : decode cX3_shunnedBy 78 = .ok (.ifCond .eq 11, 3) := by decide +kernel
theorem dX3_shunnedBy_81 : decode cX3_shunnedBy 81 = .ok (.aload_n 0, 1) := by decide +kernel
theorem dX3_shunnedBy_82 : decode cX3_shunnedBy 82 = .ok (.iload_n 1, 1) := by decide +kernel
theorem dX3_shunnedBy_83 : decode cX3_shunnedBy 83 = .ok (.invokevirtual 169, 3) := by decide +kernel
theorem dX3_shunnedBy_86 : decode cX3_shunnedBy 86 = .ok (.goto 4, 3) := by decide +kernel
theorem dX3_shunnedBy_89 : decode cX3_shunnedBy 89 = .ok (.iconst 0, 1) := by decide +kernel
theorem dX3_shunnedBy_90 : decode cX3_shunnedBy 90 = .ok (.istore 6, 2) := by decide +kernel
theorem dX3_shunnedBy_92 : decode cX3_shunnedBy 92 = .ok (.aload_n 0, 1) := by decide +kernel
theorem dX3_shunnedBy_93 : decode cX3_shunnedBy 93 = .ok (.getfield 72, 3) := by decide +kernel
theorem dX3_shunnedBy_96 : decode cX3_shunnedBy 96 = .ok (.iload_n 1, 1) := by decide +kernel
theorem dX3_shunnedBy_97 : decode cX3_shunnedBy 97 = .ok (.iconst 0, 1) := by decide +kernel
theorem dX3_shunnedBy_98 : decode cX3_shunnedBy 98 = .ok (.iload_n 2, 1) := by decide +kernel
theorem dX3_shunnedBy_99 : decode cX3_shunnedBy 99 = .ok (.invokevirtual 172, 3) := by decide +kernel
theorem dX3_shunnedBy_102 : decode cX3_shunnedBy 102 = .ok (.iload 4, 2) := by decide +kernel
theorem dX3_shunnedBy_104 : decode cX3_shunnedBy 104 = .ok (.iand, 1) := by decide +kernel
theorem dX3_shunnedBy_105 : decode cX3_shunnedBy 105 = .ok (.iload 6, 2) := by decide +kernel
theorem dX3_shunnedBy_107 : decode cX3_shunnedBy 107 = .ok (.iconst (-1), 1) := by decide +kernel
theorem dX3_shunnedBy_108 : decode cX3_shunnedBy 108 = .ok (.ixor, 1) := by decide +kernel
theorem dX3_shunnedBy_109 : decode cX3_shunnedBy 109 = .ok (.iand, 1) := by decide +kernel
theorem dX3_shunnedBy_110 : decode cX3_shunnedBy 110 = .ok (.istore 5, 2) := by decide +kernel
theorem dX3_shunnedBy_112 : decode cX3_shunnedBy 112 = .ok (.iload 6, 2) := by decide +kernel
theorem dX3_shunnedBy_114 : decode cX3_shunnedBy 114 = .ok (.ifCond .eq 24, 3) := by decide +kernel
theorem dX3_shunnedBy_117 : decode cX3_shunnedBy 117 = .ok (.iload 5, 2) := by decide +kernel
theorem dX3_shunnedBy_119 : decode cX3_shunnedBy 119 = .ok (.aload_n 0, 1) := by decide +kernel
theorem dX3_shunnedBy_120 : decode cX3_shunnedBy 120 = .ok (.getfield 72, 3) := by decide +kernel
theorem dX3_shunnedBy_123 : decode cX3_shunnedBy 123 = .ok (.iload_n 1, 1) := by decide +kernel
theorem dX3_shunnedBy_124 : decode cX3_shunnedBy 124 = .ok (.iconst 1, 1) := by decide +kernel
theorem dX3_shunnedBy_125 : decode cX3_shunnedBy 125 = .ok (.iload_n 2, 1) := by decide +kernel
theorem dX3_shunnedBy_126 : decode cX3_shunnedBy 126 = .ok (.invokevirtual 172, 3) := by decide +kernel
theorem dX3_shunnedBy_129 : decode cX3_shunnedBy 129 = .ok (.iload 4, 2) := by decide +kernel
theorem dX3_shunnedBy_131 : decode cX3_shunnedBy 131 = .ok (.iand, 1) := by decide +kernel
theorem dX3_shunnedBy_132 : decode cX3_shunnedBy 132 = .ok (.iload 6, 2) := by decide +kernel
theorem dX3_shunnedBy_134 : decode cX3_shunnedBy 134 = .ok (.iand, 1) := by decide +kernel
theorem dX3_shunnedBy_135 : decode cX3_shunnedBy 135 = .ok (.ior, 1) := by decide +kernel
theorem dX3_shunnedBy_136 : decode cX3_shunnedBy 136 = .ok (.istore 5, 2) := by decide +kernel
theorem dX3_shunnedBy_138 : decode cX3_shunnedBy 138 = .ok (.iconst 0, 1) := by decide +kernel
theorem dX3_shunnedBy_139 : decode cX3_shunnedBy 139 = .ok (.istore 6, 2) := by decide +kernel
theorem dX3_shunnedBy_141 : decode cX3_shunnedBy 141 = .ok (.iload 6, 2) := by decide +kernel
theorem dX3_shunnedBy_143 : decode cX3_shunnedBy 143 = .ok (.aload_n 0, 1) := by decide +kernel
theorem dX3_shunnedBy_144 : decode cX3_shunnedBy 144 = .ok (.getfield 9, 3) := by decide +kernel
theorem dX3_shunnedBy_147 : decode cX3_shunnedBy 147 = .ok (.if_icmp .ge 105, 3) := by decide +kernel
theorem dX3_shunnedBy_150 : decode cX3_shunnedBy 150 = .ok (.iload_n 3, 1) := by decide +kernel
theorem dX3_shunnedBy_151 : decode cX3_shunnedBy 151 = .ok (.ifCond .eq 101, 3) := by decide +kernel
theorem dX3_shunnedBy_154 : decode cX3_shunnedBy 154 = .ok (.iload_n 3, 1) := by decide +kernel
theorem dX3_shunnedBy_155 : decode cX3_shunnedBy 155 = .ok (.iload 6, 2) := by decide +kernel
theorem dX3_shunnedBy_157 : decode cX3_shunnedBy 157 = .ok (.ishr, 1) := by decide +kernel
theorem dX3_shunnedBy_158 : decode cX3_shunnedBy 158 = .ok (.iconst 1, 1) := by decide +kernel
theorem dX3_shunnedBy_159 : decode cX3_shunnedBy 159 = .ok (.iand, 1) := by decide +kernel
theorem dX3_shunnedBy_160 : decode cX3_shunnedBy 160 = .ok (.ifCond .ne 6, 3) := by decide +kernel
theorem dX3_shunnedBy_163 : decode cX3_shunnedBy 163 = .ok (.goto 83, 3) := by decide +kernel
theorem dX3_shunnedBy_166 : decode cX3_shunnedBy 166 = .ok (.aload_n 0, 1) := by decide +kernel
theorem dX3_shunnedBy_167 : decode cX3_shunnedBy 167 = .ok (.getfield 68, 3) := by decide +kernel
theorem dX3_shunnedBy_170 : decode cX3_shunnedBy 170 = .ok (.aload_n 0, 1) := by decide +kernel
theorem dX3_shunnedBy_171 : decode cX3_shunnedBy 171 = .ok (.getfield 15, 3) := by decide +kernel
theorem dX3_shunnedBy_174 : decode cX3_shunnedBy 174 = .ok (.iload_n 1, 1) := by decide +kernel
theorem dX3_shunnedBy_175 : decode cX3_shunnedBy 175 = .ok (.iaload, 1) := by decide +kernel
theorem dX3_shunnedBy_176 : decode cX3_shunnedBy 176 = .ok (.aload_n 0, 1) := by decide +kernel
theorem dX3_shunnedBy_177 : decode cX3_shunnedBy 177 = .ok (.getfield 15, 3) := by decide +kernel
theorem dX3_shunnedBy_180 : decode cX3_shunnedBy 180 = .ok (.iload 6, 2) := by decide +kernel
theorem dX3_shunnedBy_182 : decode cX3_shunnedBy 182 = .ok (.iaload, 1) := by decide +kernel
theorem dX3_shunnedBy_183 : decode cX3_shunnedBy 183 = .ok (.invokevirtual 160, 3) := by decide +kernel
theorem dX3_shunnedBy_186 : decode cX3_shunnedBy 186 = .ok (.istore 7, 2) := by decide +kernel
theorem dX3_shunnedBy_188 : decode cX3_shunnedBy 188 = .ok (.aload_n 0, 1) := by decide +kernel
theorem dX3_shunnedBy_189 : decode cX3_shunnedBy 189 = .ok (.getfield 25, 3) := by decide +kernel
theorem dX3_shunnedBy_192 : decode cX3_shunnedBy 192 = .ok (.iload_n 1, 1) := by decide +kernel
theorem dX3_shunnedBy_193 : decode cX3_shunnedBy 193 = .ok (.iaload, 1) := by decide +kernel
theorem dX3_shunnedBy_194 : decode cX3_shunnedBy 194 = .ok (.aload_n 0, 1) := by decide +kernel
theorem dX3_shunnedBy_195 : decode cX3_shunnedBy 195 = .ok (.getfield 25, 3) := by decide +kernel
theorem dX3_shunnedBy_198 : decode cX3_shunnedBy 198 = .ok (.iload 6, 2) := by decide +kernel
theorem dX3_shunnedBy_200 : decode cX3_shunnedBy 200 = .ok (.iaload, 1) := by decide +kernel
theorem dX3_shunnedBy_201 : decode cX3_shunnedBy 201 = .ok (.if_icmp .le 7, 3) := by decide +kernel
theorem dX3_shunnedBy_204 : decode cX3_shunnedBy 204 = .ok (.iconst 1, 1) := by decide +kernel
theorem dX3_shunnedBy_205 : decode cX3_shunnedBy 205 = .ok (.goto 4, 3) := by decide +kernel
theorem dX3_shunnedBy_208 : decode cX3_shunnedBy 208 = .ok (.iconst 0, 1) := by decide +kernel
theorem dX3_shunnedBy_209 : decode cX3_shunnedBy 209 = .ok (.istore 8, 2) := by decide +kernel
theorem dX3_shunnedBy_211 : decode cX3_shunnedBy 211 = .ok (.iload 5, 2) := by decide +kernel
theorem dX3_shunnedBy_213 : decode cX3_shunnedBy 213 = .ok (.aload_n 0, 1) := by decide +kernel
theorem dX3_shunnedBy_214 : decode cX3_shunnedBy 214 = .ok (.getfield 72, 3) := by decide +kernel
theorem dX3_shunnedBy_217 : decode cX3_shunnedBy 217 = .ok (.iconst 0, 1) := by decide +kernel
theorem dX3_shunnedBy_218 : decode cX3_shunnedBy 218 = .ok (.iload_n 1, 1) := by decide +kernel
theorem dX3_shunnedBy_219 : decode cX3_shunnedBy 219 = .ok (.aload_n 0, 1) := by decide +kernel
theorem dX3_shunnedBy_220 : decode cX3_shunnedBy 220 = .ok (.getfield 19, 3) := by decide +kernel
theorem dX3_shunnedBy_223 : decode cX3_shunnedBy 223 = .ok (.iload_n 1, 1) := by decide +kernel
theorem dX3_shunnedBy_224 : decode cX3_shunnedBy 224 = .ok (.iaload, 1) := by decide +kernel
theorem dX3_shunnedBy_225 : decode cX3_shunnedBy 225 = .ok (.aload_n 0, 1) := by decide +kernel
theorem dX3_shunnedBy_226 : decode cX3_shunnedBy 226 = .ok (.getfield 19, 3) := by decide +kernel
theorem dX3_shunnedBy_229 : decode cX3_shunnedBy 229 = .ok (.iload 6, 2) := by decide +kernel
theorem dX3_shunnedBy_231 : decode cX3_shunnedBy 231 = .ok (.iaload, 1) := by decide +kernel
theorem dX3_shunnedBy_232 : decode cX3_shunnedBy 232 = .ok (.iload 7, 2) := by decide +kernel
theorem dX3_shunnedBy_234 : decode cX3_shunnedBy 234 = .ok (.iload 8, 2) := by decide +kernel
theorem dX3_shunnedBy_236 : decode cX3_shunnedBy 236 = .ok (.iload_n 2, 1) := by decide +kernel
theorem dX3_shunnedBy_237 : decode cX3_shunnedBy 237 = .ok (.invokevirtual 165, 3) := by decide +kernel
theorem dX3_shunnedBy_240 : decode cX3_shunnedBy 240 = .ok (.iload 6, 2) := by decide +kernel
theorem dX3_shunnedBy_242 : decode cX3_shunnedBy 242 = .ok (.ishl, 1) := by decide +kernel
theorem dX3_shunnedBy_243 : decode cX3_shunnedBy 243 = .ok (.ior, 1) := by decide +kernel
theorem dX3_shunnedBy_244 : decode cX3_shunnedBy 244 = .ok (.istore 5, 2) := by decide +kernel
theorem dX3_shunnedBy_246 : decode cX3_shunnedBy 246 = .ok (.iinc 6 1, 3) := by decide +kernel
theorem dX3_shunnedBy_249 : decode cX3_shunnedBy 249 = .ok (.goto (-108), 3) := by decide +kernel
theorem dX3_shunnedBy_252 : decode cX3_shunnedBy 252 = .ok (.iload 5, 2) := by decide +kernel
theorem dX3_shunnedBy_254 : decode cX3_shunnedBy 254 = .ok (.ireturn, 1) := by decide +kernel
set_option maxRecDepth 20000 in
theorem T_X3_shunnedBy_138 {Q : Option Value → ah_T → Prop} {h : ah_T} (hs : Sh h) (x1 : Int32) (x2 : Int32) (x3 : Int32) (x5 : Int32) (ht : Wp mX3_shunnedBy Q 0 0 141 [some (.ref 43), some (.int x1), some (.int x2), some (.int x3), none, some (.int x5), some (.int 0), none, none] [] h) : Wp mX3_shunnedBy Q 0 0 138 [some (.ref 43), some (.int x1), some (.int x2), some (.int x3), none, some (.int x5), none, none, none] [] h := by
  refine ab_iconst (v := 0) dX3_shunnedBy_138 (by decide) ?_
  refine ab_istore (i := 6) (L' := [some (.ref 43), some (.int x1), some (.int x2), some (.int x3), none, some (.int x5), some (.int 0), none, none]) dX3_shunnedBy_139 (by exact (Nat.le_of_ble_eq_true rfl)) rfl rfl ?_
  exact Wp.fewer (L' := [some (.ref 43), some (.int x1), some (.int x2), some (.int x3), none, some (.int x5), some (.int 0), none, none]) (show ab_leL _ _ from ⟨rfl, ⟨rfl, ⟨rfl, ⟨rfl, ⟨rfl, ⟨rfl, trivial⟩⟩⟩⟩⟩⟩) ht
set_option maxRecDepth 20000 in
theorem T_X3_shunnedBy_141 {Q : Option Value → ah_T → Prop} {h : ah_T} (hs : Sh h) (x1 : Int32) (x2 : Int32) (x3 : Int32) (x5 : Int32) (x6 : Int32) (ht : (((ah_i h 43 0) ≤ x6 → Wp mX3_shunnedBy Q 0 0 252 [none, none, none, none, none, some (.int x5), none, none, none] [] h) ∧ (¬ (ah_i h 43 0) ≤ x6 → ((x3 = 0 → Wp mX3_shunnedBy Q 0 0 252 [none, none, none, none, none, some (.int x5), none, none, none] [] h) ∧ (¬ x3 = 0 → ((¬ ((x3 >>> (x6 &&& 31)) &&& 1) = 0 → (vp_in x1 (ah_n h 44)) ∧ (vp_in x6 (ah_n h 44)) ∧ ((¬ (f_X11_isIn (ah_i h 44 (Int32.toNatClampNeg x1)) 12) = 0 → (¬ (f_X11_isIn (ah_i h 44 (Int32.toNatClampNeg x6)) 12) = 0 → vp_in (((ah_i h 44 (Int32.toNatClampNeg x1)) * 12) + (ah_i h 44 (Int32.toNatClampNeg x6))) (ah_n h 34)))) ∧ (vp_in x1 (ah_n h 47)) ∧ (vp_in x6 (ah_n h 47)) ∧ (((ah_i h 47 (Int32.toNatClampNeg x1)) ≤ (ah_i h 47 (Int32.toNatClampNeg x6)) → (vp_in x1 (ah_n h 45)) ∧ (vp_in x6 (ah_n h 45)) ∧ (Mt mX8_ask [.ref 38, .int 0, .int x1, .int (ah_i h 45 (Int32.toNatClampNeg x1)), .int (ah_i h 45 (Int32.toNatClampNeg x6)), .int (f_X6_sight h (ah_i h 44 (Int32.toNatClampNeg x1)) (ah_i h 44 (Int32.toNatClampNeg x6))), .int 0, .int x2] h (ab_qi fun v70 h68 => Sh h68 ∧ Wp mX3_shunnedBy Q 0 0 246 [some (.ref 43), some (.int x1), some (.int x2), some (.int x3), none, some (.int (x5 ||| (v70 <<< (x6 &&& 31)))), some (.int x6), none, none] [] h68))) ∧ (¬ (ah_i h 47 (Int32.toNatClampNeg x1)) ≤ (ah_i h 47 (Int32.toNatClampNeg x6)) → (vp_in x1 (ah_n h 45)) ∧ (vp_in x6 (ah_n h 45)) ∧ (Mt mX8_ask [.ref 38, .int 0, .int x1, .int (ah_i h 45 (Int32.toNatClampNeg x1)), .int (ah_i h 45 (Int32.toNatClampNeg x6)), .int (f_X6_sight h (ah_i h 44 (Int32.toNatClampNeg x1)) (ah_i h 44 (Int32.toNatClampNeg x6))), .int 1, .int x2] h (ab_qi fun v75 h73 => Sh h73 ∧ Wp mX3_shunnedBy Q 0 0 246 [some (.ref 43), some (.int x1), some (.int x2), some (.int x3), none, some (.int (x5 ||| (v75 <<< (x6 &&& 31)))), some (.int x6), none, none] [] h73))))) ∧ (((x3 >>> (x6 &&& 31)) &&& 1) = 0 → Wp mX3_shunnedBy Q 0 0 246 [some (.ref 43), some (.int x1), some (.int x2), some (.int x3), none, some (.int x5), some (.int x6), none, none] [] h))))))) : Wp mX3_shunnedBy Q 0 0 141 [some (.ref 43), some (.int x1), some (.int x2), some (.int x3), none, some (.int x5), some (.int x6), none, none] [] h := by
  refine ab_iload (i := 6) dX3_shunnedBy_141 rfl ?_
  refine ab_aload_n (i := 0) dX3_shunnedBy_143 rfl rfl ?_
  refine ab_getI f_X3_9 rfl (sh_k hs 43 3 (by decide) rfl) dX3_shunnedBy_144 ?_
  refine ab_icmp_ge (tgt := 252) dX3_shunnedBy_147 (by decide) (fun c57 => ?_) (fun c57 => ?_)
  · have ht := ht.1 c57
    exact Wp.fewer (L' := [none, none, none, none, none, some (.int x5), none, none, none]) (show ab_leL _ _ from ⟨rfl, trivial⟩) ht
  · have ht := ht.2 c57
    refine ab_iload_n (i := 3) dX3_shunnedBy_150 rfl rfl ?_
    refine ab_if_eq (tgt := 252) dX3_shunnedBy_151 (by decide) (fun c58 => ?_) (fun c58 => ?_)
    · have ht := ht.1 c58
      exact Wp.fewer (L' := [none, none, none, none, none, some (.int x5), none, none, none]) (show ab_leL _ _ from ⟨rfl, trivial⟩) ht
    · have ht := ht.2 c58
      refine ab_iload_n (i := 3) dX3_shunnedBy_154 rfl rfl ?_
      refine ab_iload (i := 6) dX3_shunnedBy_155 rfl ?_
      refine ab_ishr dX3_shunnedBy_157 ?_
      refine ab_iconst (v := 1) dX3_shunnedBy_158 (by decide) ?_
      refine ab_iand dX3_shunnedBy_159 ?_
      refine ab_if_ne (tgt := 166) dX3_shunnedBy_160 (by decide) (fun c59 => ?_) (fun c59 => ?_)
      · have ht := ht.1 c59
        refine ab_aload_n (i := 0) dX3_shunnedBy_166 rfl rfl ?_
        refine ab_getR (b := 29) f_X3_68 rfl (sh_k hs 43 3 (by decide) rfl) (sh_r hs 57 rfl) dX3_shunnedBy_167 ?_
        refine ab_aload_n (i := 0) dX3_shunnedBy_170 rfl rfl ?_
        refine ab_getR (b := 44) f_X3_15 rfl (sh_k hs 43 3 (by decide) rfl) (sh_r hs 50 rfl) dX3_shunnedBy_171 ?_
        refine ab_iload_n (i := 1) dX3_shunnedBy_174 rfl rfl ?_
        obtain ⟨hc60, ht⟩ := ht
        refine ab_iald (sh_k hs 44 14 (by decide) rfl) hc60 dX3_shunnedBy_175 ?_
        refine ab_aload_n (i := 0) dX3_shunnedBy_176 rfl rfl ?_
        refine ab_getR (b := 44) f_X3_15 rfl (sh_k hs 43 3 (by decide) rfl) (sh_r hs 50 rfl) dX3_shunnedBy_177 ?_
        refine ab_iload (i := 6) dX3_shunnedBy_180 rfl ?_
        obtain ⟨hc61, ht⟩ := ht
        refine ab_iald (sh_k hs 44 14 (by decide) rfl) hc61 dX3_shunnedBy_182 ?_
        obtain ⟨hc62, ht⟩ := ht
        refine ab_callV (b := 29) (Q' := fun r h' => r = some (.int (f_X6_sight h (ah_i h 44 (Int32.toNatClampNeg x1)) (ah_i h 44 (Int32.toNatClampNeg x6)))) ∧ h = h') (As := [.int (ah_i h 44 (Int32.toNatClampNeg x1)), .int (ah_i h 44 (Int32.toNatClampNeg x6))]) (c_X6_sight hs (ah_i h 44 (Int32.toNatClampNeg x1)) (ah_i h 44 (Int32.toNatClampNeg x6))  hc62 ⟨rfl, rfl⟩) (Y_X6_sight) l_X3_160 in_X6_sight se_X6_sight (sh_k hs 29 6 (by decide) rfl) (by decide) rfl rfl ⟨(Nat.le_of_ble_eq_true rfl), (Nat.le_of_ble_eq_true rfl), (Nat.le_of_ble_eq_true rfl), (Nat.le_of_ble_eq_true rfl)⟩ dX3_shunnedBy_183 ?_
        rintro _ _ ⟨rfl, rfl⟩
        refine ab_istore (i := 7) (L' := [some (.ref 43), some (.int x1), some (.int x2), some (.int x3), none, some (.int x5), some (.int x6), some (.int (f_X6_sight h (ah_i h 44 (Int32.toNatClampNeg x1)) (ah_i h 44 (Int32.toNatClampNeg x6)))), none]) dX3_shunnedBy_186 (by exact (Nat.le_of_ble_eq_true rfl)) rfl rfl ?_
        refine ab_aload_n (i := 0) dX3_shunnedBy_188 rfl rfl ?_
        refine ab_getR (b := 47) f_X3_25 rfl (sh_k hs 43 3 (by decide) rfl) (sh_r hs 53 rfl) dX3_shunnedBy_189 ?_
        refine ab_iload_n (i := 1) dX3_shunnedBy_192 rfl rfl ?_
        obtain ⟨hc63, ht⟩ := ht
        refine ab_iald (sh_k hs 47 14 (by decide) rfl) hc63 dX3_shunnedBy_193 ?_
        refine ab_aload_n (i := 0) dX3_shunnedBy_194 rfl rfl ?_
        refine ab_getR (b := 47) f_X3_25 rfl (sh_k hs 43 3 (by decide) rfl) (sh_r hs 53 rfl) dX3_shunnedBy_195 ?_
        refine ab_iload (i := 6) dX3_shunnedBy_198 rfl ?_
        obtain ⟨hc64, ht⟩ := ht
        refine ab_iald (sh_k hs 47 14 (by decide) rfl) hc64 dX3_shunnedBy_200 ?_
        refine ab_icmp_le (tgt := 208) dX3_shunnedBy_201 (by decide) (fun c65 => ?_) (fun c65 => ?_)
        · have ht := ht.1 c65
          refine ab_iconst (v := 0) dX3_shunnedBy_208 (by decide) ?_
          refine ab_istore (i := 8) (L' := [some (.ref 43), some (.int x1), some (.int x2), some (.int x3), none, some (.int x5), some (.int x6), some (.int (f_X6_sight h (ah_i h 44 (Int32.toNatClampNeg x1)) (ah_i h 44 (Int32.toNatClampNeg x6)))), some (.int 0)]) dX3_shunnedBy_209 (by exact (Nat.le_of_ble_eq_true rfl)) rfl rfl ?_
          refine ab_iload (i := 5) dX3_shunnedBy_211 rfl ?_
          refine ab_aload_n (i := 0) dX3_shunnedBy_213 rfl rfl ?_
          refine ab_getR (b := 38) f_X3_72 rfl (sh_k hs 43 3 (by decide) rfl) (sh_r hs 58 rfl) dX3_shunnedBy_214 ?_
          refine ab_iconst (v := 0) dX3_shunnedBy_217 (by decide) ?_
          refine ab_iload_n (i := 1) dX3_shunnedBy_218 rfl rfl ?_
          refine ab_aload_n (i := 0) dX3_shunnedBy_219 rfl rfl ?_
          refine ab_getR (b := 45) f_X3_19 rfl (sh_k hs 43 3 (by decide) rfl) (sh_r hs 51 rfl) dX3_shunnedBy_220 ?_
          refine ab_iload_n (i := 1) dX3_shunnedBy_223 rfl rfl ?_
          obtain ⟨hc66, ht⟩ := ht
          refine ab_iald (sh_k hs 45 14 (by decide) rfl) hc66 dX3_shunnedBy_224 ?_
          refine ab_aload_n (i := 0) dX3_shunnedBy_225 rfl rfl ?_
          refine ab_getR (b := 45) f_X3_19 rfl (sh_k hs 43 3 (by decide) rfl) (sh_r hs 51 rfl) dX3_shunnedBy_226 ?_
          refine ab_iload (i := 6) dX3_shunnedBy_229 rfl ?_
          obtain ⟨hc67, ht⟩ := ht
          refine ab_iald (sh_k hs 45 14 (by decide) rfl) hc67 dX3_shunnedBy_231 ?_
          refine ab_iload (i := 7) dX3_shunnedBy_232 rfl ?_
          refine ab_iload (i := 8) dX3_shunnedBy_234 rfl ?_
          refine ab_iload_n (i := 2) dX3_shunnedBy_236 rfl rfl ?_
          refine ab_callV (b := 38) (As := [.int 0, .int x1, .int (ah_i h 45 (Int32.toNatClampNeg x1)), .int (ah_i h 45 (Int32.toNatClampNeg x6)), .int (f_X6_sight h (ah_i h 44 (Int32.toNatClampNeg x1)) (ah_i h 44 (Int32.toNatClampNeg x6))), .int 0, .int x2]) ht (Y_X8_ask) l_X3_165 in_X8_ask se_X8_ask (sh_k hs 38 8 (by decide) rfl) (by decide) rfl rfl ⟨(Nat.le_of_ble_eq_true rfl), (Nat.le_of_ble_eq_true rfl), (Nat.le_of_ble_eq_true rfl), (Nat.le_of_ble_eq_true rfl)⟩ dX3_shunnedBy_237 ?_
          rintro _ h68 ⟨v70, rfl, hs69, ht⟩
          refine ab_iload (i := 6) dX3_shunnedBy_240 rfl ?_
          refine ab_ishl dX3_shunnedBy_242 ?_
          refine ab_ior dX3_shunnedBy_243 ?_
          refine ab_istore (i := 5) (L' := [some (.ref 43), some (.int x1), some (.int x2), some (.int x3), none, some (.int (x5 ||| (v70 <<< (x6 &&& 31)))), some (.int x6), some (.int (f_X6_sight h (ah_i h 44 (Int32.toNatClampNeg x1)) (ah_i h 44 (Int32.toNatClampNeg x6)))), some (.int 0)]) dX3_shunnedBy_244 (by exact (Nat.le_of_ble_eq_true rfl)) rfl rfl ?_
          exact Wp.fewer (L' := [some (.ref 43), some (.int x1), some (.int x2), some (.int x3), none, some (.int (x5 ||| (v70 <<< (x6 &&& 31)))), some (.int x6), none, none]) (show ab_leL _ _ from ⟨rfl, ⟨rfl, ⟨rfl, ⟨rfl, ⟨rfl, ⟨rfl, trivial⟩⟩⟩⟩⟩⟩) ht
        · have ht := ht.2 c65
          refine ab_iconst (v := 1) dX3_shunnedBy_204 (by decide) ?_
          refine ab_goto (tgt := 209) dX3_shunnedBy_205 (by decide) ?_
          refine ab_istore (i := 8) (L' := [some (.ref 43), some (.int x1), some (.int x2), some (.int x3), none, some (.int x5), some (.int x6), some (.int (f_X6_sight h (ah_i h 44 (Int32.toNatClampNeg x1)) (ah_i h 44 (Int32.toNatClampNeg x6)))), some (.int 1)]) dX3_shunnedBy_209 (by exact (Nat.le_of_ble_eq_true rfl)) rfl rfl ?_
          refine ab_iload (i := 5) dX3_shunnedBy_211 rfl ?_
          refine ab_aload_n (i := 0) dX3_shunnedBy_213 rfl rfl ?_
          refine ab_getR (b := 38) f_X3_72 rfl (sh_k hs 43 3 (by decide) rfl) (sh_r hs 58 rfl) dX3_shunnedBy_214 ?_
          refine ab_iconst (v := 0) dX3_shunnedBy_217 (by decide) ?_
          refine ab_iload_n (i := 1) dX3_shunnedBy_218 rfl rfl ?_
          refine ab_aload_n (i := 0) dX3_shunnedBy_219 rfl rfl ?_
          refine ab_getR (b := 45) f_X3_19 rfl (sh_k hs 43 3 (by decide) rfl) (sh_r hs 51 rfl) dX3_shunnedBy_220 ?_
          refine ab_iload_n (i := 1) dX3_shunnedBy_223 rfl rfl ?_
          obtain ⟨hc71, ht⟩ := ht
          refine ab_iald (sh_k hs 45 14 (by decide) rfl) hc71 dX3_shunnedBy_224 ?_
          refine ab_aload_n (i := 0) dX3_shunnedBy_225 rfl rfl ?_
          refine ab_getR (b := 45) f_X3_19 rfl (sh_k hs 43 3 (by decide) rfl) (sh_r hs 51 rfl) dX3_shunnedBy_226 ?_
          refine ab_iload (i := 6) dX3_shunnedBy_229 rfl ?_
          obtain ⟨hc72, ht⟩ := ht
          refine ab_iald (sh_k hs 45 14 (by decide) rfl) hc72 dX3_shunnedBy_231 ?_
          refine ab_iload (i := 7) dX3_shunnedBy_232 rfl ?_
          refine ab_iload (i := 8) dX3_shunnedBy_234 rfl ?_
          refine ab_iload_n (i := 2) dX3_shunnedBy_236 rfl rfl ?_
          refine ab_callV (b := 38) (As := [.int 0, .int x1, .int (ah_i h 45 (Int32.toNatClampNeg x1)), .int (ah_i h 45 (Int32.toNatClampNeg x6)), .int (f_X6_sight h (ah_i h 44 (Int32.toNatClampNeg x1)) (ah_i h 44 (Int32.toNatClampNeg x6))), .int 1, .int x2]) ht (Y_X8_ask) l_X3_165 in_X8_ask se_X8_ask (sh_k hs 38 8 (by decide) rfl) (by decide) rfl rfl ⟨(Nat.le_of_ble_eq_true rfl), (Nat.le_of_ble_eq_true rfl), (Nat.le_of_ble_eq_true rfl), (Nat.le_of_ble_eq_true rfl)⟩ dX3_shunnedBy_237 ?_
          rintro _ h73 ⟨v75, rfl, hs74, ht⟩
          refine ab_iload (i := 6) dX3_shunnedBy_240 rfl ?_
          refine ab_ishl dX3_shunnedBy_242 ?_
          refine ab_ior dX3_shunnedBy_243 ?_
          refine ab_istore (i := 5) (L' := [some (.ref 43), some (.int x1), some (.int x2), some (.int x3), none, some (.int (x5 ||| (v75 <<< (x6 &&& 31)))), some (.int x6), some (.int (f_X6_sight h (ah_i h 44 (Int32.toNatClampNeg x1)) (ah_i h 44 (Int32.toNatClampNeg x6)))), some (.int 1)]) dX3_shunnedBy_244 (by exact (Nat.le_of_ble_eq_true rfl)) rfl rfl ?_
          exact Wp.fewer (L' := [some (.ref 43), some (.int x1), some (.int x2), some (.int x3), none, some (.int (x5 ||| (v75 <<< (x6 &&& 31)))), some (.int x6), none, none]) (show ab_leL _ _ from ⟨rfl, ⟨rfl, ⟨rfl, ⟨rfl, ⟨rfl, ⟨rfl, trivial⟩⟩⟩⟩⟩⟩) ht
      · have ht := ht.2 c59
        refine ab_goto (tgt := 246) dX3_shunnedBy_163 (by decide) ?_
        exact Wp.fewer (L' := [some (.ref 43), some (.int x1), some (.int x2), some (.int x3), none, some (.int x5), some (.int x6), none, none]) (show ab_leL _ _ from ⟨rfl, ⟨rfl, ⟨rfl, ⟨rfl, ⟨rfl, ⟨rfl, trivial⟩⟩⟩⟩⟩⟩) ht
set_option maxRecDepth 20000 in
theorem T_X3_shunnedBy_252 {Q : Option Value → ah_T → Prop} {h : ah_T} (hs : Sh h) (x5 : Int32) (ht : Q (some (.int x5)) h) : Wp mX3_shunnedBy Q 0 0 252 [none, none, none, none, none, some (.int x5), none, none, none] [] h := by
  refine ab_iload (i := 5) dX3_shunnedBy_252 rfl ?_
  exact ab_iret rfl dX3_shunnedBy_254 (Nat.le_of_ble_eq_true rfl) (Nat.le_of_ble_eq_true rfl) ht
set_option maxRecDepth 20000 in
theorem T_X3_shunnedBy_246 {Q : Option Value → ah_T → Prop} {h : ah_T} (hs : Sh h) (x1 : Int32) (x2 : Int32) (x3 : Int32) (x5 : Int32) (x6 : Int32) (ht : Wp mX3_shunnedBy Q 0 0 141 [some (.ref 43), some (.int x1), some (.int x2), some (.int x3), none, some (.int x5), some (.int (x6 + 1)), none, none] [] h) : Wp mX3_shunnedBy Q 0 0 246 [some (.ref 43), some (.int x1), some (.int x2), some (.int x3), none, some (.int x5), some (.int x6), none, none] [] h := by
  refine ab_iinc (i := 6) (x := x6) (v := (x6 + 1)) (L' := [some (.ref 43), some (.int x1), some (.int x2), some (.int x3), none, some (.int x5), some (.int (x6 + 1)), none, none]) dX3_shunnedBy_246 rfl rfl (by exact (Nat.le_of_ble_eq_true rfl)) rfl rfl ?_
  refine ab_goto (tgt := 141) dX3_shunnedBy_249 (by decide) ?_
  exact Wp.fewer (L' := [some (.ref 43), some (.int x1), some (.int x2), some (.int x3), none, some (.int x5), some (.int (x6 + 1)), none, none]) (show ab_leL _ _ from ⟨rfl, ⟨rfl, ⟨rfl, ⟨rfl, ⟨rfl, ⟨rfl, trivial⟩⟩⟩⟩⟩⟩) ht
set_option maxRecDepth 20000 in
theorem T_X3_shunnedBy {Q : Option Value → ah_T → Prop} {h : ah_T} (hs : Sh h) (x1 : Int32) (x2 : Int32) (ht : ((¬ (ah_i h 43 15) = (-1) → ((¬ x1 = (ah_i h 43 15) → (((((ah_i h 43 5) &&& (((ah_i h 43 5) &&& ((1 : Int32) <<< ((ah_i h 43 15) &&& 31))) ^^^ (-1))) &&& (((1 : Int32) <<< (x1 &&& 31)) ^^^ (-1))) = 0 → Wp mX3_shunnedBy Q 0 0 138 [some (.ref 43), some (.int x1), some (.int x2), some (.int ((ah_i h 43 5) &&& ((1 : Int32) <<< ((ah_i h 43 15) &&& 31)))), none, some (.int 0), none, none, none] [] h) ∧ (¬ (((ah_i h 43 5) &&& (((ah_i h 43 5) &&& ((1 : Int32) <<< ((ah_i h 43 15) &&& 31))) ^^^ (-1))) &&& (((1 : Int32) <<< (x1 &&& 31)) ^^^ (-1))) = 0 → (Mt mX8_heeds [.ref 38, .int 0, .int 4] h (ab_qi fun v6 h4 => Sh h4 ∧ ((v6 = 0 → (Mt mX8_hated [.ref 38, .int x1, .int 0, .int x2] h4 (ab_qi fun v10 h8 => Sh h8 ∧ Wp mX3_shunnedBy Q 0 0 138 [some (.ref 43), some (.int x1), some (.int x2), some (.int ((ah_i h 43 5) &&& ((1 : Int32) <<< ((ah_i h 43 15) &&& 31)))), none, some (.int ((v10 &&& (((ah_i h 43 5) &&& (((ah_i h 43 5) &&& ((1 : Int32) <<< ((ah_i h 43 15) &&& 31))) ^^^ (-1))) &&& (((1 : Int32) <<< (x1 &&& 31)) ^^^ (-1)))) &&& (0 ^^^ (-1)))), none, none, none] [] h8))) ∧ (¬ v6 = 0 → (Mt mX3_olderThan [.ref 43, .int x1] h4 (ab_qi fun v13 h11 => Sh h11 ∧ (Mt mX8_hated [.ref 38, .int x1, .int 0, .int x2] h11 (ab_qi fun v16 h14 => Sh h14 ∧ ((v13 = 0 → Wp mX3_shunnedBy Q 0 0 138 [some (.ref 43), some (.int x1), some (.int x2), some (.int ((ah_i h 43 5) &&& ((1 : Int32) <<< ((ah_i h 43 15) &&& 31)))), none, some (.int ((v16 &&& (((ah_i h 43 5) &&& (((ah_i h 43 5) &&& ((1 : Int32) <<< ((ah_i h 43 15) &&& 31))) ^^^ (-1))) &&& (((1 : Int32) <<< (x1 &&& 31)) ^^^ (-1)))) &&& (v13 ^^^ (-1)))), none, none, none] [] h14) ∧ (¬ v13 = 0 → (Mt mX8_hated [.ref 38, .int x1, .int 1, .int x2] h14 (ab_qi fun v20 h18 => Sh h18 ∧ Wp mX3_shunnedBy Q 0 0 138 [some (.ref 43), some (.int x1), some (.int x2), some (.int ((ah_i h 43 5) &&& ((1 : Int32) <<< ((ah_i h 43 15) &&& 31)))), none, some (.int (((v16 &&& (((ah_i h 43 5) &&& (((ah_i h 43 5) &&& ((1 : Int32) <<< ((ah_i h 43 15) &&& 31))) ^^^ (-1))) &&& (((1 : Int32) <<< (x1 &&& 31)) ^^^ (-1)))) &&& (v13 ^^^ (-1))) ||| ((v20 &&& (((ah_i h 43 5) &&& (((ah_i h 43 5) &&& ((1 : Int32) <<< ((ah_i h 43 15) &&& 31))) ^^^ (-1))) &&& (((1 : Int32) <<< (x1 &&& 31)) ^^^ (-1)))) &&& v13))), none, none, none] [] h18))))))))))))))) ∧ (x1 = (ah_i h 43 15) → (((((ah_i h 43 5) &&& (((ah_i h 43 5) &&& (((1 : Int32) <<< (x1 &&& 31)) ^^^ (-1))) ^^^ (-1))) &&& (((1 : Int32) <<< (x1 &&& 31)) ^^^ (-1))) = 0 → Wp mX3_shunnedBy Q 0 0 138 [some (.ref 43), some (.int x1), some (.int x2), some (.int ((ah_i h 43 5) &&& (((1 : Int32) <<< (x1 &&& 31)) ^^^ (-1)))), none, some (.int 0), none, none, none] [] h) ∧ (¬ (((ah_i h 43 5) &&& (((ah_i h 43 5) &&& (((1 : Int32) <<< (x1 &&& 31)) ^^^ (-1))) ^^^ (-1))) &&& (((1 : Int32) <<< (x1 &&& 31)) ^^^ (-1))) = 0 → (Mt mX8_heeds [.ref 38, .int 0, .int 4] h (ab_qi fun v24 h22 => Sh h22 ∧ ((v24 = 0 → (Mt mX8_hated [.ref 38, .int x1, .int 0, .int x2] h22 (ab_qi fun v28 h26 => Sh h26 ∧ Wp mX3_shunnedBy Q 0 0 138 [some (.ref 43), some (.int x1), some (.int x2), some (.int ((ah_i h 43 5) &&& (((1 : Int32) <<< (x1 &&& 31)) ^^^ (-1)))), none, some (.int ((v28 &&& (((ah_i h 43 5) &&& (((ah_i h 43 5) &&& (((1 : Int32) <<< (x1 &&& 31)) ^^^ (-1))) ^^^ (-1))) &&& (((1 : Int32) <<< (x1 &&& 31)) ^^^ (-1)))) &&& (0 ^^^ (-1)))), none, none, none] [] h26))) ∧ (¬ v24 = 0 → (Mt mX3_olderThan [.ref 43, .int x1] h22 (ab_qi fun v31 h29 => Sh h29 ∧ (Mt mX8_hated [.ref 38, .int x1, .int 0, .int x2] h29 (ab_qi fun v34 h32 => Sh h32 ∧ ((v31 = 0 → Wp mX3_shunnedBy Q 0 0 138 [some (.ref 43), some (.int x1), some (.int x2), some (.int ((ah_i h 43 5) &&& (((1 : Int32) <<< (x1 &&& 31)) ^^^ (-1)))), none, some (.int ((v34 &&& (((ah_i h 43 5) &&& (((ah_i h 43 5) &&& (((1 : Int32) <<< (x1 &&& 31)) ^^^ (-1))) ^^^ (-1))) &&& (((1 : Int32) <<< (x1 &&& 31)) ^^^ (-1)))) &&& (v31 ^^^ (-1)))), none, none, none] [] h32) ∧ (¬ v31 = 0 → (Mt mX8_hated [.ref 38, .int x1, .int 1, .int x2] h32 (ab_qi fun v38 h36 => Sh h36 ∧ Wp mX3_shunnedBy Q 0 0 138 [some (.ref 43), some (.int x1), some (.int x2), some (.int ((ah_i h 43 5) &&& (((1 : Int32) <<< (x1 &&& 31)) ^^^ (-1)))), none, some (.int (((v34 &&& (((ah_i h 43 5) &&& (((ah_i h 43 5) &&& (((1 : Int32) <<< (x1 &&& 31)) ^^^ (-1))) ^^^ (-1))) &&& (((1 : Int32) <<< (x1 &&& 31)) ^^^ (-1)))) &&& (v31 ^^^ (-1))) ||| ((v38 &&& (((ah_i h 43 5) &&& (((ah_i h 43 5) &&& (((1 : Int32) <<< (x1 &&& 31)) ^^^ (-1))) ^^^ (-1))) &&& (((1 : Int32) <<< (x1 &&& 31)) ^^^ (-1)))) &&& v31))), none, none, none] [] h36))))))))))))))))) ∧ ((ah_i h 43 15) = (-1) → (((((ah_i h 43 5) &&& (0 ^^^ (-1))) &&& (((1 : Int32) <<< (x1 &&& 31)) ^^^ (-1))) = 0 → Wp mX3_shunnedBy Q 0 0 138 [some (.ref 43), some (.int x1), some (.int x2), some (.int 0), none, some (.int 0), none, none, none] [] h) ∧ (¬ (((ah_i h 43 5) &&& (0 ^^^ (-1))) &&& (((1 : Int32) <<< (x1 &&& 31)) ^^^ (-1))) = 0 → (Mt mX8_heeds [.ref 38, .int 0, .int 4] h (ab_qi fun v42 h40 => Sh h40 ∧ ((v42 = 0 → (Mt mX8_hated [.ref 38, .int x1, .int 0, .int x2] h40 (ab_qi fun v46 h44 => Sh h44 ∧ Wp mX3_shunnedBy Q 0 0 138 [some (.ref 43), some (.int x1), some (.int x2), some (.int 0), none, some (.int ((v46 &&& (((ah_i h 43 5) &&& (0 ^^^ (-1))) &&& (((1 : Int32) <<< (x1 &&& 31)) ^^^ (-1)))) &&& (0 ^^^ (-1)))), none, none, none] [] h44))) ∧ (¬ v42 = 0 → (Mt mX3_olderThan [.ref 43, .int x1] h40 (ab_qi fun v49 h47 => Sh h47 ∧ (Mt mX8_hated [.ref 38, .int x1, .int 0, .int x2] h47 (ab_qi fun v52 h50 => Sh h50 ∧ ((v49 = 0 → Wp mX3_shunnedBy Q 0 0 138 [some (.ref 43), some (.int x1), some (.int x2), some (.int 0), none, some (.int ((v52 &&& (((ah_i h 43 5) &&& (0 ^^^ (-1))) &&& (((1 : Int32) <<< (x1 &&& 31)) ^^^ (-1)))) &&& (v49 ^^^ (-1)))), none, none, none] [] h50) ∧ (¬ v49 = 0 → (Mt mX8_hated [.ref 38, .int x1, .int 1, .int x2] h50 (ab_qi fun v56 h54 => Sh h54 ∧ Wp mX3_shunnedBy Q 0 0 138 [some (.ref 43), some (.int x1), some (.int x2), some (.int 0), none, some (.int (((v52 &&& (((ah_i h 43 5) &&& (0 ^^^ (-1))) &&& (((1 : Int32) <<< (x1 &&& 31)) ^^^ (-1)))) &&& (v49 ^^^ (-1))) ||| ((v56 &&& (((ah_i h 43 5) &&& (0 ^^^ (-1))) &&& (((1 : Int32) <<< (x1 &&& 31)) ^^^ (-1)))) &&& v49))), none, none, none] [] h54))))))))))))))))) : Mt mX3_shunnedBy [.ref 43, .int x1, .int x2] h Q := by
  refine Mt.ofWp rfl (by exact (Nat.le_of_ble_eq_true rfl)) (Wp.fewer (L' := [some (.ref 43), some (.int x1), some (.int x2), none, none, none, none, none, none]) (show ab_leL _ _ from ⟨rfl, ⟨rfl, ⟨rfl, trivial⟩⟩⟩) ?_)
  refine ab_aload_n (i := 0) dX3_shunnedBy_0 rfl rfl ?_
  refine ab_getI f_X3_49 rfl (sh_k hs 43 3 (by decide) rfl) dX3_shunnedBy_1 ?_
  refine ab_iconst (v := (-1)) dX3_shunnedBy_4 (by decide) ?_
  refine ab_icmp_ne (tgt := 12) dX3_shunnedBy_5 (by decide) (fun c1 => ?_) (fun c1 => ?_)
  · have ht := ht.1 c1
    refine ab_iload_n (i := 1) dX3_shunnedBy_12 rfl rfl ?_
    refine ab_aload_n (i := 0) dX3_shunnedBy_13 rfl rfl ?_
    refine ab_getI f_X3_49 rfl (sh_k hs 43 3 (by decide) rfl) dX3_shunnedBy_14 ?_
    refine ab_icmp_ne (tgt := 33) dX3_shunnedBy_17 (by decide) (fun c2 => ?_) (fun c2 => ?_)
    · have ht := ht.1 c2
      refine ab_aload_n (i := 0) dX3_shunnedBy_33 rfl rfl ?_
      refine ab_getI f_X3_28 rfl (sh_k hs 43 3 (by decide) rfl) dX3_shunnedBy_34 ?_
      refine ab_iconst (v := 1) dX3_shunnedBy_37 (by decide) ?_
      refine ab_aload_n (i := 0) dX3_shunnedBy_38 rfl rfl ?_
      refine ab_getI f_X3_49 rfl (sh_k hs 43 3 (by decide) rfl) dX3_shunnedBy_39 ?_
      refine ab_ishl dX3_shunnedBy_42 ?_
      refine ab_iand dX3_shunnedBy_43 ?_
      refine ab_istore_n (i := 3) (L' := [some (.ref 43), some (.int x1), some (.int x2), some (.int ((ah_i h 43 5) &&& ((1 : Int32) <<< ((ah_i h 43 15) &&& 31)))), none, none, none, none, none]) dX3_shunnedBy_44 rfl (by exact (Nat.le_of_ble_eq_true rfl)) rfl rfl ?_
      refine ab_aload_n (i := 0) dX3_shunnedBy_45 rfl rfl ?_
      refine ab_getI f_X3_28 rfl (sh_k hs 43 3 (by decide) rfl) dX3_shunnedBy_46 ?_
      refine ab_iload_n (i := 3) dX3_shunnedBy_49 rfl rfl ?_
      refine ab_iconst (v := (-1)) dX3_shunnedBy_50 (by decide) ?_
      refine ab_ixor dX3_shunnedBy_51 ?_
      refine ab_iand dX3_shunnedBy_52 ?_
      refine ab_iconst (v := 1) dX3_shunnedBy_53 (by decide) ?_
      refine ab_iload_n (i := 1) dX3_shunnedBy_54 rfl rfl ?_
      refine ab_ishl dX3_shunnedBy_55 ?_
      refine ab_iconst (v := (-1)) dX3_shunnedBy_56 (by decide) ?_
      refine ab_ixor dX3_shunnedBy_57 ?_
      refine ab_iand dX3_shunnedBy_58 ?_
      refine ab_istore (i := 4) (L' := [some (.ref 43), some (.int x1), some (.int x2), some (.int ((ah_i h 43 5) &&& ((1 : Int32) <<< ((ah_i h 43 15) &&& 31)))), some (.int (((ah_i h 43 5) &&& (((ah_i h 43 5) &&& ((1 : Int32) <<< ((ah_i h 43 15) &&& 31))) ^^^ (-1))) &&& (((1 : Int32) <<< (x1 &&& 31)) ^^^ (-1)))), none, none, none, none]) dX3_shunnedBy_59 (by exact (Nat.le_of_ble_eq_true rfl)) rfl rfl ?_
      refine ab_iconst (v := 0) dX3_shunnedBy_61 (by decide) ?_
      refine ab_istore (i := 5) (L' := [some (.ref 43), some (.int x1), some (.int x2), some (.int ((ah_i h 43 5) &&& ((1 : Int32) <<< ((ah_i h 43 15) &&& 31)))), some (.int (((ah_i h 43 5) &&& (((ah_i h 43 5) &&& ((1 : Int32) <<< ((ah_i h 43 15) &&& 31))) ^^^ (-1))) &&& (((1 : Int32) <<< (x1 &&& 31)) ^^^ (-1)))), some (.int 0), none, none, none]) dX3_shunnedBy_62 (by exact (Nat.le_of_ble_eq_true rfl)) rfl rfl ?_
      refine ab_iload (i := 4) dX3_shunnedBy_64 rfl ?_
      refine ab_if_eq (tgt := 138) dX3_shunnedBy_66 (by decide) (fun c3 => ?_) (fun c3 => ?_)
      · have ht := ht.1 c3
        exact Wp.fewer (L' := [some (.ref 43), some (.int x1), some (.int x2), some (.int ((ah_i h 43 5) &&& ((1 : Int32) <<< ((ah_i h 43 15) &&& 31)))), none, some (.int 0), none, none, none]) (show ab_leL _ _ from ⟨rfl, ⟨rfl, ⟨rfl, ⟨rfl, ⟨rfl, trivial⟩⟩⟩⟩⟩) ht
      · have ht := ht.2 c3
        refine ab_aload_n (i := 0) dX3_shunnedBy_69 rfl rfl ?_
        refine ab_getR (b := 38) f_X3_72 rfl (sh_k hs 43 3 (by decide) rfl) (sh_r hs 58 rfl) dX3_shunnedBy_70 ?_
        refine ab_iconst (v := 0) dX3_shunnedBy_73 (by decide) ?_
        refine ab_iconst (v := 4) dX3_shunnedBy_74 (by decide) ?_
        refine ab_callV (b := 38) (As := [.int 0, .int 4]) ht (Y_X8_heeds) l_X3_150 in_X8_heeds se_X8_heeds (sh_k hs 38 8 (by decide) rfl) (by decide) rfl rfl ⟨(Nat.le_of_ble_eq_true rfl), (Nat.le_of_ble_eq_true rfl), (Nat.le_of_ble_eq_true rfl), (Nat.le_of_ble_eq_true rfl)⟩ dX3_shunnedBy_75 ?_
        rintro _ h4 ⟨v6, rfl, hs5, ht⟩
        refine ab_if_eq (tgt := 89) dX3_shunnedBy_78 (by decide) (fun c7 => ?_) (fun c7 => ?_)
        · have ht := ht.1 c7
          refine ab_iconst (v := 0) dX3_shunnedBy_89 (by decide) ?_
          refine ab_istore (i := 6) (L' := [some (.ref 43), some (.int x1), some (.int x2), some (.int ((ah_i h 43 5) &&& ((1 : Int32) <<< ((ah_i h 43 15) &&& 31)))), some (.int (((ah_i h 43 5) &&& (((ah_i h 43 5) &&& ((1 : Int32) <<< ((ah_i h 43 15) &&& 31))) ^^^ (-1))) &&& (((1 : Int32) <<< (x1 &&& 31)) ^^^ (-1)))), some (.int 0), some (.int 0), none, none]) dX3_shunnedBy_90 (by exact (Nat.le_of_ble_eq_true rfl)) rfl rfl ?_
          refine ab_aload_n (i := 0) dX3_shunnedBy_92 rfl rfl ?_
          refine ab_getR (b := 38) f_X3_72 rfl (sh_k hs5 43 3 (by decide) rfl) (sh_r hs5 58 rfl) dX3_shunnedBy_93 ?_
          refine ab_iload_n (i := 1) dX3_shunnedBy_96 rfl rfl ?_
          refine ab_iconst (v := 0) dX3_shunnedBy_97 (by decide) ?_
          refine ab_iload_n (i := 2) dX3_shunnedBy_98 rfl rfl ?_
          refine ab_callV (b := 38) (As := [.int x1, .int 0, .int x2]) ht (Y_X8_hated) l_X3_172 in_X8_hated se_X8_hated (sh_k hs5 38 8 (by decide) rfl) (by decide) rfl rfl ⟨(Nat.le_of_ble_eq_true rfl), (Nat.le_of_ble_eq_true rfl), (Nat.le_of_ble_eq_true rfl), (Nat.le_of_ble_eq_true rfl)⟩ dX3_shunnedBy_99 ?_
          rintro _ h8 ⟨v10, rfl, hs9, ht⟩
          refine ab_iload (i := 4) dX3_shunnedBy_102 rfl ?_
          refine ab_iand dX3_shunnedBy_104 ?_
          refine ab_iload (i := 6) dX3_shunnedBy_105 rfl ?_
          refine ab_iconst (v := (-1)) dX3_shunnedBy_107 (by decide) ?_
          refine ab_ixor dX3_shunnedBy_108 ?_
          refine ab_iand dX3_shunnedBy_109 ?_
          refine ab_istore (i := 5) (L' := [some (.ref 43), some (.int x1), some (.int x2), some (.int ((ah_i h 43 5) &&& ((1 : Int32) <<< ((ah_i h 43 15) &&& 31)))), some (.int (((ah_i h 43 5) &&& (((ah_i h 43 5) &&& ((1 : Int32) <<< ((ah_i h 43 15) &&& 31))) ^^^ (-1))) &&& (((1 : Int32) <<< (x1 &&& 31)) ^^^ (-1)))), some (.int ((v10 &&& (((ah_i h 43 5) &&& (((ah_i h 43 5) &&& ((1 : Int32) <<< ((ah_i h 43 15) &&& 31))) ^^^ (-1))) &&& (((1 : Int32) <<< (x1 &&& 31)) ^^^ (-1)))) &&& (0 ^^^ (-1)))), some (.int 0), none, none]) dX3_shunnedBy_110 (by exact (Nat.le_of_ble_eq_true rfl)) rfl rfl ?_
          refine ab_iload (i := 6) dX3_shunnedBy_112 rfl ?_
          refine ab_if_eq (tgt := 138) dX3_shunnedBy_114 (by decide) (fun _ => ?_) (fun q => absurd (by decide) q)
          exact Wp.fewer (L' := [some (.ref 43), some (.int x1), some (.int x2), some (.int ((ah_i h 43 5) &&& ((1 : Int32) <<< ((ah_i h 43 15) &&& 31)))), none, some (.int ((v10 &&& (((ah_i h 43 5) &&& (((ah_i h 43 5) &&& ((1 : Int32) <<< ((ah_i h 43 15) &&& 31))) ^^^ (-1))) &&& (((1 : Int32) <<< (x1 &&& 31)) ^^^ (-1)))) &&& (0 ^^^ (-1)))), none, none, none]) (show ab_leL _ _ from ⟨rfl, ⟨rfl, ⟨rfl, ⟨rfl, ⟨rfl, trivial⟩⟩⟩⟩⟩) ht
        · have ht := ht.2 c7
          refine ab_aload_n (i := 0) dX3_shunnedBy_81 rfl rfl ?_
          refine ab_iload_n (i := 1) dX3_shunnedBy_82 rfl rfl ?_
          refine ab_callV (b := 43) (As := [.int x1]) ht (Y_X3_olderThan) l_X3_169 in_X3_olderThan se_X3_olderThan (sh_k hs5 43 3 (by decide) rfl) (by decide) rfl rfl ⟨(Nat.le_of_ble_eq_true rfl), (Nat.le_of_ble_eq_true rfl), (Nat.le_of_ble_eq_true rfl), (Nat.le_of_ble_eq_true rfl)⟩ dX3_shunnedBy_83 ?_
          rintro _ h11 ⟨v13, rfl, hs12, ht⟩
          refine ab_goto (tgt := 90) dX3_shunnedBy_86 (by decide) ?_
          refine ab_istore (i := 6) (L' := [some (.ref 43), some (.int x1), some (.int x2), some (.int ((ah_i h 43 5) &&& ((1 : Int32) <<< ((ah_i h 43 15) &&& 31)))), some (.int (((ah_i h 43 5) &&& (((ah_i h 43 5) &&& ((1 : Int32) <<< ((ah_i h 43 15) &&& 31))) ^^^ (-1))) &&& (((1 : Int32) <<< (x1 &&& 31)) ^^^ (-1)))), some (.int 0), some (.int v13), none, none]) dX3_shunnedBy_90 (by exact (Nat.le_of_ble_eq_true rfl)) rfl rfl ?_
          refine ab_aload_n (i := 0) dX3_shunnedBy_92 rfl rfl ?_
          refine ab_getR (b := 38) f_X3_72 rfl (sh_k hs12 43 3 (by decide) rfl) (sh_r hs12 58 rfl) dX3_shunnedBy_93 ?_
          refine ab_iload_n (i := 1) dX3_shunnedBy_96 rfl rfl ?_
          refine ab_iconst (v := 0) dX3_shunnedBy_97 (by decide) ?_
          refine ab_iload_n (i := 2) dX3_shunnedBy_98 rfl rfl ?_
          refine ab_callV (b := 38) (As := [.int x1, .int 0, .int x2]) ht (Y_X8_hated) l_X3_172 in_X8_hated se_X8_hated (sh_k hs12 38 8 (by decide) rfl) (by decide) rfl rfl ⟨(Nat.le_of_ble_eq_true rfl), (Nat.le_of_ble_eq_true rfl), (Nat.le_of_ble_eq_true rfl), (Nat.le_of_ble_eq_true rfl)⟩ dX3_shunnedBy_99 ?_
          rintro _ h14 ⟨v16, rfl, hs15, ht⟩
          refine ab_iload (i := 4) dX3_shunnedBy_102 rfl ?_
          refine ab_iand dX3_shunnedBy_104 ?_
          refine ab_iload (i := 6) dX3_shunnedBy_105 rfl ?_
          refine ab_iconst (v := (-1)) dX3_shunnedBy_107 (by decide) ?_
          refine ab_ixor dX3_shunnedBy_108 ?_
          refine ab_iand dX3_shunnedBy_109 ?_
          refine ab_istore (i := 5) (L' := [some (.ref 43), some (.int x1), some (.int x2), some (.int ((ah_i h 43 5) &&& ((1 : Int32) <<< ((ah_i h 43 15) &&& 31)))), some (.int (((ah_i h 43 5) &&& (((ah_i h 43 5) &&& ((1 : Int32) <<< ((ah_i h 43 15) &&& 31))) ^^^ (-1))) &&& (((1 : Int32) <<< (x1 &&& 31)) ^^^ (-1)))), some (.int ((v16 &&& (((ah_i h 43 5) &&& (((ah_i h 43 5) &&& ((1 : Int32) <<< ((ah_i h 43 15) &&& 31))) ^^^ (-1))) &&& (((1 : Int32) <<< (x1 &&& 31)) ^^^ (-1)))) &&& (v13 ^^^ (-1)))), some (.int v13), none, none]) dX3_shunnedBy_110 (by exact (Nat.le_of_ble_eq_true rfl)) rfl rfl ?_
          refine ab_iload (i := 6) dX3_shunnedBy_112 rfl ?_
          refine ab_if_eq (tgt := 138) dX3_shunnedBy_114 (by decide) (fun c17 => ?_) (fun c17 => ?_)
          · have ht := ht.1 c17
            exact Wp.fewer (L' := [some (.ref 43), some (.int x1), some (.int x2), some (.int ((ah_i h 43 5) &&& ((1 : Int32) <<< ((ah_i h 43 15) &&& 31)))), none, some (.int ((v16 &&& (((ah_i h 43 5) &&& (((ah_i h 43 5) &&& ((1 : Int32) <<< ((ah_i h 43 15) &&& 31))) ^^^ (-1))) &&& (((1 : Int32) <<< (x1 &&& 31)) ^^^ (-1)))) &&& (v13 ^^^ (-1)))), none, none, none]) (show ab_leL _ _ from ⟨rfl, ⟨rfl, ⟨rfl, ⟨rfl, ⟨rfl, trivial⟩⟩⟩⟩⟩) ht
          · have ht := ht.2 c17
            refine ab_iload (i := 5) dX3_shunnedBy_117 rfl ?_
            refine ab_aload_n (i := 0) dX3_shunnedBy_119 rfl rfl ?_
            refine ab_getR (b := 38) f_X3_72 rfl (sh_k hs15 43 3 (by decide) rfl) (sh_r hs15 58 rfl) dX3_shunnedBy_120 ?_
            refine ab_iload_n (i := 1) dX3_shunnedBy_123 rfl rfl ?_
            refine ab_iconst (v := 1) dX3_shunnedBy_124 (by decide) ?_
            refine ab_iload_n (i := 2) dX3_shunnedBy_125 rfl rfl ?_
            refine ab_callV (b := 38) (As := [.int x1, .int 1, .int x2]) ht (Y_X8_hated) l_X3_172 in_X8_hated se_X8_hated (sh_k hs15 38 8 (by decide) rfl) (by decide) rfl rfl ⟨(Nat.le_of_ble_eq_true rfl), (Nat.le_of_ble_eq_true rfl), (Nat.le_of_ble_eq_true rfl), (Nat.le_of_ble_eq_true rfl)⟩ dX3_shunnedBy_126 ?_
            rintro _ h18 ⟨v20, rfl, hs19, ht⟩
            refine ab_iload (i := 4) dX3_shunnedBy_129 rfl ?_
            refine ab_iand dX3_shunnedBy_131 ?_
            refine ab_iload (i := 6) dX3_shunnedBy_132 rfl ?_
            refine ab_iand dX3_shunnedBy_134 ?_
            refine ab_ior dX3_shunnedBy_135 ?_
            refine ab_istore (i := 5) (L' := [some (.ref 43), some (.int x1), some (.int x2), some (.int ((ah_i h 43 5) &&& ((1 : Int32) <<< ((ah_i h 43 15) &&& 31)))), some (.int (((ah_i h 43 5) &&& (((ah_i h 43 5) &&& ((1 : Int32) <<< ((ah_i h 43 15) &&& 31))) ^^^ (-1))) &&& (((1 : Int32) <<< (x1 &&& 31)) ^^^ (-1)))), some (.int (((v16 &&& (((ah_i h 43 5) &&& (((ah_i h 43 5) &&& ((1 : Int32) <<< ((ah_i h 43 15) &&& 31))) ^^^ (-1))) &&& (((1 : Int32) <<< (x1 &&& 31)) ^^^ (-1)))) &&& (v13 ^^^ (-1))) ||| ((v20 &&& (((ah_i h 43 5) &&& (((ah_i h 43 5) &&& ((1 : Int32) <<< ((ah_i h 43 15) &&& 31))) ^^^ (-1))) &&& (((1 : Int32) <<< (x1 &&& 31)) ^^^ (-1)))) &&& v13))), some (.int v13), none, none]) dX3_shunnedBy_136 (by exact (Nat.le_of_ble_eq_true rfl)) rfl rfl ?_
            exact Wp.fewer (L' := [some (.ref 43), some (.int x1), some (.int x2), some (.int ((ah_i h 43 5) &&& ((1 : Int32) <<< ((ah_i h 43 15) &&& 31)))), none, some (.int (((v16 &&& (((ah_i h 43 5) &&& (((ah_i h 43 5) &&& ((1 : Int32) <<< ((ah_i h 43 15) &&& 31))) ^^^ (-1))) &&& (((1 : Int32) <<< (x1 &&& 31)) ^^^ (-1)))) &&& (v13 ^^^ (-1))) ||| ((v20 &&& (((ah_i h 43 5) &&& (((ah_i h 43 5) &&& ((1 : Int32) <<< ((ah_i h 43 15) &&& 31))) ^^^ (-1))) &&& (((1 : Int32) <<< (x1 &&& 31)) ^^^ (-1)))) &&& v13))), none, none, none]) (show ab_leL _ _ from ⟨rfl, ⟨rfl, ⟨rfl, ⟨rfl, ⟨rfl, trivial⟩⟩⟩⟩⟩) ht
    · have ht := ht.2 c2
      refine ab_aload_n (i := 0) dX3_shunnedBy_20 rfl rfl ?_
      refine ab_getI f_X3_28 rfl (sh_k hs 43 3 (by decide) rfl) dX3_shunnedBy_21 ?_
      refine ab_iconst (v := 1) dX3_shunnedBy_24 (by decide) ?_
      refine ab_iload_n (i := 1) dX3_shunnedBy_25 rfl rfl ?_
      refine ab_ishl dX3_shunnedBy_26 ?_
      refine ab_iconst (v := (-1)) dX3_shunnedBy_27 (by decide) ?_
      refine ab_ixor dX3_shunnedBy_28 ?_
      refine ab_iand dX3_shunnedBy_29 ?_
      refine ab_goto (tgt := 44) dX3_shunnedBy_30 (by decide) ?_
      refine ab_istore_n (i := 3) (L' := [some (.ref 43), some (.int x1), some (.int x2), some (.int ((ah_i h 43 5) &&& (((1 : Int32) <<< (x1 &&& 31)) ^^^ (-1)))), none, none, none, none, none]) dX3_shunnedBy_44 rfl (by exact (Nat.le_of_ble_eq_true rfl)) rfl rfl ?_
      refine ab_aload_n (i := 0) dX3_shunnedBy_45 rfl rfl ?_
      refine ab_getI f_X3_28 rfl (sh_k hs 43 3 (by decide) rfl) dX3_shunnedBy_46 ?_
      refine ab_iload_n (i := 3) dX3_shunnedBy_49 rfl rfl ?_
      refine ab_iconst (v := (-1)) dX3_shunnedBy_50 (by decide) ?_
      refine ab_ixor dX3_shunnedBy_51 ?_
      refine ab_iand dX3_shunnedBy_52 ?_
      refine ab_iconst (v := 1) dX3_shunnedBy_53 (by decide) ?_
      refine ab_iload_n (i := 1) dX3_shunnedBy_54 rfl rfl ?_
      refine ab_ishl dX3_shunnedBy_55 ?_
      refine ab_iconst (v := (-1)) dX3_shunnedBy_56 (by decide) ?_
      refine ab_ixor dX3_shunnedBy_57 ?_
      refine ab_iand dX3_shunnedBy_58 ?_
      refine ab_istore (i := 4) (L' := [some (.ref 43), some (.int x1), some (.int x2), some (.int ((ah_i h 43 5) &&& (((1 : Int32) <<< (x1 &&& 31)) ^^^ (-1)))), some (.int (((ah_i h 43 5) &&& (((ah_i h 43 5) &&& (((1 : Int32) <<< (x1 &&& 31)) ^^^ (-1))) ^^^ (-1))) &&& (((1 : Int32) <<< (x1 &&& 31)) ^^^ (-1)))), none, none, none, none]) dX3_shunnedBy_59 (by exact (Nat.le_of_ble_eq_true rfl)) rfl rfl ?_
      refine ab_iconst (v := 0) dX3_shunnedBy_61 (by decide) ?_
      refine ab_istore (i := 5) (L' := [some (.ref 43), some (.int x1), some (.int x2), some (.int ((ah_i h 43 5) &&& (((1 : Int32) <<< (x1 &&& 31)) ^^^ (-1)))), some (.int (((ah_i h 43 5) &&& (((ah_i h 43 5) &&& (((1 : Int32) <<< (x1 &&& 31)) ^^^ (-1))) ^^^ (-1))) &&& (((1 : Int32) <<< (x1 &&& 31)) ^^^ (-1)))), some (.int 0), none, none, none]) dX3_shunnedBy_62 (by exact (Nat.le_of_ble_eq_true rfl)) rfl rfl ?_
      refine ab_iload (i := 4) dX3_shunnedBy_64 rfl ?_
      refine ab_if_eq (tgt := 138) dX3_shunnedBy_66 (by decide) (fun c21 => ?_) (fun c21 => ?_)
      · have ht := ht.1 c21
        exact Wp.fewer (L' := [some (.ref 43), some (.int x1), some (.int x2), some (.int ((ah_i h 43 5) &&& (((1 : Int32) <<< (x1 &&& 31)) ^^^ (-1)))), none, some (.int 0), none, none, none]) (show ab_leL _ _ from ⟨rfl, ⟨rfl, ⟨rfl, ⟨rfl, ⟨rfl, trivial⟩⟩⟩⟩⟩) ht
      · have ht := ht.2 c21
        refine ab_aload_n (i := 0) dX3_shunnedBy_69 rfl rfl ?_
        refine ab_getR (b := 38) f_X3_72 rfl (sh_k hs 43 3 (by decide) rfl) (sh_r hs 58 rfl) dX3_shunnedBy_70 ?_
        refine ab_iconst (v := 0) dX3_shunnedBy_73 (by decide) ?_
        refine ab_iconst (v := 4) dX3_shunnedBy_74 (by decide) ?_
        refine ab_callV (b := 38) (As := [.int 0, .int 4]) ht (Y_X8_heeds) l_X3_150 in_X8_heeds se_X8_heeds (sh_k hs 38 8 (by decide) rfl) (by decide) rfl rfl ⟨(Nat.le_of_ble_eq_true rfl), (Nat.le_of_ble_eq_true rfl), (Nat.le_of_ble_eq_true rfl), (Nat.le_of_ble_eq_true rfl)⟩ dX3_shunnedBy_75 ?_
        rintro _ h22 ⟨v24, rfl, hs23, ht⟩
        refine ab_if_eq (tgt := 89) dX3_shunnedBy_78 (by decide) (fun c25 => ?_) (fun c25 => ?_)
        · have ht := ht.1 c25
          refine ab_iconst (v := 0) dX3_shunnedBy_89 (by decide) ?_
          refine ab_istore (i := 6) (L' := [some (.ref 43), some (.int x1), some (.int x2), some (.int ((ah_i h 43 5) &&& (((1 : Int32) <<< (x1 &&& 31)) ^^^ (-1)))), some (.int (((ah_i h 43 5) &&& (((ah_i h 43 5) &&& (((1 : Int32) <<< (x1 &&& 31)) ^^^ (-1))) ^^^ (-1))) &&& (((1 : Int32) <<< (x1 &&& 31)) ^^^ (-1)))), some (.int 0), some (.int 0), none, none]) dX3_shunnedBy_90 (by exact (Nat.le_of_ble_eq_true rfl)) rfl rfl ?_
          refine ab_aload_n (i := 0) dX3_shunnedBy_92 rfl rfl ?_
          refine ab_getR (b := 38) f_X3_72 rfl (sh_k hs23 43 3 (by decide) rfl) (sh_r hs23 58 rfl) dX3_shunnedBy_93 ?_
          refine ab_iload_n (i := 1) dX3_shunnedBy_96 rfl rfl ?_
          refine ab_iconst (v := 0) dX3_shunnedBy_97 (by decide) ?_
          refine ab_iload_n (i := 2) dX3_shunnedBy_98 rfl rfl ?_
          refine ab_callV (b := 38) (As := [.int x1, .int 0, .int x2]) ht (Y_X8_hated) l_X3_172 in_X8_hated se_X8_hated (sh_k hs23 38 8 (by decide) rfl) (by decide) rfl rfl ⟨(Nat.le_of_ble_eq_true rfl), (Nat.le_of_ble_eq_true rfl), (Nat.le_of_ble_eq_true rfl), (Nat.le_of_ble_eq_true rfl)⟩ dX3_shunnedBy_99 ?_
          rintro _ h26 ⟨v28, rfl, hs27, ht⟩
          refine ab_iload (i := 4) dX3_shunnedBy_102 rfl ?_
          refine ab_iand dX3_shunnedBy_104 ?_
          refine ab_iload (i := 6) dX3_shunnedBy_105 rfl ?_
          refine ab_iconst (v := (-1)) dX3_shunnedBy_107 (by decide) ?_
          refine ab_ixor dX3_shunnedBy_108 ?_
          refine ab_iand dX3_shunnedBy_109 ?_
          refine ab_istore (i := 5) (L' := [some (.ref 43), some (.int x1), some (.int x2), some (.int ((ah_i h 43 5) &&& (((1 : Int32) <<< (x1 &&& 31)) ^^^ (-1)))), some (.int (((ah_i h 43 5) &&& (((ah_i h 43 5) &&& (((1 : Int32) <<< (x1 &&& 31)) ^^^ (-1))) ^^^ (-1))) &&& (((1 : Int32) <<< (x1 &&& 31)) ^^^ (-1)))), some (.int ((v28 &&& (((ah_i h 43 5) &&& (((ah_i h 43 5) &&& (((1 : Int32) <<< (x1 &&& 31)) ^^^ (-1))) ^^^ (-1))) &&& (((1 : Int32) <<< (x1 &&& 31)) ^^^ (-1)))) &&& (0 ^^^ (-1)))), some (.int 0), none, none]) dX3_shunnedBy_110 (by exact (Nat.le_of_ble_eq_true rfl)) rfl rfl ?_
          refine ab_iload (i := 6) dX3_shunnedBy_112 rfl ?_
          refine ab_if_eq (tgt := 138) dX3_shunnedBy_114 (by decide) (fun _ => ?_) (fun q => absurd (by decide) q)
          exact Wp.fewer (L' := [some (.ref 43), some (.int x1), some (.int x2), some (.int ((ah_i h 43 5) &&& (((1 : Int32) <<< (x1 &&& 31)) ^^^ (-1)))), none, some (.int ((v28 &&& (((ah_i h 43 5) &&& (((ah_i h 43 5) &&& (((1 : Int32) <<< (x1 &&& 31)) ^^^ (-1))) ^^^ (-1))) &&& (((1 : Int32) <<< (x1 &&& 31)) ^^^ (-1)))) &&& (0 ^^^ (-1)))), none, none, none]) (show ab_leL _ _ from ⟨rfl, ⟨rfl, ⟨rfl, ⟨rfl, ⟨rfl, trivial⟩⟩⟩⟩⟩) ht
        · have ht := ht.2 c25
          refine ab_aload_n (i := 0) dX3_shunnedBy_81 rfl rfl ?_
          refine ab_iload_n (i := 1) dX3_shunnedBy_82 rfl rfl ?_
          refine ab_callV (b := 43) (As := [.int x1]) ht (Y_X3_olderThan) l_X3_169 in_X3_olderThan se_X3_olderThan (sh_k hs23 43 3 (by decide) rfl) (by decide) rfl rfl ⟨(Nat.le_of_ble_eq_true rfl), (Nat.le_of_ble_eq_true rfl), (Nat.le_of_ble_eq_true rfl), (Nat.le_of_ble_eq_true rfl)⟩ dX3_shunnedBy_83 ?_
          rintro _ h29 ⟨v31, rfl, hs30, ht⟩
          refine ab_goto (tgt := 90) dX3_shunnedBy_86 (by decide) ?_
          refine ab_istore (i := 6) (L' := [some (.ref 43), some (.int x1), some (.int x2), some (.int ((ah_i h 43 5) &&& (((1 : Int32) <<< (x1 &&& 31)) ^^^ (-1)))), some (.int (((ah_i h 43 5) &&& (((ah_i h 43 5) &&& (((1 : Int32) <<< (x1 &&& 31)) ^^^ (-1))) ^^^ (-1))) &&& (((1 : Int32) <<< (x1 &&& 31)) ^^^ (-1)))), some (.int 0), some (.int v31), none, none]) dX3_shunnedBy_90 (by exact (Nat.le_of_ble_eq_true rfl)) rfl rfl ?_
          refine ab_aload_n (i := 0) dX3_shunnedBy_92 rfl rfl ?_
          refine ab_getR (b := 38) f_X3_72 rfl (sh_k hs30 43 3 (by decide) rfl) (sh_r hs30 58 rfl) dX3_shunnedBy_93 ?_
          refine ab_iload_n (i := 1) dX3_shunnedBy_96 rfl rfl ?_
          refine ab_iconst (v := 0) dX3_shunnedBy_97 (by decide) ?_
          refine ab_iload_n (i := 2) dX3_shunnedBy_98 rfl rfl ?_
          refine ab_callV (b := 38) (As := [.int x1, .int 0, .int x2]) ht (Y_X8_hated) l_X3_172 in_X8_hated se_X8_hated (sh_k hs30 38 8 (by decide) rfl) (by decide) rfl rfl ⟨(Nat.le_of_ble_eq_true rfl), (Nat.le_of_ble_eq_true rfl), (Nat.le_of_ble_eq_true rfl), (Nat.le_of_ble_eq_true rfl)⟩ dX3_shunnedBy_99 ?_
          rintro _ h32 ⟨v34, rfl, hs33, ht⟩
          refine ab_iload (i := 4) dX3_shunnedBy_102 rfl ?_
          refine ab_iand dX3_shunnedBy_104 ?_
          refine ab_iload (i := 6) dX3_shunnedBy_105 rfl ?_
          refine ab_iconst (v := (-1)) dX3_shunnedBy_107 (by decide) ?_
          refine ab_ixor dX3_shunnedBy_108 ?_
          refine ab_iand dX3_shunnedBy_109 ?_
          refine ab_istore (i := 5) (L' := [some (.ref 43), some (.int x1), some (.int x2), some (.int ((ah_i h 43 5) &&& (((1 : Int32) <<< (x1 &&& 31)) ^^^ (-1)))), some (.int (((ah_i h 43 5) &&& (((ah_i h 43 5) &&& (((1 : Int32) <<< (x1 &&& 31)) ^^^ (-1))) ^^^ (-1))) &&& (((1 : Int32) <<< (x1 &&& 31)) ^^^ (-1)))), some (.int ((v34 &&& (((ah_i h 43 5) &&& (((ah_i h 43 5) &&& (((1 : Int32) <<< (x1 &&& 31)) ^^^ (-1))) ^^^ (-1))) &&& (((1 : Int32) <<< (x1 &&& 31)) ^^^ (-1)))) &&& (v31 ^^^ (-1)))), some (.int v31), none, none]) dX3_shunnedBy_110 (by exact (Nat.le_of_ble_eq_true rfl)) rfl rfl ?_
          refine ab_iload (i := 6) dX3_shunnedBy_112 rfl ?_
          refine ab_if_eq (tgt := 138) dX3_shunnedBy_114 (by decide) (fun c35 => ?_) (fun c35 => ?_)
          · have ht := ht.1 c35
            exact Wp.fewer (L' := [some (.ref 43), some (.int x1), some (.int x2), some (.int ((ah_i h 43 5) &&& (((1 : Int32) <<< (x1 &&& 31)) ^^^ (-1)))), none, some (.int ((v34 &&& (((ah_i h 43 5) &&& (((ah_i h 43 5) &&& (((1 : Int32) <<< (x1 &&& 31)) ^^^ (-1))) ^^^ (-1))) &&& (((1 : Int32) <<< (x1 &&& 31)) ^^^ (-1)))) &&& (v31 ^^^ (-1)))), none, none, none]) (show ab_leL _ _ from ⟨rfl, ⟨rfl, ⟨rfl, ⟨rfl, ⟨rfl, trivial⟩⟩⟩⟩⟩) ht
          · have ht := ht.2 c35
            refine ab_iload (i := 5) dX3_shunnedBy_117 rfl ?_
            refine ab_aload_n (i := 0) dX3_shunnedBy_119 rfl rfl ?_
            refine ab_getR (b := 38) f_X3_72 rfl (sh_k hs33 43 3 (by decide) rfl) (sh_r hs33 58 rfl) dX3_shunnedBy_120 ?_
            refine ab_iload_n (i := 1) dX3_shunnedBy_123 rfl rfl ?_
            refine ab_iconst (v := 1) dX3_shunnedBy_124 (by decide) ?_
            refine ab_iload_n (i := 2) dX3_shunnedBy_125 rfl rfl ?_
            refine ab_callV (b := 38) (As := [.int x1, .int 1, .int x2]) ht (Y_X8_hated) l_X3_172 in_X8_hated se_X8_hated (sh_k hs33 38 8 (by decide) rfl) (by decide) rfl rfl ⟨(Nat.le_of_ble_eq_true rfl), (Nat.le_of_ble_eq_true rfl), (Nat.le_of_ble_eq_true rfl), (Nat.le_of_ble_eq_true rfl)⟩ dX3_shunnedBy_126 ?_
            rintro _ h36 ⟨v38, rfl, hs37, ht⟩
            refine ab_iload (i := 4) dX3_shunnedBy_129 rfl ?_
            refine ab_iand dX3_shunnedBy_131 ?_
            refine ab_iload (i := 6) dX3_shunnedBy_132 rfl ?_
            refine ab_iand dX3_shunnedBy_134 ?_
            refine ab_ior dX3_shunnedBy_135 ?_
            refine ab_istore (i := 5) (L' := [some (.ref 43), some (.int x1), some (.int x2), some (.int ((ah_i h 43 5) &&& (((1 : Int32) <<< (x1 &&& 31)) ^^^ (-1)))), some (.int (((ah_i h 43 5) &&& (((ah_i h 43 5) &&& (((1 : Int32) <<< (x1 &&& 31)) ^^^ (-1))) ^^^ (-1))) &&& (((1 : Int32) <<< (x1 &&& 31)) ^^^ (-1)))), some (.int (((v34 &&& (((ah_i h 43 5) &&& (((ah_i h 43 5) &&& (((1 : Int32) <<< (x1 &&& 31)) ^^^ (-1))) ^^^ (-1))) &&& (((1 : Int32) <<< (x1 &&& 31)) ^^^ (-1)))) &&& (v31 ^^^ (-1))) ||| ((v38 &&& (((ah_i h 43 5) &&& (((ah_i h 43 5) &&& (((1 : Int32) <<< (x1 &&& 31)) ^^^ (-1))) ^^^ (-1))) &&& (((1 : Int32) <<< (x1 &&& 31)) ^^^ (-1)))) &&& v31))), some (.int v31), none, none]) dX3_shunnedBy_136 (by exact (Nat.le_of_ble_eq_true rfl)) rfl rfl ?_
            exact Wp.fewer (L' := [some (.ref 43), some (.int x1), some (.int x2), some (.int ((ah_i h 43 5) &&& (((1 : Int32) <<< (x1 &&& 31)) ^^^ (-1)))), none, some (.int (((v34 &&& (((ah_i h 43 5) &&& (((ah_i h 43 5) &&& (((1 : Int32) <<< (x1 &&& 31)) ^^^ (-1))) ^^^ (-1))) &&& (((1 : Int32) <<< (x1 &&& 31)) ^^^ (-1)))) &&& (v31 ^^^ (-1))) ||| ((v38 &&& (((ah_i h 43 5) &&& (((ah_i h 43 5) &&& (((1 : Int32) <<< (x1 &&& 31)) ^^^ (-1))) ^^^ (-1))) &&& (((1 : Int32) <<< (x1 &&& 31)) ^^^ (-1)))) &&& v31))), none, none, none]) (show ab_leL _ _ from ⟨rfl, ⟨rfl, ⟨rfl, ⟨rfl, ⟨rfl, trivial⟩⟩⟩⟩⟩) ht
  · have ht := ht.2 c1
    refine ab_iconst (v := 0) dX3_shunnedBy_8 (by decide) ?_
    refine ab_goto (tgt := 44) dX3_shunnedBy_9 (by decide) ?_
    refine ab_istore_n (i := 3) (L' := [some (.ref 43), some (.int x1), some (.int x2), some (.int 0), none, none, none, none, none]) dX3_shunnedBy_44 rfl (by exact (Nat.le_of_ble_eq_true rfl)) rfl rfl ?_
    refine ab_aload_n (i := 0) dX3_shunnedBy_45 rfl rfl ?_
    refine ab_getI f_X3_28 rfl (sh_k hs 43 3 (by decide) rfl) dX3_shunnedBy_46 ?_
    refine ab_iload_n (i := 3) dX3_shunnedBy_49 rfl rfl ?_
    refine ab_iconst (v := (-1)) dX3_shunnedBy_50 (by decide) ?_
    refine ab_ixor dX3_shunnedBy_51 ?_
    refine ab_iand dX3_shunnedBy_52 ?_
    refine ab_iconst (v := 1) dX3_shunnedBy_53 (by decide) ?_
    refine ab_iload_n (i := 1) dX3_shunnedBy_54 rfl rfl ?_
    refine ab_ishl dX3_shunnedBy_55 ?_
    refine ab_iconst (v := (-1)) dX3_shunnedBy_56 (by decide) ?_
    refine ab_ixor dX3_shunnedBy_57 ?_
    refine ab_iand dX3_shunnedBy_58 ?_
    refine ab_istore (i := 4) (L' := [some (.ref 43), some (.int x1), some (.int x2), some (.int 0), some (.int (((ah_i h 43 5) &&& (0 ^^^ (-1))) &&& (((1 : Int32) <<< (x1 &&& 31)) ^^^ (-1)))), none, none, none, none]) dX3_shunnedBy_59 (by exact (Nat.le_of_ble_eq_true rfl)) rfl rfl ?_
    refine ab_iconst (v := 0) dX3_shunnedBy_61 (by decide) ?_
    refine ab_istore (i := 5) (L' := [some (.ref 43), some (.int x1), some (.int x2), some (.int 0), some (.int (((ah_i h 43 5) &&& (0 ^^^ (-1))) &&& (((1 : Int32) <<< (x1 &&& 31)) ^^^ (-1)))), some (.int 0), none, none, none]) dX3_shunnedBy_62 (by exact (Nat.le_of_ble_eq_true rfl)) rfl rfl ?_
    refine ab_iload (i := 4) dX3_shunnedBy_64 rfl ?_
    refine ab_if_eq (tgt := 138) dX3_shunnedBy_66 (by decide) (fun c39 => ?_) (fun c39 => ?_)
    · have ht := ht.1 c39
      exact Wp.fewer (L' := [some (.ref 43), some (.int x1), some (.int x2), some (.int 0), none, some (.int 0), none, none, none]) (show ab_leL _ _ from ⟨rfl, ⟨rfl, ⟨rfl, ⟨rfl, ⟨rfl, trivial⟩⟩⟩⟩⟩) ht
    · have ht := ht.2 c39
      refine ab_aload_n (i := 0) dX3_shunnedBy_69 rfl rfl ?_
      refine ab_getR (b := 38) f_X3_72 rfl (sh_k hs 43 3 (by decide) rfl) (sh_r hs 58 rfl) dX3_shunnedBy_70 ?_
      refine ab_iconst (v := 0) dX3_shunnedBy_73 (by decide) ?_
      refine ab_iconst (v := 4) dX3_shunnedBy_74 (by decide) ?_
      refine ab_callV (b := 38) (As := [.int 0, .int 4]) ht (Y_X8_heeds) l_X3_150 in_X8_heeds se_X8_heeds (sh_k hs 38 8 (by decide) rfl) (by decide) rfl rfl ⟨(Nat.le_of_ble_eq_true rfl), (Nat.le_of_ble_eq_true rfl), (Nat.le_of_ble_eq_true rfl), (Nat.le_of_ble_eq_true rfl)⟩ dX3_shunnedBy_75 ?_
      rintro _ h40 ⟨v42, rfl, hs41, ht⟩
      refine ab_if_eq (tgt := 89) dX3_shunnedBy_78 (by decide) (fun c43 => ?_) (fun c43 => ?_)
      · have ht := ht.1 c43
        refine ab_iconst (v := 0) dX3_shunnedBy_89 (by decide) ?_
        refine ab_istore (i := 6) (L' := [some (.ref 43), some (.int x1), some (.int x2), some (.int 0), some (.int (((ah_i h 43 5) &&& (0 ^^^ (-1))) &&& (((1 : Int32) <<< (x1 &&& 31)) ^^^ (-1)))), some (.int 0), some (.int 0), none, none]) dX3_shunnedBy_90 (by exact (Nat.le_of_ble_eq_true rfl)) rfl rfl ?_
        refine ab_aload_n (i := 0) dX3_shunnedBy_92 rfl rfl ?_
        refine ab_getR (b := 38) f_X3_72 rfl (sh_k hs41 43 3 (by decide) rfl) (sh_r hs41 58 rfl) dX3_shunnedBy_93 ?_
        refine ab_iload_n (i := 1) dX3_shunnedBy_96 rfl rfl ?_
        refine ab_iconst (v := 0) dX3_shunnedBy_97 (by decide) ?_
        refine ab_iload_n (i := 2) dX3_shunnedBy_98 rfl rfl ?_
        refine ab_callV (b := 38) (As := [.int x1, .int 0, .int x2]) ht (Y_X8_hated) l_X3_172 in_X8_hated se_X8_hated (sh_k hs41 38 8 (by decide) rfl) (by decide) rfl rfl ⟨(Nat.le_of_ble_eq_true rfl), (Nat.le_of_ble_eq_true rfl), (Nat.le_of_ble_eq_true rfl), (Nat.le_of_ble_eq_true rfl)⟩ dX3_shunnedBy_99 ?_
        rintro _ h44 ⟨v46, rfl, hs45, ht⟩
        refine ab_iload (i := 4) dX3_shunnedBy_102 rfl ?_
        refine ab_iand dX3_shunnedBy_104 ?_
        refine ab_iload (i := 6) dX3_shunnedBy_105 rfl ?_
        refine ab_iconst (v := (-1)) dX3_shunnedBy_107 (by decide) ?_
        refine ab_ixor dX3_shunnedBy_108 ?_
        refine ab_iand dX3_shunnedBy_109 ?_
        refine ab_istore (i := 5) (L' := [some (.ref 43), some (.int x1), some (.int x2), some (.int 0), some (.int (((ah_i h 43 5) &&& (0 ^^^ (-1))) &&& (((1 : Int32) <<< (x1 &&& 31)) ^^^ (-1)))), some (.int ((v46 &&& (((ah_i h 43 5) &&& (0 ^^^ (-1))) &&& (((1 : Int32) <<< (x1 &&& 31)) ^^^ (-1)))) &&& (0 ^^^ (-1)))), some (.int 0), none, none]) dX3_shunnedBy_110 (by exact (Nat.le_of_ble_eq_true rfl)) rfl rfl ?_
        refine ab_iload (i := 6) dX3_shunnedBy_112 rfl ?_
        refine ab_if_eq (tgt := 138) dX3_shunnedBy_114 (by decide) (fun _ => ?_) (fun q => absurd (by decide) q)
        exact Wp.fewer (L' := [some (.ref 43), some (.int x1), some (.int x2), some (.int 0), none, some (.int ((v46 &&& (((ah_i h 43 5) &&& (0 ^^^ (-1))) &&& (((1 : Int32) <<< (x1 &&& 31)) ^^^ (-1)))) &&& (0 ^^^ (-1)))), none, none, none]) (show ab_leL _ _ from ⟨rfl, ⟨rfl, ⟨rfl, ⟨rfl, ⟨rfl, trivial⟩⟩⟩⟩⟩) ht
      · have ht := ht.2 c43
        refine ab_aload_n (i := 0) dX3_shunnedBy_81 rfl rfl ?_
        refine ab_iload_n (i := 1) dX3_shunnedBy_82 rfl rfl ?_
        refine ab_callV (b := 43) (As := [.int x1]) ht (Y_X3_olderThan) l_X3_169 in_X3_olderThan se_X3_olderThan (sh_k hs41 43 3 (by decide) rfl) (by decide) rfl rfl ⟨(Nat.le_of_ble_eq_true rfl), (Nat.le_of_ble_eq_true rfl), (Nat.le_of_ble_eq_true rfl), (Nat.le_of_ble_eq_true rfl)⟩ dX3_shunnedBy_83 ?_
        rintro _ h47 ⟨v49, rfl, hs48, ht⟩
        refine ab_goto (tgt := 90) dX3_shunnedBy_86 (by decide) ?_
        refine ab_istore (i := 6) (L' := [some (.ref 43), some (.int x1), some (.int x2), some (.int 0), some (.int (((ah_i h 43 5) &&& (0 ^^^ (-1))) &&& (((1 : Int32) <<< (x1 &&& 31)) ^^^ (-1)))), some (.int 0), some (.int v49), none, none]) dX3_shunnedBy_90 (by exact (Nat.le_of_ble_eq_true rfl)) rfl rfl ?_
        refine ab_aload_n (i := 0) dX3_shunnedBy_92 rfl rfl ?_
        refine ab_getR (b := 38) f_X3_72 rfl (sh_k hs48 43 3 (by decide) rfl) (sh_r hs48 58 rfl) dX3_shunnedBy_93 ?_
        refine ab_iload_n (i := 1) dX3_shunnedBy_96 rfl rfl ?_
        refine ab_iconst (v := 0) dX3_shunnedBy_97 (by decide) ?_
        refine ab_iload_n (i := 2) dX3_shunnedBy_98 rfl rfl ?_
        refine ab_callV (b := 38) (As := [.int x1, .int 0, .int x2]) ht (Y_X8_hated) l_X3_172 in_X8_hated se_X8_hated (sh_k hs48 38 8 (by decide) rfl) (by decide) rfl rfl ⟨(Nat.le_of_ble_eq_true rfl), (Nat.le_of_ble_eq_true rfl), (Nat.le_of_ble_eq_true rfl), (Nat.le_of_ble_eq_true rfl)⟩ dX3_shunnedBy_99 ?_
        rintro _ h50 ⟨v52, rfl, hs51, ht⟩
        refine ab_iload (i := 4) dX3_shunnedBy_102 rfl ?_
        refine ab_iand dX3_shunnedBy_104 ?_
        refine ab_iload (i := 6) dX3_shunnedBy_105 rfl ?_
        refine ab_iconst (v := (-1)) dX3_shunnedBy_107 (by decide) ?_
        refine ab_ixor dX3_shunnedBy_108 ?_
        refine ab_iand dX3_shunnedBy_109 ?_
        refine ab_istore (i := 5) (L' := [some (.ref 43), some (.int x1), some (.int x2), some (.int 0), some (.int (((ah_i h 43 5) &&& (0 ^^^ (-1))) &&& (((1 : Int32) <<< (x1 &&& 31)) ^^^ (-1)))), some (.int ((v52 &&& (((ah_i h 43 5) &&& (0 ^^^ (-1))) &&& (((1 : Int32) <<< (x1 &&& 31)) ^^^ (-1)))) &&& (v49 ^^^ (-1)))), some (.int v49), none, none]) dX3_shunnedBy_110 (by exact (Nat.le_of_ble_eq_true rfl)) rfl rfl ?_
        refine ab_iload (i := 6) dX3_shunnedBy_112 rfl ?_
        refine ab_if_eq (tgt := 138) dX3_shunnedBy_114 (by decide) (fun c53 => ?_) (fun c53 => ?_)
        · have ht := ht.1 c53
          exact Wp.fewer (L' := [some (.ref 43), some (.int x1), some (.int x2), some (.int 0), none, some (.int ((v52 &&& (((ah_i h 43 5) &&& (0 ^^^ (-1))) &&& (((1 : Int32) <<< (x1 &&& 31)) ^^^ (-1)))) &&& (v49 ^^^ (-1)))), none, none, none]) (show ab_leL _ _ from ⟨rfl, ⟨rfl, ⟨rfl, ⟨rfl, ⟨rfl, trivial⟩⟩⟩⟩⟩) ht
        · have ht := ht.2 c53
          refine ab_iload (i := 5) dX3_shunnedBy_117 rfl ?_
          refine ab_aload_n (i := 0) dX3_shunnedBy_119 rfl rfl ?_
          refine ab_getR (b := 38) f_X3_72 rfl (sh_k hs51 43 3 (by decide) rfl) (sh_r hs51 58 rfl) dX3_shunnedBy_120 ?_
          refine ab_iload_n (i := 1) dX3_shunnedBy_123 rfl rfl ?_
          refine ab_iconst (v := 1) dX3_shunnedBy_124 (by decide) ?_
          refine ab_iload_n (i := 2) dX3_shunnedBy_125 rfl rfl ?_
          refine ab_callV (b := 38) (As := [.int x1, .int 1, .int x2]) ht (Y_X8_hated) l_X3_172 in_X8_hated se_X8_hated (sh_k hs51 38 8 (by decide) rfl) (by decide) rfl rfl ⟨(Nat.le_of_ble_eq_true rfl), (Nat.le_of_ble_eq_true rfl), (Nat.le_of_ble_eq_true rfl), (Nat.le_of_ble_eq_true rfl)⟩ dX3_shunnedBy_126 ?_
          rintro _ h54 ⟨v56, rfl, hs55, ht⟩
          refine ab_iload (i := 4) dX3_shunnedBy_129 rfl ?_
          refine ab_iand dX3_shunnedBy_131 ?_
          refine ab_iload (i := 6) dX3_shunnedBy_132 rfl ?_
          refine ab_iand dX3_shunnedBy_134 ?_
          refine ab_ior dX3_shunnedBy_135 ?_
          refine ab_istore (i := 5) (L' := [some (.ref 43), some (.int x1), some (.int x2), some (.int 0), some (.int (((ah_i h 43 5) &&& (0 ^^^ (-1))) &&& (((1 : Int32) <<< (x1 &&& 31)) ^^^ (-1)))), some (.int (((v52 &&& (((ah_i h 43 5) &&& (0 ^^^ (-1))) &&& (((1 : Int32) <<< (x1 &&& 31)) ^^^ (-1)))) &&& (v49 ^^^ (-1))) ||| ((v56 &&& (((ah_i h 43 5) &&& (0 ^^^ (-1))) &&& (((1 : Int32) <<< (x1 &&& 31)) ^^^ (-1)))) &&& v49))), some (.int v49), none, none]) dX3_shunnedBy_136 (by exact (Nat.le_of_ble_eq_true rfl)) rfl rfl ?_
          exact Wp.fewer (L' := [some (.ref 43), some (.int x1), some (.int x2), some (.int 0), none, some (.int (((v52 &&& (((ah_i h 43 5) &&& (0 ^^^ (-1))) &&& (((1 : Int32) <<< (x1 &&& 31)) ^^^ (-1)))) &&& (v49 ^^^ (-1))) ||| ((v56 &&& (((ah_i h 43 5) &&& (0 ^^^ (-1))) &&& (((1 : Int32) <<< (x1 &&& 31)) ^^^ (-1)))) &&& v49))), none, none, none]) (show ab_leL _ _ from ⟨rfl, ⟨rfl, ⟨rfl, ⟨rfl, ⟨rfl, trivial⟩⟩⟩⟩⟩) ht
theorem dX3_olderThan_0 : decode cX3_olderThan 0 = .ok (.iconst 0, 1) := by decide +kernel
theorem dX3_olderThan_1 : decode cX3_olderThan 1 = .ok (.istore_n 2, 1) := by decide +kernel
theorem dX3_olderThan_2 : decode cX3_olderThan 2 = .ok (.iconst 0, 1) := by decide +kernel
theorem dX3_olderThan_3 : decode cX3_olderThan 3 = .ok (.istore_n 3, 1) := by decide +kernel
theorem dX3_olderThan_4 : decode cX3_olderThan 4 = .ok (.iload_n 3, 1) := by decide +kernel
theorem dX3_olderThan_5 : decode cX3_olderThan 5 = .ok (.aload_n 0, 1) := by decide +kernel
theorem dX3_olderThan_6 : decode cX3_olderThan 6 = .ok (.getfield 9, 3) := by decide +kernel
theorem dX3_olderThan_9 : decode cX3_olderThan 9 = .ok (.if_icmp .ge 30, 3) := by decide +kernel
theorem dX3_olderThan_12 : decode cX3_olderThan 12 = .ok (.aload_n 0, 1) := by decide +kernel
theorem dX3_olderThan_13 : decode cX3_olderThan 13 = .ok (.getfield 25, 3) := by decide +kernel
theorem dX3_olderThan_16 : decode cX3_olderThan 16 = .ok (.iload_n 1, 1) := by decide +kernel
theorem dX3_olderThan_17 : decode cX3_olderThan 17 = .ok (.iaload, 1) := by decide +kernel
theorem dX3_olderThan_18 : decode cX3_olderThan 18 = .ok (.aload_n 0, 1) := by decide +kernel
theorem dX3_olderThan_19 : decode cX3_olderThan 19 = .ok (.getfield 25, 3) := by decide +kernel
theorem dX3_olderThan_22 : decode cX3_olderThan 22 = .ok (.iload_n 3, 1) := by decide +kernel
theorem dX3_olderThan_23 : decode cX3_olderThan 23 = .ok (.iaload, 1) := by decide +kernel
theorem dX3_olderThan_24 : decode cX3_olderThan 24 = .ok (.if_icmp .le 9, 3) := by decide +kernel
theorem dX3_olderThan_27 : decode cX3_olderThan 27 = .ok (.iload_n 2, 1) := by decide +kernel
theorem dX3_olderThan_28 : decode cX3_olderThan 28 = .ok (.iconst 1, 1) := by decide +kernel
theorem dX3_olderThan_29 : decode cX3_olderThan 29 = .ok (.iload_n 3, 1) := by decide +kernel
theorem dX3_olderThan_30 : decode cX3_olderThan 30 = .ok (.ishl, 1) := by decide +kernel
theorem dX3_olderThan_31 : decode cX3_olderThan 31 = .ok (.ior, 1) := by decide +kernel
theorem dX3_olderThan_32 : decode cX3_olderThan 32 = .ok (.istore_n 2, 1) := by decide +kernel
theorem dX3_olderThan_33 : decode cX3_olderThan 33 = .ok (.iinc 3 1, 3) := by decide +kernel
theorem dX3_olderThan_36 : decode cX3_olderThan 36 = .ok (.goto (-32), 3) := by decide +kernel
theorem dX3_olderThan_39 : decode cX3_olderThan 39 = .ok (.iload_n 2, 1) := by decide +kernel
theorem dX3_olderThan_40 : decode cX3_olderThan 40 = .ok (.ireturn, 1) := by decide +kernel
set_option maxRecDepth 20000 in
theorem T_X3_olderThan_4 {Q : Option Value → ah_T → Prop} {h : ah_T} (hs : Sh h) (x1 : Int32) (x2 : Int32) (x3 : Int32) (ht : (((ah_i h 43 0) ≤ x3 → Q (some (.int x2)) h) ∧ (¬ (ah_i h 43 0) ≤ x3 → (vp_in x1 (ah_n h 47)) ∧ (vp_in x3 (ah_n h 47)) ∧ (((ah_i h 47 (Int32.toNatClampNeg x1)) ≤ (ah_i h 47 (Int32.toNatClampNeg x3)) → Wp mX3_olderThan Q 0 0 4 [some (.ref 43), some (.int x1), some (.int x2), some (.int (x3 + 1))] [] h) ∧ (¬ (ah_i h 47 (Int32.toNatClampNeg x1)) ≤ (ah_i h 47 (Int32.toNatClampNeg x3)) → Wp mX3_olderThan Q 0 0 4 [some (.ref 43), some (.int x1), some (.int (x2 ||| ((1 : Int32) <<< (x3 &&& 31)))), some (.int (x3 + 1))] [] h))))) : Wp mX3_olderThan Q 0 0 4 [some (.ref 43), some (.int x1), some (.int x2), some (.int x3)] [] h := by
  refine ab_iload_n (i := 3) dX3_olderThan_4 rfl rfl ?_
  refine ab_aload_n (i := 0) dX3_olderThan_5 rfl rfl ?_
  refine ab_getI f_X3_9 rfl (sh_k hs 43 3 (by decide) rfl) dX3_olderThan_6 ?_
  refine ab_icmp_ge (tgt := 39) dX3_olderThan_9 (by decide) (fun c1 => ?_) (fun c1 => ?_)
  · have ht := ht.1 c1
    refine ab_iload_n (i := 2) dX3_olderThan_39 rfl rfl ?_
    exact ab_iret rfl dX3_olderThan_40 (Nat.le_of_ble_eq_true rfl) (Nat.le_of_ble_eq_true rfl) ht
  · have ht := ht.2 c1
    refine ab_aload_n (i := 0) dX3_olderThan_12 rfl rfl ?_
    refine ab_getR (b := 47) f_X3_25 rfl (sh_k hs 43 3 (by decide) rfl) (sh_r hs 53 rfl) dX3_olderThan_13 ?_
    refine ab_iload_n (i := 1) dX3_olderThan_16 rfl rfl ?_
    obtain ⟨hc2, ht⟩ := ht
    refine ab_iald (sh_k hs 47 14 (by decide) rfl) hc2 dX3_olderThan_17 ?_
    refine ab_aload_n (i := 0) dX3_olderThan_18 rfl rfl ?_
    refine ab_getR (b := 47) f_X3_25 rfl (sh_k hs 43 3 (by decide) rfl) (sh_r hs 53 rfl) dX3_olderThan_19 ?_
    refine ab_iload_n (i := 3) dX3_olderThan_22 rfl rfl ?_
    obtain ⟨hc3, ht⟩ := ht
    refine ab_iald (sh_k hs 47 14 (by decide) rfl) hc3 dX3_olderThan_23 ?_
    refine ab_icmp_le (tgt := 33) dX3_olderThan_24 (by decide) (fun c4 => ?_) (fun c4 => ?_)
    · have ht := ht.1 c4
      refine ab_iinc (i := 3) (x := x3) (v := (x3 + 1)) (L' := [some (.ref 43), some (.int x1), some (.int x2), some (.int (x3 + 1))]) dX3_olderThan_33 rfl rfl (by exact (Nat.le_of_ble_eq_true rfl)) rfl rfl ?_
      refine ab_goto (tgt := 4) dX3_olderThan_36 (by decide) ?_
      exact Wp.fewer (L' := [some (.ref 43), some (.int x1), some (.int x2), some (.int (x3 + 1))]) (show ab_leL _ _ from ⟨rfl, ⟨rfl, ⟨rfl, ⟨rfl, trivial⟩⟩⟩⟩) ht
    · have ht := ht.2 c4
      refine ab_iload_n (i := 2) dX3_olderThan_27 rfl rfl ?_
      refine ab_iconst (v := 1) dX3_olderThan_28 (by decide) ?_
      refine ab_iload_n (i := 3) dX3_olderThan_29 rfl rfl ?_
      refine ab_ishl dX3_olderThan_30 ?_
      refine ab_ior dX3_olderThan_31 ?_
      refine ab_istore_n (i := 2) (L' := [some (.ref 43), some (.int x1), some (.int (x2 ||| ((1 : Int32) <<< (x3 &&& 31)))), some (.int x3)]) dX3_olderThan_32 rfl (by exact (Nat.le_of_ble_eq_true rfl)) rfl rfl ?_
      refine ab_iinc (i := 3) (x := x3) (v := (x3 + 1)) (L' := [some (.ref 43), some (.int x1), some (.int (x2 ||| ((1 : Int32) <<< (x3 &&& 31)))), some (.int (x3 + 1))]) dX3_olderThan_33 rfl rfl (by exact (Nat.le_of_ble_eq_true rfl)) rfl rfl ?_
      refine ab_goto (tgt := 4) dX3_olderThan_36 (by decide) ?_
      exact Wp.fewer (L' := [some (.ref 43), some (.int x1), some (.int (x2 ||| ((1 : Int32) <<< (x3 &&& 31)))), some (.int (x3 + 1))]) (show ab_leL _ _ from ⟨rfl, ⟨rfl, ⟨rfl, ⟨rfl, trivial⟩⟩⟩⟩) ht
set_option maxRecDepth 20000 in
theorem T_X3_olderThan {Q : Option Value → ah_T → Prop} {h : ah_T} (hs : Sh h) (x1 : Int32) (ht : Wp mX3_olderThan Q 0 0 4 [some (.ref 43), some (.int x1), some (.int 0), some (.int 0)] [] h) : Mt mX3_olderThan [.ref 43, .int x1] h Q := by
  refine Mt.ofWp rfl (by exact (Nat.le_of_ble_eq_true rfl)) (Wp.fewer (L' := [some (.ref 43), some (.int x1), none, none]) (show ab_leL _ _ from ⟨rfl, ⟨rfl, trivial⟩⟩) ?_)
  refine ab_iconst (v := 0) dX3_olderThan_0 (by decide) ?_
  refine ab_istore_n (i := 2) (L' := [some (.ref 43), some (.int x1), some (.int 0), none]) dX3_olderThan_1 rfl (by exact (Nat.le_of_ble_eq_true rfl)) rfl rfl ?_
  refine ab_iconst (v := 0) dX3_olderThan_2 (by decide) ?_
  refine ab_istore_n (i := 3) (L' := [some (.ref 43), some (.int x1), some (.int 0), some (.int 0)]) dX3_olderThan_3 rfl (by exact (Nat.le_of_ble_eq_true rfl)) rfl rfl ?_
  exact Wp.fewer (L' := [some (.ref 43), some (.int x1), some (.int 0), some (.int 0)]) (show ab_leL _ _ from ⟨rfl, ⟨rfl, ⟨rfl, ⟨rfl, trivial⟩⟩⟩⟩) ht
theorem dX3_yields_0 : decode cX3_yields 0 = .ok (.iconst 0, 1) := by decide +kernel
theorem dX3_yields_1 : decode cX3_yields 1 = .ok (.istore_n 2, 1) := by decide +kernel
theorem dX3_yields_2 : decode cX3_yields 2 = .ok (.iload_n 2, 1) := by decide +kernel
theorem dX3_yields_3 : decode cX3_yields 3 = .ok (.aload_n 0, 1) := by decide +kernel
theorem dX3_yields_4 : decode cX3_yields 4 = .ok (.getfield 9, 3) := by decide +kernel
theorem dX3_yields_7 : decode cX3_yields 7 = .ok (.if_icmp .ge 46, 3) := by decide +kernel
theorem dX3_yields_10 : decode cX3_yields 10 = .ok (.aload_n 0, 1) := by decide +kernel
theorem dX3_yields_11 : decode cX3_yields 11 = .ok (.getfield 58, 3) := by decide +kernel
theorem dX3_yields_14 : decode cX3_yields 14 = .ok (.iload_n 1, 1) := by decide +kernel
theorem dX3_yields_15 : decode cX3_yields 15 = .ok (.iaload, 1) := by decide +kernel
theorem dX3_yields_16 : decode cX3_yields 16 = .ok (.iload_n 2, 1) := by decide +kernel
theorem dX3_yields_17 : decode cX3_yields 17 = .ok (.ishr, 1) := by decide +kernel
theorem dX3_yields_18 : decode cX3_yields 18 = .ok (.iconst 1, 1) := by decide +kernel
theorem dX3_yields_19 : decode cX3_yields 19 = .ok (.iand, 1) := by decide +kernel
theorem dX3_yields_20 : decode cX3_yields 20 = .ok (.ifCond .eq 27, 3) := by decide +kernel
theorem dX3_yields_23 : decode cX3_yields 23 = .ok (.aload_n 0, 1) := by decide +kernel
theorem dX3_yields_24 : decode cX3_yields 24 = .ok (.getfield 58, 3) := by decide +kernel
theorem dX3_yields_27 : decode cX3_yields 27 = .ok (.iload_n 2, 1) := by decide +kernel
theorem dX3_yields_28 : decode cX3_yields 28 = .ok (.iaload, 1) := by decide +kernel
theorem dX3_yields_29 : decode cX3_yields 29 = .ok (.iload_n 1, 1) := by decide +kernel
theorem dX3_yields_30 : decode cX3_yields 30 = .ok (.ishr, 1) := by decide +kernel
theorem dX3_yields_31 : decode cX3_yields 31 = .ok (.iconst 1, 1) := by decide +kernel
theorem dX3_yields_32 : decode cX3_yields 32 = .ok (.iand, 1) := by decide +kernel
theorem dX3_yields_33 : decode cX3_yields 33 = .ok (.ifCond .eq 12, 3) := by decide +kernel
theorem dX3_yields_36 : decode cX3_yields 36 = .ok (.aload_n 0, 1) := by decide +kernel
theorem dX3_yields_37 : decode cX3_yields 37 = .ok (.iload_n 2, 1) := by decide +kernel
theorem dX3_yields_38 : decode cX3_yields 38 = .ok (.iload_n 1, 1) := by decide +kernel
theorem dX3_yields_39 : decode cX3_yields 39 = .ok (.invokevirtual 175, 3) := by decide +kernel
theorem dX3_yields_42 : decode cX3_yields 42 = .ok (.ifCond .ne 5, 3) := by decide +kernel
theorem dX3_yields_45 : decode cX3_yields 45 = .ok (.iconst 1, 1) := by decide +kernel
theorem dX3_yields_46 : decode cX3_yields 46 = .ok (.ireturn, 1) := by decide +kernel
theorem dX3_yields_47 : decode cX3_yields 47 = .ok (.iinc 2 1, 3) := by decide +kernel
theorem dX3_yields_50 : decode cX3_yields 50 = .ok (.goto (-48), 3) := by decide +kernel
theorem dX3_yields_53 : decode cX3_yields 53 = .ok (.iconst 0, 1) := by decide +kernel
theorem dX3_yields_54 : decode cX3_yields 54 = .ok (.ireturn, 1) := by decide +kernel
set_option maxRecDepth 20000 in
theorem T_X3_yields_2 {Q : Option Value → ah_T → Prop} {h : ah_T} (hs : Sh h) (x1 : Int32) (x2 : Int32) (ht : (((ah_i h 43 0) ≤ x2 → Q (some (.int 0)) h) ∧ (¬ (ah_i h 43 0) ≤ x2 → (vp_in x1 (ah_n h 52)) ∧ (((((ah_i h 52 (Int32.toNatClampNeg x1)) >>> (x2 &&& 31)) &&& 1) = 0 → Wp mX3_yields Q 0 0 2 [some (.ref 43), some (.int x1), some (.int (x2 + 1))] [] h) ∧ (¬ (((ah_i h 52 (Int32.toNatClampNeg x1)) >>> (x2 &&& 31)) &&& 1) = 0 → (vp_in x2 (ah_n h 52)) ∧ (((((ah_i h 52 (Int32.toNatClampNeg x2)) >>> (x1 &&& 31)) &&& 1) = 0 → Q (some (.int 1)) h) ∧ (¬ (((ah_i h 52 (Int32.toNatClampNeg x2)) >>> (x1 &&& 31)) &&& 1) = 0 → (vp_in x2 (ah_n h 47)) ∧ (vp_in x1 (ah_n h 47)) ∧ ((¬ (ah_i h 47 (Int32.toNatClampNeg x1)) < (ah_i h 47 (Int32.toNatClampNeg x2)) → vp_in x2 (ah_n h 47))) ∧ ((¬ (ah_i h 47 (Int32.toNatClampNeg x1)) < (ah_i h 47 (Int32.toNatClampNeg x2)) → vp_in x1 (ah_n h 47))) ∧ ((¬ (f_X3_cameLater h x2 x1) = 0 → Wp mX3_yields Q 0 0 2 [some (.ref 43), some (.int x1), some (.int (x2 + 1))] [] h) ∧ ((f_X3_cameLater h x2 x1) = 0 → Q (some (.int 1)) h))))))))) : Wp mX3_yields Q 0 0 2 [some (.ref 43), some (.int x1), some (.int x2)] [] h := by
  refine ab_iload_n (i := 2) dX3_yields_2 rfl rfl ?_
  refine ab_aload_n (i := 0) dX3_yields_3 rfl rfl ?_
  refine ab_getI f_X3_9 rfl (sh_k hs 43 3 (by decide) rfl) dX3_yields_4 ?_
  refine ab_icmp_ge (tgt := 53) dX3_yields_7 (by decide) (fun c1 => ?_) (fun c1 => ?_)
  · have ht := ht.1 c1
    refine ab_iconst (v := 0) dX3_yields_53 (by decide) ?_
    exact ab_zret rfl rfl dX3_yields_54 (Nat.le_of_ble_eq_true rfl) (Nat.le_of_ble_eq_true rfl) ht
  · have ht := ht.2 c1
    refine ab_aload_n (i := 0) dX3_yields_10 rfl rfl ?_
    refine ab_getR (b := 52) f_X3_58 rfl (sh_k hs 43 3 (by decide) rfl) (sh_r hs 61 rfl) dX3_yields_11 ?_
    refine ab_iload_n (i := 1) dX3_yields_14 rfl rfl ?_
    obtain ⟨hc2, ht⟩ := ht
    refine ab_iald (sh_k hs 52 14 (by decide) rfl) hc2 dX3_yields_15 ?_
    refine ab_iload_n (i := 2) dX3_yields_16 rfl rfl ?_
    refine ab_ishr dX3_yields_17 ?_
    refine ab_iconst (v := 1) dX3_yields_18 (by decide) ?_
    refine ab_iand dX3_yields_19 ?_
    refine ab_if_eq (tgt := 47) dX3_yields_20 (by decide) (fun c3 => ?_) (fun c3 => ?_)
    · have ht := ht.1 c3
      refine ab_iinc (i := 2) (x := x2) (v := (x2 + 1)) (L' := [some (.ref 43), some (.int x1), some (.int (x2 + 1))]) dX3_yields_47 rfl rfl (by exact (Nat.le_of_ble_eq_true rfl)) rfl rfl ?_
      refine ab_goto (tgt := 2) dX3_yields_50 (by decide) ?_
      exact Wp.fewer (L' := [some (.ref 43), some (.int x1), some (.int (x2 + 1))]) (show ab_leL _ _ from ⟨rfl, ⟨rfl, ⟨rfl, trivial⟩⟩⟩) ht
    · have ht := ht.2 c3
      refine ab_aload_n (i := 0) dX3_yields_23 rfl rfl ?_
      refine ab_getR (b := 52) f_X3_58 rfl (sh_k hs 43 3 (by decide) rfl) (sh_r hs 61 rfl) dX3_yields_24 ?_
      refine ab_iload_n (i := 2) dX3_yields_27 rfl rfl ?_
      obtain ⟨hc4, ht⟩ := ht
      refine ab_iald (sh_k hs 52 14 (by decide) rfl) hc4 dX3_yields_28 ?_
      refine ab_iload_n (i := 1) dX3_yields_29 rfl rfl ?_
      refine ab_ishr dX3_yields_30 ?_
      refine ab_iconst (v := 1) dX3_yields_31 (by decide) ?_
      refine ab_iand dX3_yields_32 ?_
      refine ab_if_eq (tgt := 45) dX3_yields_33 (by decide) (fun c5 => ?_) (fun c5 => ?_)
      · have ht := ht.1 c5
        refine ab_iconst (v := 1) dX3_yields_45 (by decide) ?_
        exact ab_zret rfl rfl dX3_yields_46 (Nat.le_of_ble_eq_true rfl) (Nat.le_of_ble_eq_true rfl) ht
      · have ht := ht.2 c5
        refine ab_aload_n (i := 0) dX3_yields_36 rfl rfl ?_
        refine ab_iload_n (i := 2) dX3_yields_37 rfl rfl ?_
        refine ab_iload_n (i := 1) dX3_yields_38 rfl rfl ?_
        obtain ⟨hc6, ht⟩ := ht
        obtain ⟨hc7, ht⟩ := ht
        obtain ⟨hc8, ht⟩ := ht
        obtain ⟨hc9, ht⟩ := ht
        refine ab_callV (b := 43) (Q' := fun r h' => r = some (.int (f_X3_cameLater h x2 x1)) ∧ h = h') (As := [.int x2, .int x1]) (c_X3_cameLater hs x2 x1  hc6 hc7 hc8 hc9 ⟨rfl, rfl⟩) (Y_X3_cameLater) l_X3_175 in_X3_cameLater se_X3_cameLater (sh_k hs 43 3 (by decide) rfl) (by decide) rfl rfl ⟨(Nat.le_of_ble_eq_true rfl), (Nat.le_of_ble_eq_true rfl), (Nat.le_of_ble_eq_true rfl), (Nat.le_of_ble_eq_true rfl)⟩ dX3_yields_39 ?_
        rintro _ _ ⟨rfl, rfl⟩
        refine ab_if_ne (tgt := 47) dX3_yields_42 (by decide) (fun c10 => ?_) (fun c10 => ?_)
        · have ht := ht.1 c10
          refine ab_iinc (i := 2) (x := x2) (v := (x2 + 1)) (L' := [some (.ref 43), some (.int x1), some (.int (x2 + 1))]) dX3_yields_47 rfl rfl (by exact (Nat.le_of_ble_eq_true rfl)) rfl rfl ?_
          refine ab_goto (tgt := 2) dX3_yields_50 (by decide) ?_
          exact Wp.fewer (L' := [some (.ref 43), some (.int x1), some (.int (x2 + 1))]) (show ab_leL _ _ from ⟨rfl, ⟨rfl, ⟨rfl, trivial⟩⟩⟩) ht
        · have ht := ht.2 c10
          refine ab_iconst (v := 1) dX3_yields_45 (by decide) ?_
          exact ab_zret rfl rfl dX3_yields_46 (Nat.le_of_ble_eq_true rfl) (Nat.le_of_ble_eq_true rfl) ht
set_option maxRecDepth 20000 in
theorem T_X3_yields {Q : Option Value → ah_T → Prop} {h : ah_T} (hs : Sh h) (x1 : Int32) (ht : Wp mX3_yields Q 0 0 2 [some (.ref 43), some (.int x1), some (.int 0)] [] h) : Mt mX3_yields [.ref 43, .int x1] h Q := by
  refine Mt.ofWp rfl (by exact (Nat.le_of_ble_eq_true rfl)) (Wp.fewer (L' := [some (.ref 43), some (.int x1), none]) (show ab_leL _ _ from ⟨rfl, ⟨rfl, trivial⟩⟩) ?_)
  refine ab_iconst (v := 0) dX3_yields_0 (by decide) ?_
  refine ab_istore_n (i := 2) (L' := [some (.ref 43), some (.int x1), some (.int 0)]) dX3_yields_1 rfl (by exact (Nat.le_of_ble_eq_true rfl)) rfl rfl ?_
  exact Wp.fewer (L' := [some (.ref 43), some (.int x1), some (.int 0)]) (show ab_leL _ _ from ⟨rfl, ⟨rfl, ⟨rfl, trivial⟩⟩⟩) ht
theorem dX3_finish_0 : decode cX3_finish 0 = .ok (.aload_n 0, 1) := by decide +kernel
theorem dX3_finish_1 : decode cX3_finish 1 = .ok (.iload_n 2, 1) := by decide +kernel
theorem dX3_finish_2 : decode cX3_finish 2 = .ok (.putfield 34, 3) := by decide +kernel
theorem dX3_finish_5 : decode cX3_finish 5 = .ok (.aload_n 0, 1) := by decide +kernel
theorem dX3_finish_6 : decode cX3_finish 6 = .ok (.dup, 1) := by decide +kernel
theorem dX3_finish_7 : decode cX3_finish 7 = .ok (.getfield 46, 3) := by decide +kernel
theorem dX3_finish_10 : decode cX3_finish 10 = .ok (.iload_n 2, 1) := by decide +kernel
theorem dX3_finish_11 : decode cX3_finish 11 = .ok (.ior, 1) := by decide +kernel
theorem dX3_finish_12 : decode cX3_finish 12 = .ok (.putfield 46, 3) := by decide +kernel
theorem dX3_finish_15 : decode cX3_finish 15 = .ok (.aload_n 0, 1) := by decide +kernel
theorem dX3_finish_16 : decode cX3_finish 16 = .ok (.dup, 1) := by decide +kernel
theorem dX3_finish_17 : decode cX3_finish 17 = .ok (.getfield 28, 3) := by decide +kernel
theorem dX3_finish_20 : decode cX3_finish 20 = .ok (.iload_n 2, 1) := by decide +kernel
theorem dX3_finish_21 : decode cX3_finish 21 = .ok (.iconst (-1), 1) := by decide +kernel
theorem dX3_finish_22 : decode cX3_finish 22 = .ok (.ixor, 1) := by decide +kernel
theorem dX3_finish_23 : decode cX3_finish 23 = .ok (.iand, 1) := by decide +kernel
theorem dX3_finish_24 : decode cX3_finish 24 = .ok (.putfield 28, 3) := by decide +kernel
theorem dX3_finish_27 : decode cX3_finish 27 = .ok (.aload_n 0, 1) := by decide +kernel
theorem dX3_finish_28 : decode cX3_finish 28 = .ok (.iconst 0, 1) := by decide +kernel
theorem dX3_finish_29 : decode cX3_finish 29 = .ok (.putfield 31, 3) := by decide +kernel
theorem dX3_finish_32 : decode cX3_finish 32 = .ok (.aload_n 0, 1) := by decide +kernel
theorem dX3_finish_33 : decode cX3_finish 33 = .ok (.getfield 28, 3) := by decide +kernel
theorem dX3_finish_36 : decode cX3_finish 36 = .ok (.istore_n 3, 1) := by decide +kernel
theorem dX3_finish_37 : decode cX3_finish 37 = .ok (.iconst 0, 1) := by decide +kernel
theorem dX3_finish_38 : decode cX3_finish 38 = .ok (.istore 4, 2) := by decide +kernel
theorem dX3_finish_40 : decode cX3_finish 40 = .ok (.iload 4, 2) := by decide +kernel
theorem dX3_finish_42 : decode cX3_finish 42 = .ok (.aload_n 0, 1) := by decide +kernel
theorem dX3_finish_43 : decode cX3_finish 43 = .ok (.getfield 9, 3) := by decide +kernel
theorem dX3_finish_46 : decode cX3_finish 46 = .ok (.if_icmp .ge 129, 3) := by decide +kernel
theorem dX3_finish_49 : decode cX3_finish 49 = .ok (.iload_n 2, 1) := by decide +kernel
theorem dX3_finish_50 : decode cX3_finish 50 = .ok (.iload 4, 2) := by decide +kernel
theorem dX3_finish_52 : decode cX3_finish 52 = .ok (.ishr, 1) := by decide +kernel
theorem dX3_finish_53 : decode cX3_finish 53 = .ok (.iconst 1, 1) := by decide +kernel
theorem dX3_finish_54 : decode cX3_finish 54 = .ok (.iand, 1) := by decide +kernel
theorem dX3_finish_55 : decode cX3_finish 55 = .ok (.ifCond .eq 11, 3) := by decide +kernel
theorem dX3_finish_58 : decode cX3_finish 58 = .ok (.aload_n 0, 1) := by decide +kernel
theorem dX3_finish_59 : decode cX3_finish 59 = .ok (.getfield 25, 3) := by decide +kernel
theorem dX3_finish_62 : decode cX3_finish 62 = .ok (.iload 4, 2) := by decide +kernel
theorem dX3_finish_64 : decode cX3_finish 64 = .ok (.iload_n 1, 1) := by decide +kernel
theorem dX3_finish_65 : decode cX3_finish 65 = .ok (.iastore, 1) := by decide +kernel
theorem dX3_finish_66 : decode cX3_finish 66 = .ok (.iload_n 3, 1) := by decide +kernel
theorem dX3_finish_67 : decode cX3_finish 67 = .ok (.iload 4, 2) := by decide +kernel
theorem dX3_finish_69 : decode cX3_finish 69 = .ok (.ishr, 1) := by decide +kernel
theorem dX3_finish_70 : decode cX3_finish 70 = .ok (.iconst 1, 1) := by decide +kernel
theorem dX3_finish_71 : decode cX3_finish 71 = .ok (.iand, 1) := by decide +kernel
theorem dX3_finish_72 : decode cX3_finish 72 = .ok (.ifCond .ne 6, 3) := by decide +kernel
theorem dX3_finish_75 : decode cX3_finish 75 = .ok (.goto 94, 3) := by decide +kernel
theorem dX3_finish_78 : decode cX3_finish 78 = .ok (.iload 4, 2) := by decide +kernel
theorem dX3_finish_80 : decode cX3_finish 80 = .ok (.aload_n 0, 1) := by decide +kernel
theorem dX3_finish_81 : decode cX3_finish 81 = .ok (.getfield 49, 3) := by decide +kernel
theorem dX3_finish_84 : decode cX3_finish 84 = .ok (.if_icmp .ne 27, 3) := by decide +kernel
theorem dX3_finish_87 : decode cX3_finish 87 = .ok (.aload_n 0, 1) := by decide +kernel
theorem dX3_finish_88 : decode cX3_finish 88 = .ok (.getfield 72, 3) := by decide +kernel
theorem dX3_finish_91 : decode cX3_finish 91 = .ok (.iconst 2, 1) := by decide +kernel
theorem dX3_finish_92 : decode cX3_finish 92 = .ok (.iload 4, 2) := by decide +kernel
theorem dX3_finish_94 : decode cX3_finish 94 = .ok (.aload_n 0, 1) := by decide +kernel
theorem dX3_finish_95 : decode cX3_finish 95 = .ok (.getfield 19, 3) := by decide +kernel
theorem dX3_finish_98 : decode cX3_finish 98 = .ok (.iload 4, 2) := by decide +kernel
theorem dX3_finish_100 : decode cX3_finish 100 = .ok (.iaload, 1) := by decide +kernel
theorem dX3_finish_101 : decode cX3_finish 101 = .ok (.iconst (-1), 1) := by decide +kernel
theorem dX3_finish_102 : decode cX3_finish 102 = .ok (.iconst (-1), 1) := by decide +kernel
theorem dX3_finish_103 : decode cX3_finish 103 = .ok (.iconst (-1), 1) := by decide +kernel
theorem dX3_finish_104 : decode cX3_finish 104 = .ok (.iload_n 1, 1) := by decide +kernel
theorem dX3_finish_105 : decode cX3_finish 105 = .ok (.invokevirtual 165, 3) := by decide +kernel
theorem dX3_finish_108 : decode cX3_finish 108 = .ok (.goto 13, 3) := by decide +kernel
theorem dX3_finish_111 : decode cX3_finish 111 = .ok (.aload_n 0, 1) := by decide +kernel
theorem dX3_finish_112 : decode cX3_finish 112 = .ok (.getfield 72, 3) := by decide +kernel
theorem dX3_finish_115 : decode cX3_finish 115 = .ok (.iload 4, 2) := by decide +kernel
theorem dX3_finish_117 : decode cX3_finish 117 = .ok (.iload_n 1, 1) := by decide +kernel
theorem dX3_finish_118 : decode cX3_finish 118 = .ok (.invokevirtual 178, 3) := by decide +kernel
theorem dX3_finish_121 : decode cX3_finish 121 = .ok (.istore 5, 2) := by decide +kernel
theorem dX3_finish_123 : decode cX3_finish 123 = .ok (.aload_n 0, 1) := by decide +kernel
theorem dX3_finish_124 : decode cX3_finish 124 = .ok (.getfield 22, 3) := by decide +kernel
theorem dX3_finish_127 : decode cX3_finish 127 = .ok (.iload 4, 2) := by decide +kernel
theorem dX3_finish_129 : decode cX3_finish 129 = .ok (.iconst 0, 1) := by decide +kernel
theorem dX3_finish_130 : decode cX3_finish 130 = .ok (.aload_n 0, 1) := by decide +kernel
theorem dX3_finish_131 : decode cX3_finish 131 = .ok (.getfield 22, 3) := by decide +kernel
theorem dX3_finish_134 : decode cX3_finish 134 = .ok (.iload 4, 2) := by decide +kernel
theorem dX3_finish_136 : decode cX3_finish 136 = .ok (.iaload, 1) := by decide +kernel
theorem dX3_finish_137 : decode cX3_finish 137 = .ok (.iload 5, 2) := by decide +kernel
theorem dX3_finish_139 : decode cX3_finish 139 = .ok (.isub, 1) := by decide +kernel
theorem dX3_finish_140 : decode cX3_finish 140 = .ok (.invokestatic 181, 3) := by decide +kernel
theorem dX3_finish_143 : decode cX3_finish 143 = .ok (.iastore, 1) := by decide +kernel
theorem dX3_finish_144 : decode cX3_finish 144 = .ok (.aload_n 0, 1) := by decide +kernel
theorem dX3_finish_145 : decode cX3_finish 145 = .ok (.getfield 22, 3) := by decide +kernel
theorem dX3_finish_148 : decode cX3_finish 148 = .ok (.iload 4, 2) := by decide +kernel
theorem dX3_finish_150 : decode cX3_finish 150 = .ok (.iaload, 1) := by decide +kernel
theorem dX3_finish_151 : decode cX3_finish 151 = .ok (.ifCond .ne 18, 3) := by decide +kernel
theorem dX3_finish_154 : decode cX3_finish 154 = .ok (.aload_n 0, 1) := by decide +kernel
theorem dX3_finish_155 : decode cX3_finish 155 = .ok (.dup, 1) := by decide +kernel
theorem dX3_finish_156 : decode cX3_finish 156 = .ok (.getfield 28, 3) := by decide +kernel
theorem dX3_finish_159 : decode cX3_finish 159 = .ok (.iconst 1, 1) := by decide +kernel
theorem dX3_finish_160 : decode cX3_finish 160 = .ok (.iload 4, 2) := by decide +kernel
theorem dX3_finish_162 : decode cX3_finish 162 = .ok (.ishl, 1) := by decide +kernel
theorem dX3_finish_163 : decode cX3_finish 163 = .ok (.iconst (-1), 1) := by decide +kernel
theorem dX3_finish_164 : decode cX3_finish 164 = .ok (.ixor, 1) := by decide +kernel
theorem dX3_finish_165 : decode cX3_finish 165 = .ok (.iand, 1) := by decide +kernel
theorem dX3_finish_166 : decode cX3_finish 166 = .ok (.putfield 28, 3) := by decide +kernel
theorem dX3_finish_169 : decode cX3_finish 169 = .ok (.iinc 4 1, 3) := by decide +kernel
theorem dX3_finish_172 : decode cX3_finish 172 = .ok (.goto (-132), 3) := by decide +kernel
theorem dX3_finish_175 : decode cX3_finish 175 = .ok (.iload_n 3, 1) := by decide +kernel
theorem dX3_finish_176 : decode cX3_finish 176 = .ok (.ireturn, 1) := by decide +kernel
set_option maxRecDepth 20000 in
theorem T_X3_finish_40 {Q : Option Value → ah_T → Prop} {h : ah_T} (hs : Sh h) (x1 : Int32) (x2 : Int32) (x3 : Int32) (x4 : Int32) (ht : (((ah_i h 43 0) ≤ x4 → Q (some (.int x3)) h) ∧ (¬ (ah_i h 43 0) ≤ x4 → ((((x2 >>> (x4 &&& 31)) &&& 1) = 0 → ((¬ ((x3 >>> (x4 &&& 31)) &&& 1) = 0 → ((¬ x4 = (ah_i h 43 15) → (Mt mX8_thirst [.ref 38, .int x4, .int x1] h (ab_qi fun v19 h17 => Sh h17 ∧ (vp_in x4 (ah_n h17 46)) ∧ (vp_in x4 (ah_n h17 46)) ∧ (∀ h22, h22 = ah_si h17 46 (Int32.toNatClampNeg x4) (if 0 < ((ah_i h17 46 (Int32.toNatClampNeg x4)) - v19) then ((ah_i h17 46 (Int32.toNatClampNeg x4)) - v19) else 0) → (vp_in x4 (ah_n h22 46)) ∧ ((¬ (ah_i h22 46 (Int32.toNatClampNeg x4)) = 0 → Wp mX3_finish Q 0 0 40 [some (.ref 43), some (.int x1), some (.int x2), some (.int x3), some (.int (x4 + 1)), none] [] h22) ∧ ((ah_i h22 46 (Int32.toNatClampNeg x4)) = 0 → (∀ h27, h27 = ah_si h22 43 5 ((ah_i h22 43 5) &&& (((1 : Int32) <<< (x4 &&& 31)) ^^^ (-1))) → Wp mX3_finish Q 0 0 40 [some (.ref 43), some (.int x1), some (.int x2), some (.int x3), some (.int (x4 + 1)), none] [] h27))))))) ∧ (x4 = (ah_i h 43 15) → (vp_in x4 (ah_n h 45)) ∧ (Mt mX8_ask [.ref 38, .int 2, .int x4, .int (ah_i h 45 (Int32.toNatClampNeg x4)), .int (-1), .int (-1), .int (-1), .int x1] h (ab_qi fun v33 h31 => Sh h31 ∧ (vp_in x4 (ah_n h31 46)) ∧ (vp_in x4 (ah_n h31 46)) ∧ (∀ h36, h36 = ah_si h31 46 (Int32.toNatClampNeg x4) (if 0 < ((ah_i h31 46 (Int32.toNatClampNeg x4)) - v33) then ((ah_i h31 46 (Int32.toNatClampNeg x4)) - v33) else 0) → (vp_in x4 (ah_n h36 46)) ∧ ((¬ (ah_i h36 46 (Int32.toNatClampNeg x4)) = 0 → Wp mX3_finish Q 0 0 40 [some (.ref 43), some (.int x1), some (.int x2), some (.int x3), some (.int (x4 + 1)), none] [] h36) ∧ ((ah_i h36 46 (Int32.toNatClampNeg x4)) = 0 → (∀ h41, h41 = ah_si h36 43 5 ((ah_i h36 43 5) &&& (((1 : Int32) <<< (x4 &&& 31)) ^^^ (-1))) → Wp mX3_finish Q 0 0 40 [some (.ref 43), some (.int x1), some (.int x2), some (.int x3), some (.int (x4 + 1)), none] [] h41))))))))) ∧ (((x3 >>> (x4 &&& 31)) &&& 1) = 0 → Wp mX3_finish Q 0 0 40 [some (.ref 43), some (.int x1), some (.int x2), some (.int x3), some (.int (x4 + 1)), none] [] h))) ∧ (¬ ((x2 >>> (x4 &&& 31)) &&& 1) = 0 → (vp_in x4 (ah_n h 47)) ∧ (∀ h45, h45 = ah_si h 47 (Int32.toNatClampNeg x4) x1 → ((¬ ((x3 >>> (x4 &&& 31)) &&& 1) = 0 → ((¬ x4 = (ah_i h45 43 15) → (Mt mX8_thirst [.ref 38, .int x4, .int x1] h45 (ab_qi fun v52 h50 => Sh h50 ∧ (vp_in x4 (ah_n h50 46)) ∧ (vp_in x4 (ah_n h50 46)) ∧ (∀ h55, h55 = ah_si h50 46 (Int32.toNatClampNeg x4) (if 0 < ((ah_i h50 46 (Int32.toNatClampNeg x4)) - v52) then ((ah_i h50 46 (Int32.toNatClampNeg x4)) - v52) else 0) → (vp_in x4 (ah_n h55 46)) ∧ ((¬ (ah_i h55 46 (Int32.toNatClampNeg x4)) = 0 → Wp mX3_finish Q 0 0 40 [some (.ref 43), some (.int x1), some (.int x2), some (.int x3), some (.int (x4 + 1)), none] [] h55) ∧ ((ah_i h55 46 (Int32.toNatClampNeg x4)) = 0 → (∀ h60, h60 = ah_si h55 43 5 ((ah_i h55 43 5) &&& (((1 : Int32) <<< (x4 &&& 31)) ^^^ (-1))) → Wp mX3_finish Q 0 0 40 [some (.ref 43), some (.int x1), some (.int x2), some (.int x3), some (.int (x4 + 1)), none] [] h60))))))) ∧ (x4 = (ah_i h45 43 15) → (vp_in x4 (ah_n h45 45)) ∧ (Mt mX8_ask [.ref 38, .int 2, .int x4, .int (ah_i h45 45 (Int32.toNatClampNeg x4)), .int (-1), .int (-1), .int (-1), .int x1] h45 (ab_qi fun v66 h64 => Sh h64 ∧ (vp_in x4 (ah_n h64 46)) ∧ (vp_in x4 (ah_n h64 46)) ∧ (∀ h69, h69 = ah_si h64 46 (Int32.toNatClampNeg x4) (if 0 < ((ah_i h64 46 (Int32.toNatClampNeg x4)) - v66) then ((ah_i h64 46 (Int32.toNatClampNeg x4)) - v66) else 0) → (vp_in x4 (ah_n h69 46)) ∧ ((¬ (ah_i h69 46 (Int32.toNatClampNeg x4)) = 0 → Wp mX3_finish Q 0 0 40 [some (.ref 43), some (.int x1), some (.int x2), some (.int x3), some (.int (x4 + 1)), none] [] h69) ∧ ((ah_i h69 46 (Int32.toNatClampNeg x4)) = 0 → (∀ h74, h74 = ah_si h69 43 5 ((ah_i h69 43 5) &&& (((1 : Int32) <<< (x4 &&& 31)) ^^^ (-1))) → Wp mX3_finish Q 0 0 40 [some (.ref 43), some (.int x1), some (.int x2), some (.int x3), some (.int (x4 + 1)), none] [] h74))))))))) ∧ (((x3 >>> (x4 &&& 31)) &&& 1) = 0 → Wp mX3_finish Q 0 0 40 [some (.ref 43), some (.int x1), some (.int x2), some (.int x3), some (.int (x4 + 1)), none] [] h45)))))))) : Wp mX3_finish Q 0 0 40 [some (.ref 43), some (.int x1), some (.int x2), some (.int x3), some (.int x4), none] [] h := by
  refine ab_iload (i := 4) dX3_finish_40 rfl ?_
  refine ab_aload_n (i := 0) dX3_finish_42 rfl rfl ?_
  refine ab_getI f_X3_9 rfl (sh_k hs 43 3 (by decide) rfl) dX3_finish_43 ?_
  refine ab_icmp_ge (tgt := 175) dX3_finish_46 (by decide) (fun c13 => ?_) (fun c13 => ?_)
  · have ht := ht.1 c13
    refine ab_iload_n (i := 3) dX3_finish_175 rfl rfl ?_
    exact ab_iret rfl dX3_finish_176 (Nat.le_of_ble_eq_true rfl) (Nat.le_of_ble_eq_true rfl) ht
  · have ht := ht.2 c13
    refine ab_iload_n (i := 2) dX3_finish_49 rfl rfl ?_
    refine ab_iload (i := 4) dX3_finish_50 rfl ?_
    refine ab_ishr dX3_finish_52 ?_
    refine ab_iconst (v := 1) dX3_finish_53 (by decide) ?_
    refine ab_iand dX3_finish_54 ?_
    refine ab_if_eq (tgt := 66) dX3_finish_55 (by decide) (fun c14 => ?_) (fun c14 => ?_)
    · have ht := ht.1 c14
      refine ab_iload_n (i := 3) dX3_finish_66 rfl rfl ?_
      refine ab_iload (i := 4) dX3_finish_67 rfl ?_
      refine ab_ishr dX3_finish_69 ?_
      refine ab_iconst (v := 1) dX3_finish_70 (by decide) ?_
      refine ab_iand dX3_finish_71 ?_
      refine ab_if_ne (tgt := 78) dX3_finish_72 (by decide) (fun c15 => ?_) (fun c15 => ?_)
      · have ht := ht.1 c15
        refine ab_iload (i := 4) dX3_finish_78 rfl ?_
        refine ab_aload_n (i := 0) dX3_finish_80 rfl rfl ?_
        refine ab_getI f_X3_49 rfl (sh_k hs 43 3 (by decide) rfl) dX3_finish_81 ?_
        refine ab_icmp_ne (tgt := 111) dX3_finish_84 (by decide) (fun c16 => ?_) (fun c16 => ?_)
        · have ht := ht.1 c16
          refine ab_aload_n (i := 0) dX3_finish_111 rfl rfl ?_
          refine ab_getR (b := 38) f_X3_72 rfl (sh_k hs 43 3 (by decide) rfl) (sh_r hs 58 rfl) dX3_finish_112 ?_
          refine ab_iload (i := 4) dX3_finish_115 rfl ?_
          refine ab_iload_n (i := 1) dX3_finish_117 rfl rfl ?_
          refine ab_callV (b := 38) (As := [.int x4, .int x1]) ht (Y_X8_thirst) l_X3_178 in_X8_thirst se_X8_thirst (sh_k hs 38 8 (by decide) rfl) (by decide) rfl rfl ⟨(Nat.le_of_ble_eq_true rfl), (Nat.le_of_ble_eq_true rfl), (Nat.le_of_ble_eq_true rfl), (Nat.le_of_ble_eq_true rfl)⟩ dX3_finish_118 ?_
          rintro _ h17 ⟨v19, rfl, hs18, ht⟩
          refine ab_istore (i := 5) (L' := [some (.ref 43), some (.int x1), some (.int x2), some (.int x3), some (.int x4), some (.int v19)]) dX3_finish_121 (by exact (Nat.le_of_ble_eq_true rfl)) rfl rfl ?_
          refine ab_aload_n (i := 0) dX3_finish_123 rfl rfl ?_
          refine ab_getR (b := 46) f_X3_22 rfl (sh_k hs18 43 3 (by decide) rfl) (sh_r hs18 52 rfl) dX3_finish_124 ?_
          refine ab_iload (i := 4) dX3_finish_127 rfl ?_
          refine ab_iconst (v := 0) dX3_finish_129 (by decide) ?_
          refine ab_aload_n (i := 0) dX3_finish_130 rfl rfl ?_
          refine ab_getR (b := 46) f_X3_22 rfl (sh_k hs18 43 3 (by decide) rfl) (sh_r hs18 52 rfl) dX3_finish_131 ?_
          refine ab_iload (i := 4) dX3_finish_134 rfl ?_
          obtain ⟨hc20, ht⟩ := ht
          refine ab_iald (sh_k hs18 46 14 (by decide) rfl) hc20 dX3_finish_136 ?_
          refine ab_iload (i := 5) dX3_finish_137 rfl ?_
          refine ab_isub dX3_finish_139 ?_
          refine ab_mmax (tb_5 (List.mem_of_getElem? (i := 127) (by decide +kernel)) rfl) st_mmax in_m co_mmax (Nat.le_of_ble_eq_true rfl) (Nat.le_of_ble_eq_true rfl) (Nat.le_of_ble_eq_true rfl) (Nat.le_of_ble_eq_true rfl) dX3_finish_140 ?_
          obtain ⟨hc21, ht⟩ := ht
          refine ab_iast (sh_k hs18 46 14 (by decide) rfl) hc21 dX3_finish_143 ?_
          refine Wp.nm fun h22 e23 => ?_
          have ht := ht h22 e23
          have hs24 : Sh h22 := by rw [e23]; exact sh_si hs18
          refine ab_aload_n (i := 0) dX3_finish_144 rfl rfl ?_
          refine ab_getR (b := 46) f_X3_22 rfl (sh_k hs24 43 3 (by decide) rfl) (sh_r hs24 52 rfl) dX3_finish_145 ?_
          refine ab_iload (i := 4) dX3_finish_148 rfl ?_
          obtain ⟨hc25, ht⟩ := ht
          refine ab_iald (sh_k hs24 46 14 (by decide) rfl) hc25 dX3_finish_150 ?_
          refine ab_if_ne (tgt := 169) dX3_finish_151 (by decide) (fun c26 => ?_) (fun c26 => ?_)
          · have ht := ht.1 c26
            refine ab_iinc (i := 4) (x := x4) (v := (x4 + 1)) (L' := [some (.ref 43), some (.int x1), some (.int x2), some (.int x3), some (.int (x4 + 1)), some (.int v19)]) dX3_finish_169 rfl rfl (by exact (Nat.le_of_ble_eq_true rfl)) rfl rfl ?_
            refine ab_goto (tgt := 40) dX3_finish_172 (by decide) ?_
            exact Wp.fewer (L' := [some (.ref 43), some (.int x1), some (.int x2), some (.int x3), some (.int (x4 + 1)), none]) (show ab_leL _ _ from ⟨rfl, ⟨rfl, ⟨rfl, ⟨rfl, ⟨rfl, trivial⟩⟩⟩⟩⟩) ht
          · have ht := ht.2 c26
            refine ab_aload_n (i := 0) dX3_finish_154 rfl rfl ?_
            refine ab_dup dX3_finish_155 rfl ?_
            refine ab_getI f_X3_28 rfl (sh_k hs24 43 3 (by decide) rfl) dX3_finish_156 ?_
            refine ab_iconst (v := 1) dX3_finish_159 (by decide) ?_
            refine ab_iload (i := 4) dX3_finish_160 rfl ?_
            refine ab_ishl dX3_finish_162 ?_
            refine ab_iconst (v := (-1)) dX3_finish_163 (by decide) ?_
            refine ab_ixor dX3_finish_164 ?_
            refine ab_iand dX3_finish_165 ?_
            refine ab_putI f_X3_28 (Or.inl rfl) rfl (sh_k hs24 43 3 (by decide) rfl) rfl rfl dX3_finish_166 ?_
            refine Wp.nm fun h27 e28 => ?_
            have ht := ht h27 e28
            have hs29 : Sh h27 := by rw [e28]; exact sh_si hs24
            refine ab_iinc (i := 4) (x := x4) (v := (x4 + 1)) (L' := [some (.ref 43), some (.int x1), some (.int x2), some (.int x3), some (.int (x4 + 1)), some (.int v19)]) dX3_finish_169 rfl rfl (by exact (Nat.le_of_ble_eq_true rfl)) rfl rfl ?_
            refine ab_goto (tgt := 40) dX3_finish_172 (by decide) ?_
            exact Wp.fewer (L' := [some (.ref 43), some (.int x1), some (.int x2), some (.int x3), some (.int (x4 + 1)), none]) (show ab_leL _ _ from ⟨rfl, ⟨rfl, ⟨rfl, ⟨rfl, ⟨rfl, trivial⟩⟩⟩⟩⟩) ht
        · have ht := ht.2 c16
          refine ab_aload_n (i := 0) dX3_finish_87 rfl rfl ?_
          refine ab_getR (b := 38) f_X3_72 rfl (sh_k hs 43 3 (by decide) rfl) (sh_r hs 58 rfl) dX3_finish_88 ?_
          refine ab_iconst (v := 2) dX3_finish_91 (by decide) ?_
          refine ab_iload (i := 4) dX3_finish_92 rfl ?_
          refine ab_aload_n (i := 0) dX3_finish_94 rfl rfl ?_
          refine ab_getR (b := 45) f_X3_19 rfl (sh_k hs 43 3 (by decide) rfl) (sh_r hs 51 rfl) dX3_finish_95 ?_
          refine ab_iload (i := 4) dX3_finish_98 rfl ?_
          obtain ⟨hc30, ht⟩ := ht
          refine ab_iald (sh_k hs 45 14 (by decide) rfl) hc30 dX3_finish_100 ?_
          refine ab_iconst (v := (-1)) dX3_finish_101 (by decide) ?_
          refine ab_iconst (v := (-1)) dX3_finish_102 (by decide) ?_
          refine ab_iconst (v := (-1)) dX3_finish_103 (by decide) ?_
          refine ab_iload_n (i := 1) dX3_finish_104 rfl rfl ?_
          refine ab_callV (b := 38) (As := [.int 2, .int x4, .int (ah_i h 45 (Int32.toNatClampNeg x4)), .int (-1), .int (-1), .int (-1), .int x1]) ht (Y_X8_ask) l_X3_165 in_X8_ask se_X8_ask (sh_k hs 38 8 (by decide) rfl) (by decide) rfl rfl ⟨(Nat.le_of_ble_eq_true rfl), (Nat.le_of_ble_eq_true rfl), (Nat.le_of_ble_eq_true rfl), (Nat.le_of_ble_eq_true rfl)⟩ dX3_finish_105 ?_
          rintro _ h31 ⟨v33, rfl, hs32, ht⟩
          refine ab_goto (tgt := 121) dX3_finish_108 (by decide) ?_
          refine ab_istore (i := 5) (L' := [some (.ref 43), some (.int x1), some (.int x2), some (.int x3), some (.int x4), some (.int v33)]) dX3_finish_121 (by exact (Nat.le_of_ble_eq_true rfl)) rfl rfl ?_
          refine ab_aload_n (i := 0) dX3_finish_123 rfl rfl ?_
          refine ab_getR (b := 46) f_X3_22 rfl (sh_k hs32 43 3 (by decide) rfl) (sh_r hs32 52 rfl) dX3_finish_124 ?_
          refine ab_iload (i := 4) dX3_finish_127 rfl ?_
          refine ab_iconst (v := 0) dX3_finish_129 (by decide) ?_
          refine ab_aload_n (i := 0) dX3_finish_130 rfl rfl ?_
          refine ab_getR (b := 46) f_X3_22 rfl (sh_k hs32 43 3 (by decide) rfl) (sh_r hs32 52 rfl) dX3_finish_131 ?_
          refine ab_iload (i := 4) dX3_finish_134 rfl ?_
          obtain ⟨hc34, ht⟩ := ht
          refine ab_iald (sh_k hs32 46 14 (by decide) rfl) hc34 dX3_finish_136 ?_
          refine ab_iload (i := 5) dX3_finish_137 rfl ?_
          refine ab_isub dX3_finish_139 ?_
          refine ab_mmax (tb_5 (List.mem_of_getElem? (i := 127) (by decide +kernel)) rfl) st_mmax in_m co_mmax (Nat.le_of_ble_eq_true rfl) (Nat.le_of_ble_eq_true rfl) (Nat.le_of_ble_eq_true rfl) (Nat.le_of_ble_eq_true rfl) dX3_finish_140 ?_
          obtain ⟨hc35, ht⟩ := ht
          refine ab_iast (sh_k hs32 46 14 (by decide) rfl) hc35 dX3_finish_143 ?_
          refine Wp.nm fun h36 e37 => ?_
          have ht := ht h36 e37
          have hs38 : Sh h36 := by rw [e37]; exact sh_si hs32
          refine ab_aload_n (i := 0) dX3_finish_144 rfl rfl ?_
          refine ab_getR (b := 46) f_X3_22 rfl (sh_k hs38 43 3 (by decide) rfl) (sh_r hs38 52 rfl) dX3_finish_145 ?_
          refine ab_iload (i := 4) dX3_finish_148 rfl ?_
          obtain ⟨hc39, ht⟩ := ht
          refine ab_iald (sh_k hs38 46 14 (by decide) rfl) hc39 dX3_finish_150 ?_
          refine ab_if_ne (tgt := 169) dX3_finish_151 (by decide) (fun c40 => ?_) (fun c40 => ?_)
          · have ht := ht.1 c40
            refine ab_iinc (i := 4) (x := x4) (v := (x4 + 1)) (L' := [some (.ref 43), some (.int x1), some (.int x2), some (.int x3), some (.int (x4 + 1)), some (.int v33)]) dX3_finish_169 rfl rfl (by exact (Nat.le_of_ble_eq_true rfl)) rfl rfl ?_
            refine ab_goto (tgt := 40) dX3_finish_172 (by decide) ?_
            exact Wp.fewer (L' := [some (.ref 43), some (.int x1), some (.int x2), some (.int x3), some (.int (x4 + 1)), none]) (show ab_leL _ _ from ⟨rfl, ⟨rfl, ⟨rfl, ⟨rfl, ⟨rfl, trivial⟩⟩⟩⟩⟩) ht
          · have ht := ht.2 c40
            refine ab_aload_n (i := 0) dX3_finish_154 rfl rfl ?_
            refine ab_dup dX3_finish_155 rfl ?_
            refine ab_getI f_X3_28 rfl (sh_k hs38 43 3 (by decide) rfl) dX3_finish_156 ?_
            refine ab_iconst (v := 1) dX3_finish_159 (by decide) ?_
            refine ab_iload (i := 4) dX3_finish_160 rfl ?_
            refine ab_ishl dX3_finish_162 ?_
            refine ab_iconst (v := (-1)) dX3_finish_163 (by decide) ?_
            refine ab_ixor dX3_finish_164 ?_
            refine ab_iand dX3_finish_165 ?_
            refine ab_putI f_X3_28 (Or.inl rfl) rfl (sh_k hs38 43 3 (by decide) rfl) rfl rfl dX3_finish_166 ?_
            refine Wp.nm fun h41 e42 => ?_
            have ht := ht h41 e42
            have hs43 : Sh h41 := by rw [e42]; exact sh_si hs38
            refine ab_iinc (i := 4) (x := x4) (v := (x4 + 1)) (L' := [some (.ref 43), some (.int x1), some (.int x2), some (.int x3), some (.int (x4 + 1)), some (.int v33)]) dX3_finish_169 rfl rfl (by exact (Nat.le_of_ble_eq_true rfl)) rfl rfl ?_
            refine ab_goto (tgt := 40) dX3_finish_172 (by decide) ?_
            exact Wp.fewer (L' := [some (.ref 43), some (.int x1), some (.int x2), some (.int x3), some (.int (x4 + 1)), none]) (show ab_leL _ _ from ⟨rfl, ⟨rfl, ⟨rfl, ⟨rfl, ⟨rfl, trivial⟩⟩⟩⟩⟩) ht
      · have ht := ht.2 c15
        refine ab_goto (tgt := 169) dX3_finish_75 (by decide) ?_
        refine ab_iinc (i := 4) (x := x4) (v := (x4 + 1)) (L' := [some (.ref 43), some (.int x1), some (.int x2), some (.int x3), some (.int (x4 + 1)), none]) dX3_finish_169 rfl rfl (by exact (Nat.le_of_ble_eq_true rfl)) rfl rfl ?_
        refine ab_goto (tgt := 40) dX3_finish_172 (by decide) ?_
        exact Wp.fewer (L' := [some (.ref 43), some (.int x1), some (.int x2), some (.int x3), some (.int (x4 + 1)), none]) (show ab_leL _ _ from ⟨rfl, ⟨rfl, ⟨rfl, ⟨rfl, ⟨rfl, trivial⟩⟩⟩⟩⟩) ht
    · have ht := ht.2 c14
      refine ab_aload_n (i := 0) dX3_finish_58 rfl rfl ?_
      refine ab_getR (b := 47) f_X3_25 rfl (sh_k hs 43 3 (by decide) rfl) (sh_r hs 53 rfl) dX3_finish_59 ?_
      refine ab_iload (i := 4) dX3_finish_62 rfl ?_
      refine ab_iload_n (i := 1) dX3_finish_64 rfl rfl ?_
      obtain ⟨hc44, ht⟩ := ht
      refine ab_iast (sh_k hs 47 14 (by decide) rfl) hc44 dX3_finish_65 ?_
      refine Wp.nm fun h45 e46 => ?_
      have ht := ht h45 e46
      have hs47 : Sh h45 := by rw [e46]; exact sh_si hs
      refine ab_iload_n (i := 3) dX3_finish_66 rfl rfl ?_
      refine ab_iload (i := 4) dX3_finish_67 rfl ?_
      refine ab_ishr dX3_finish_69 ?_
      refine ab_iconst (v := 1) dX3_finish_70 (by decide) ?_
      refine ab_iand dX3_finish_71 ?_
      refine ab_if_ne (tgt := 78) dX3_finish_72 (by decide) (fun c48 => ?_) (fun c48 => ?_)
      · have ht := ht.1 c48
        refine ab_iload (i := 4) dX3_finish_78 rfl ?_
        refine ab_aload_n (i := 0) dX3_finish_80 rfl rfl ?_
        refine ab_getI f_X3_49 rfl (sh_k hs47 43 3 (by decide) rfl) dX3_finish_81 ?_
        refine ab_icmp_ne (tgt := 111) dX3_finish_84 (by decide) (fun c49 => ?_) (fun c49 => ?_)
        · have ht := ht.1 c49
          refine ab_aload_n (i := 0) dX3_finish_111 rfl rfl ?_
          refine ab_getR (b := 38) f_X3_72 rfl (sh_k hs47 43 3 (by decide) rfl) (sh_r hs47 58 rfl) dX3_finish_112 ?_
          refine ab_iload (i := 4) dX3_finish_115 rfl ?_
          refine ab_iload_n (i := 1) dX3_finish_117 rfl rfl ?_
          refine ab_callV (b := 38) (As := [.int x4, .int x1]) ht (Y_X8_thirst) l_X3_178 in_X8_thirst se_X8_thirst (sh_k hs47 38 8 (by decide) rfl) (by decide) rfl rfl ⟨(Nat.le_of_ble_eq_true rfl), (Nat.le_of_ble_eq_true rfl), (Nat.le_of_ble_eq_true rfl), (Nat.le_of_ble_eq_true rfl)⟩ dX3_finish_118 ?_
          rintro _ h50 ⟨v52, rfl, hs51, ht⟩
          refine ab_istore (i := 5) (L' := [some (.ref 43), some (.int x1), some (.int x2), some (.int x3), some (.int x4), some (.int v52)]) dX3_finish_121 (by exact (Nat.le_of_ble_eq_true rfl)) rfl rfl ?_
          refine ab_aload_n (i := 0) dX3_finish_123 rfl rfl ?_
          refine ab_getR (b := 46) f_X3_22 rfl (sh_k hs51 43 3 (by decide) rfl) (sh_r hs51 52 rfl) dX3_finish_124 ?_
          refine ab_iload (i := 4) dX3_finish_127 rfl ?_
          refine ab_iconst (v := 0) dX3_finish_129 (by decide) ?_
          refine ab_aload_n (i := 0) dX3_finish_130 rfl rfl ?_
          refine ab_getR (b := 46) f_X3_22 rfl (sh_k hs51 43 3 (by decide) rfl) (sh_r hs51 52 rfl) dX3_finish_131 ?_
          refine ab_iload (i := 4) dX3_finish_134 rfl ?_
          obtain ⟨hc53, ht⟩ := ht
          refine ab_iald (sh_k hs51 46 14 (by decide) rfl) hc53 dX3_finish_136 ?_
          refine ab_iload (i := 5) dX3_finish_137 rfl ?_
          refine ab_isub dX3_finish_139 ?_
          refine ab_mmax (tb_5 (List.mem_of_getElem? (i := 127) (by decide +kernel)) rfl) st_mmax in_m co_mmax (Nat.le_of_ble_eq_true rfl) (Nat.le_of_ble_eq_true rfl) (Nat.le_of_ble_eq_true rfl) (Nat.le_of_ble_eq_true rfl) dX3_finish_140 ?_
          obtain ⟨hc54, ht⟩ := ht
          refine ab_iast (sh_k hs51 46 14 (by decide) rfl) hc54 dX3_finish_143 ?_
          refine Wp.nm fun h55 e56 => ?_
          have ht := ht h55 e56
          have hs57 : Sh h55 := by rw [e56]; exact sh_si hs51
          refine ab_aload_n (i := 0) dX3_finish_144 rfl rfl ?_
          refine ab_getR (b := 46) f_X3_22 rfl (sh_k hs57 43 3 (by decide) rfl) (sh_r hs57 52 rfl) dX3_finish_145 ?_
          refine ab_iload (i := 4) dX3_finish_148 rfl ?_
          obtain ⟨hc58, ht⟩ := ht
          refine ab_iald (sh_k hs57 46 14 (by decide) rfl) hc58 dX3_finish_150 ?_
          refine ab_if_ne (tgt := 169) dX3_finish_151 (by decide) (fun c59 => ?_) (fun c59 => ?_)
          · have ht := ht.1 c59
            refine ab_iinc (i := 4) (x := x4) (v := (x4 + 1)) (L' := [some (.ref 43), some (.int x1), some (.int x2), some (.int x3), some (.int (x4 + 1)), some (.int v52)]) dX3_finish_169 rfl rfl (by exact (Nat.le_of_ble_eq_true rfl)) rfl rfl ?_
            refine ab_goto (tgt := 40) dX3_finish_172 (by decide) ?_
            exact Wp.fewer (L' := [some (.ref 43), some (.int x1), some (.int x2), some (.int x3), some (.int (x4 + 1)), none]) (show ab_leL _ _ from ⟨rfl, ⟨rfl, ⟨rfl, ⟨rfl, ⟨rfl, trivial⟩⟩⟩⟩⟩) ht
          · have ht := ht.2 c59
            refine ab_aload_n (i := 0) dX3_finish_154 rfl rfl ?_
            refine ab_dup dX3_finish_155 rfl ?_
            refine ab_getI f_X3_28 rfl (sh_k hs57 43 3 (by decide) rfl) dX3_finish_156 ?_
            refine ab_iconst (v := 1) dX3_finish_159 (by decide) ?_
            refine ab_iload (i := 4) dX3_finish_160 rfl ?_
            refine ab_ishl dX3_finish_162 ?_
            refine ab_iconst (v := (-1)) dX3_finish_163 (by decide) ?_
            refine ab_ixor dX3_finish_164 ?_
            refine ab_iand dX3_finish_165 ?_
            refine ab_putI f_X3_28 (Or.inl rfl) rfl (sh_k hs57 43 3 (by decide) rfl) rfl rfl dX3_finish_166 ?_
            refine Wp.nm fun h60 e61 => ?_
            have ht := ht h60 e61
            have hs62 : Sh h60 := by rw [e61]; exact sh_si hs57
            refine ab_iinc (i := 4) (x := x4) (v := (x4 + 1)) (L' := [some (.ref 43), some (.int x1), some (.int x2), some (.int x3), some (.int (x4 + 1)), some (.int v52)]) dX3_finish_169 rfl rfl (by exact (Nat.le_of_ble_eq_true rfl)) rfl rfl ?_
            refine ab_goto (tgt := 40) dX3_finish_172 (by decide) ?_
            exact Wp.fewer (L' := [some (.ref 43), some (.int x1), some (.int x2), some (.int x3), some (.int (x4 + 1)), none]) (show ab_leL _ _ from ⟨rfl, ⟨rfl, ⟨rfl, ⟨rfl, ⟨rfl, trivial⟩⟩⟩⟩⟩) ht
        · have ht := ht.2 c49
          refine ab_aload_n (i := 0) dX3_finish_87 rfl rfl ?_
          refine ab_getR (b := 38) f_X3_72 rfl (sh_k hs47 43 3 (by decide) rfl) (sh_r hs47 58 rfl) dX3_finish_88 ?_
          refine ab_iconst (v := 2) dX3_finish_91 (by decide) ?_
          refine ab_iload (i := 4) dX3_finish_92 rfl ?_
          refine ab_aload_n (i := 0) dX3_finish_94 rfl rfl ?_
          refine ab_getR (b := 45) f_X3_19 rfl (sh_k hs47 43 3 (by decide) rfl) (sh_r hs47 51 rfl) dX3_finish_95 ?_
          refine ab_iload (i := 4) dX3_finish_98 rfl ?_
          obtain ⟨hc63, ht⟩ := ht
          refine ab_iald (sh_k hs47 45 14 (by decide) rfl) hc63 dX3_finish_100 ?_
          refine ab_iconst (v := (-1)) dX3_finish_101 (by decide) ?_
          refine ab_iconst (v := (-1)) dX3_finish_102 (by decide) ?_
          refine ab_iconst (v := (-1)) dX3_finish_103 (by decide) ?_
          refine ab_iload_n (i := 1) dX3_finish_104 rfl rfl ?_
          refine ab_callV (b := 38) (As := [.int 2, .int x4, .int (ah_i h45 45 (Int32.toNatClampNeg x4)), .int (-1), .int (-1), .int (-1), .int x1]) ht (Y_X8_ask) l_X3_165 in_X8_ask se_X8_ask (sh_k hs47 38 8 (by decide) rfl) (by decide) rfl rfl ⟨(Nat.le_of_ble_eq_true rfl), (Nat.le_of_ble_eq_true rfl), (Nat.le_of_ble_eq_true rfl), (Nat.le_of_ble_eq_true rfl)⟩ dX3_finish_105 ?_
          rintro _ h64 ⟨v66, rfl, hs65, ht⟩
          refine ab_goto (tgt := 121) dX3_finish_108 (by decide) ?_
          refine ab_istore (i := 5) (L' := [some (.ref 43), some (.int x1), some (.int x2), some (.int x3), some (.int x4), some (.int v66)]) dX3_finish_121 (by exact (Nat.le_of_ble_eq_true rfl)) rfl rfl ?_
          refine ab_aload_n (i := 0) dX3_finish_123 rfl rfl ?_
          refine ab_getR (b := 46) f_X3_22 rfl (sh_k hs65 43 3 (by decide) rfl) (sh_r hs65 52 rfl) dX3_finish_124 ?_
          refine ab_iload (i := 4) dX3_finish_127 rfl ?_
          refine ab_iconst (v := 0) dX3_finish_129 (by decide) ?_
          refine ab_aload_n (i := 0) dX3_finish_130 rfl rfl ?_
          refine ab_getR (b := 46) f_X3_22 rfl (sh_k hs65 43 3 (by decide) rfl) (sh_r hs65 52 rfl) dX3_finish_131 ?_
          refine ab_iload (i := 4) dX3_finish_134 rfl ?_
          obtain ⟨hc67, ht⟩ := ht
          refine ab_iald (sh_k hs65 46 14 (by decide) rfl) hc67 dX3_finish_136 ?_
          refine ab_iload (i := 5) dX3_finish_137 rfl ?_
          refine ab_isub dX3_finish_139 ?_
          refine ab_mmax (tb_5 (List.mem_of_getElem? (i := 127) (by decide +kernel)) rfl) st_mmax in_m co_mmax (Nat.le_of_ble_eq_true rfl) (Nat.le_of_ble_eq_true rfl) (Nat.le_of_ble_eq_true rfl) (Nat.le_of_ble_eq_true rfl) dX3_finish_140 ?_
          obtain ⟨hc68, ht⟩ := ht
          refine ab_iast (sh_k hs65 46 14 (by decide) rfl) hc68 dX3_finish_143 ?_
          refine Wp.nm fun h69 e70 => ?_
          have ht := ht h69 e70
          have hs71 : Sh h69 := by rw [e70]; exact sh_si hs65
          refine ab_aload_n (i := 0) dX3_finish_144 rfl rfl ?_
          refine ab_getR (b := 46) f_X3_22 rfl (sh_k hs71 43 3 (by decide) rfl) (sh_r hs71 52 rfl) dX3_finish_145 ?_
          refine ab_iload (i := 4) dX3_finish_148 rfl ?_
          obtain ⟨hc72, ht⟩ := ht
          refine ab_iald (sh_k hs71 46 14 (by decide) rfl) hc72 dX3_finish_150 ?_
          refine ab_if_ne (tgt := 169) dX3_finish_151 (by decide) (fun c73 => ?_) (fun c73 => ?_)
          · have ht := ht.1 c73
            refine ab_iinc (i := 4) (x := x4) (v := (x4 + 1)) (L' := [some (.ref 43), some (.int x1), some (.int x2), some (.int x3), some (.int (x4 + 1)), some (.int v66)]) dX3_finish_169 rfl rfl (by exact (Nat.le_of_ble_eq_true rfl)) rfl rfl ?_
            refine ab_goto (tgt := 40) dX3_finish_172 (by decide) ?_
            exact Wp.fewer (L' := [some (.ref 43), some (.int x1), some (.int x2), some (.int x3), some (.int (x4 + 1)), none]) (show ab_leL _ _ from ⟨rfl, ⟨rfl, ⟨rfl, ⟨rfl, ⟨rfl, trivial⟩⟩⟩⟩⟩) ht
          · have ht := ht.2 c73
            refine ab_aload_n (i := 0) dX3_finish_154 rfl rfl ?_
            refine ab_dup dX3_finish_155 rfl ?_
            refine ab_getI f_X3_28 rfl (sh_k hs71 43 3 (by decide) rfl) dX3_finish_156 ?_
            refine ab_iconst (v := 1) dX3_finish_159 (by decide) ?_
            refine ab_iload (i := 4) dX3_finish_160 rfl ?_
            refine ab_ishl dX3_finish_162 ?_
            refine ab_iconst (v := (-1)) dX3_finish_163 (by decide) ?_
            refine ab_ixor dX3_finish_164 ?_
            refine ab_iand dX3_finish_165 ?_
            refine ab_putI f_X3_28 (Or.inl rfl) rfl (sh_k hs71 43 3 (by decide) rfl) rfl rfl dX3_finish_166 ?_
            refine Wp.nm fun h74 e75 => ?_
            have ht := ht h74 e75
            have hs76 : Sh h74 := by rw [e75]; exact sh_si hs71
            refine ab_iinc (i := 4) (x := x4) (v := (x4 + 1)) (L' := [some (.ref 43), some (.int x1), some (.int x2), some (.int x3), some (.int (x4 + 1)), some (.int v66)]) dX3_finish_169 rfl rfl (by exact (Nat.le_of_ble_eq_true rfl)) rfl rfl ?_
            refine ab_goto (tgt := 40) dX3_finish_172 (by decide) ?_
            exact Wp.fewer (L' := [some (.ref 43), some (.int x1), some (.int x2), some (.int x3), some (.int (x4 + 1)), none]) (show ab_leL _ _ from ⟨rfl, ⟨rfl, ⟨rfl, ⟨rfl, ⟨rfl, trivial⟩⟩⟩⟩⟩) ht
      · have ht := ht.2 c48
        refine ab_goto (tgt := 169) dX3_finish_75 (by decide) ?_
        refine ab_iinc (i := 4) (x := x4) (v := (x4 + 1)) (L' := [some (.ref 43), some (.int x1), some (.int x2), some (.int x3), some (.int (x4 + 1)), none]) dX3_finish_169 rfl rfl (by exact (Nat.le_of_ble_eq_true rfl)) rfl rfl ?_
        refine ab_goto (tgt := 40) dX3_finish_172 (by decide) ?_
        exact Wp.fewer (L' := [some (.ref 43), some (.int x1), some (.int x2), some (.int x3), some (.int (x4 + 1)), none]) (show ab_leL _ _ from ⟨rfl, ⟨rfl, ⟨rfl, ⟨rfl, ⟨rfl, trivial⟩⟩⟩⟩⟩) ht
set_option maxRecDepth 20000 in
theorem T_X3_finish {Q : Option Value → ah_T → Prop} {h : ah_T} (hs : Sh h) (x1 : Int32) (x2 : Int32) (ht : (∀ h1, h1 = ah_si h 43 7 x2 → (∀ h4, h4 = ah_si h1 43 14 ((ah_i h1 43 14) ||| x2) → (∀ h7, h7 = ah_si h4 43 5 ((ah_i h4 43 5) &&& (x2 ^^^ (-1))) → (∀ h10, h10 = ah_si h7 43 6 0 → Wp mX3_finish Q 0 0 40 [some (.ref 43), some (.int x1), some (.int x2), some (.int (ah_i h10 43 5)), some (.int 0), none] [] h10))))) : Mt mX3_finish [.ref 43, .int x1, .int x2] h Q := by
  refine Mt.ofWp rfl (by exact (Nat.le_of_ble_eq_true rfl)) (Wp.fewer (L' := [some (.ref 43), some (.int x1), some (.int x2), none, none, none]) (show ab_leL _ _ from ⟨rfl, ⟨rfl, ⟨rfl, trivial⟩⟩⟩) ?_)
  refine ab_aload_n (i := 0) dX3_finish_0 rfl rfl ?_
  refine ab_iload_n (i := 2) dX3_finish_1 rfl rfl ?_
  refine ab_putI f_X3_34 (Or.inl rfl) rfl (sh_k hs 43 3 (by decide) rfl) rfl rfl dX3_finish_2 ?_
  refine Wp.nm fun h1 e2 => ?_
  have ht := ht h1 e2
  have hs3 : Sh h1 := by rw [e2]; exact sh_si hs
  refine ab_aload_n (i := 0) dX3_finish_5 rfl rfl ?_
  refine ab_dup dX3_finish_6 rfl ?_
  refine ab_getI f_X3_46 rfl (sh_k hs3 43 3 (by decide) rfl) dX3_finish_7 ?_
  refine ab_iload_n (i := 2) dX3_finish_10 rfl rfl ?_
  refine ab_ior dX3_finish_11 ?_
  refine ab_putI f_X3_46 (Or.inl rfl) rfl (sh_k hs3 43 3 (by decide) rfl) rfl rfl dX3_finish_12 ?_
  refine Wp.nm fun h4 e5 => ?_
  have ht := ht h4 e5
  have hs6 : Sh h4 := by rw [e5]; exact sh_si hs3
  refine ab_aload_n (i := 0) dX3_finish_15 rfl rfl ?_
  refine ab_dup dX3_finish_16 rfl ?_
  refine ab_getI f_X3_28 rfl (sh_k hs6 43 3 (by decide) rfl) dX3_finish_17 ?_
  refine ab_iload_n (i := 2) dX3_finish_20 rfl rfl ?_
  refine ab_iconst (v := (-1)) dX3_finish_21 (by decide) ?_
  refine ab_ixor dX3_finish_22 ?_
  refine ab_iand dX3_finish_23 ?_
  refine ab_putI f_X3_28 (Or.inl rfl) rfl (sh_k hs6 43 3 (by decide) rfl) rfl rfl dX3_finish_24 ?_
  refine Wp.nm fun h7 e8 => ?_
  have ht := ht h7 e8
  have hs9 : Sh h7 := by rw [e8]; exact sh_si hs6
  refine ab_aload_n (i := 0) dX3_finish_27 rfl rfl ?_
  refine ab_iconst (v := 0) dX3_finish_28 (by decide) ?_
  refine ab_putI f_X3_31 (Or.inl rfl) rfl (sh_k hs9 43 3 (by decide) rfl) rfl rfl dX3_finish_29 ?_
  refine Wp.nm fun h10 e11 => ?_
  have ht := ht h10 e11
  have hs12 : Sh h10 := by rw [e11]; exact sh_si hs9
  refine ab_aload_n (i := 0) dX3_finish_32 rfl rfl ?_
  refine ab_getI f_X3_28 rfl (sh_k hs12 43 3 (by decide) rfl) dX3_finish_33 ?_
  refine ab_istore_n (i := 3) (L' := [some (.ref 43), some (.int x1), some (.int x2), some (.int (ah_i h10 43 5)), none, none]) dX3_finish_36 rfl (by exact (Nat.le_of_ble_eq_true rfl)) rfl rfl ?_
  refine ab_iconst (v := 0) dX3_finish_37 (by decide) ?_
  refine ab_istore (i := 4) (L' := [some (.ref 43), some (.int x1), some (.int x2), some (.int (ah_i h10 43 5)), some (.int 0), none]) dX3_finish_38 (by exact (Nat.le_of_ble_eq_true rfl)) rfl rfl ?_
  exact Wp.fewer (L' := [some (.ref 43), some (.int x1), some (.int x2), some (.int (ah_i h10 43 5)), some (.int 0), none]) (show ab_leL _ _ from ⟨rfl, ⟨rfl, ⟨rfl, ⟨rfl, ⟨rfl, trivial⟩⟩⟩⟩⟩) ht
