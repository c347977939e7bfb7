/-! ===== blocks of methods (printed by wip/whole/mkall.py) ===== -/
theorem dX12_tells_0 : decode cX12_tells 0 = .ok (.aload_n 0, 1) := by decide +kernel
theorem dX12_tells_1 : decode cX12_tells 1 = .ok (.getfield 20, 3) := by decide +kernel
theorem dX12_tells_4 : decode cX12_tells 4 = .ok (.sipush 252, 3) := by decide +kernel
theorem dX12_tells_7 : decode cX12_tells 7 = .ok (.iaload, 1) := by decide +kernel
theorem dX12_tells_8 : decode cX12_tells 8 = .ok (.iconst (-1), 1) := by decide +kernel
theorem dX12_tells_9 : decode cX12_tells 9 = .ok (.if_icmp .ne 5, 3) := by decide +kernel
theorem dX12_tells_12 : decode cX12_tells 12 = .ok (.iload_n 2, 1) := by decide +kernel
theorem dX12_tells_13 : decode cX12_tells 13 = .ok (.ireturn, 1) := by decide +kernel
theorem dX12_tells_14 : decode cX12_tells 14 = .ok (.aload_n 0, 1) := by decide +kernel
theorem dX12_tells_15 : decode cX12_tells 15 = .ok (.iconst 0, 1) := by decide +kernel
theorem dX12_tells_16 : decode cX12_tells 16 = .ok (.putfield 339, 3) := by decide +kernel
theorem dX12_tells_19 : decode cX12_tells 19 = .ok (.iload_n 2, 1) := by decide +kernel
theorem dX12_tells_20 : decode cX12_tells 20 = .ok (.i2l, 1) := by decide +kernel
theorem dX12_tells_21 : decode cX12_tells 21 = .ok (.lstore_n 3, 1) := by decide +kernel
theorem dX12_tells_22 : decode cX12_tells 22 = .ok (.aload_n 0, 1) := by decide +kernel
theorem dX12_tells_23 : decode cX12_tells 23 = .ok (.sipush 400, 3) := by decide +kernel
theorem dX12_tells_26 : decode cX12_tells 26 = .ok (.aload_n 0, 1) := by decide +kernel
theorem dX12_tells_27 : decode cX12_tells 27 = .ok (.getfield 20, 3) := by decide +kernel
theorem dX12_tells_30 : decode cX12_tells 30 = .ok (.sipush 252, 3) := by decide +kernel
theorem dX12_tells_33 : decode cX12_tells 33 = .ok (.iaload, 1) := by decide +kernel
theorem dX12_tells_34 : decode cX12_tells 34 = .ok (.imul, 1) := by decide +kernel
theorem dX12_tells_35 : decode cX12_tells 35 = .ok (.putfield 309, 3) := by decide +kernel
theorem dX12_tells_38 : decode cX12_tells 38 = .ok (.aload_n 0, 1) := by decide +kernel
theorem dX12_tells_39 : decode cX12_tells 39 = .ok (.aload_n 0, 1) := by decide +kernel
theorem dX12_tells_40 : decode cX12_tells 40 = .ok (.getfield 309, 3) := by decide +kernel
theorem dX12_tells_43 : decode cX12_tells 43 = .ok (.aload_n 0, 1) := by decide +kernel
theorem dX12_tells_44 : decode cX12_tells 44 = .ok (.getfield 20, 3) := by decide +kernel
theorem dX12_tells_47 : decode cX12_tells 47 = .ok (.sipush 253, 3) := by decide +kernel
theorem dX12_tells_50 : decode cX12_tells 50 = .ok (.aload_n 0, 1) := by decide +kernel
theorem dX12_tells_51 : decode cX12_tells 51 = .ok (.getfield 20, 3) := by decide +kernel
theorem dX12_tells_54 : decode cX12_tells 54 = .ok (.sipush 252, 3) := by decide +kernel
theorem dX12_tells_57 : decode cX12_tells 57 = .ok (.iaload, 1) := by decide +kernel
theorem dX12_tells_58 : decode cX12_tells 58 = .ok (.iadd, 1) := by decide +kernel
theorem dX12_tells_59 : decode cX12_tells 59 = .ok (.iaload, 1) := by decide +kernel
theorem dX12_tells_60 : decode cX12_tells 60 = .ok (.iadd, 1) := by decide +kernel
theorem dX12_tells_61 : decode cX12_tells 61 = .ok (.putfield 306, 3) := by decide +kernel
theorem dX12_tells_64 : decode cX12_tells 64 = .ok (.aload_n 0, 1) := by decide +kernel
theorem dX12_tells_65 : decode cX12_tells 65 = .ok (.getfield 309, 3) := by decide +kernel
theorem dX12_tells_68 : decode cX12_tells 68 = .ok (.aload_n 0, 1) := by decide +kernel
theorem dX12_tells_69 : decode cX12_tells 69 = .ok (.getfield 306, 3) := by decide +kernel
theorem dX12_tells_72 : decode cX12_tells 72 = .ok (.if_icmp .ge 144, 3) := by decide +kernel
theorem dX12_tells_75 : decode cX12_tells 75 = .ok (.aload_n 0, 1) := by decide +kernel
theorem dX12_tells_76 : decode cX12_tells 76 = .ok (.aload_n 0, 1) := by decide +kernel
theorem dX12_tells_77 : decode cX12_tells 77 = .ok (.getfield 309, 3) := by decide +kernel
theorem dX12_tells_80 : decode cX12_tells 80 = .ok (.invokevirtual 312, 3) := by decide +kernel
theorem dX12_tells_83 : decode cX12_tells 83 = .ok (.istore 5, 2) := by decide +kernel
theorem dX12_tells_85 : decode cX12_tells 85 = .ok (.aload_n 0, 1) := by decide +kernel
theorem dX12_tells_86 : decode cX12_tells 86 = .ok (.iconst 0, 1) := by decide +kernel
theorem dX12_tells_87 : decode cX12_tells 87 = .ok (.putfield 319, 3) := by decide +kernel
theorem dX12_tells_90 : decode cX12_tells 90 = .ok (.aload_n 0, 1) := by decide +kernel
theorem dX12_tells_91 : decode cX12_tells 91 = .ok (.dup, 1) := by decide +kernel
theorem dX12_tells_92 : decode cX12_tells 92 = .ok (.getfield 309, 3) := by decide +kernel
theorem dX12_tells_95 : decode cX12_tells 95 = .ok (.iconst 1, 1) := by decide +kernel
theorem dX12_tells_96 : decode cX12_tells 96 = .ok (.iadd, 1) := by decide +kernel
theorem dX12_tells_97 : decode cX12_tells 97 = .ok (.putfield 309, 3) := by decide +kernel
theorem dX12_tells_100 : decode cX12_tells 100 = .ok (.iload 5, 2) := by decide +kernel
theorem dX12_tells_102 : decode cX12_tells 102 = .ok (.iconst 1, 1) := by decide +kernel
theorem dX12_tells_103 : decode cX12_tells 103 = .ok (.if_icmp .ne 7, 3) := by decide +kernel
theorem dX12_tells_106 : decode cX12_tells 106 = .ok (.lconst 1, 1) := by decide +kernel
theorem dX12_tells_107 : decode cX12_tells 107 = .ok (.goto 8, 3) := by decide +kernel
theorem dX12_tells_110 : decode cX12_tells 110 = .ok (.aload_n 0, 1) := by decide +kernel
theorem dX12_tells_111 : decode cX12_tells 111 = .ok (.iconst 1, 1) := by decide +kernel
theorem dX12_tells_112 : decode cX12_tells 112 = .ok (.invokevirtual 336, 3) := by decide +kernel
theorem dX12_tells_115 : decode cX12_tells 115 = .ok (.lstore 6, 2) := by decide +kernel
theorem dX12_tells_117 : decode cX12_tells 117 = .ok (.aload_n 0, 1) := by decide +kernel
theorem dX12_tells_118 : decode cX12_tells 118 = .ok (.getfield 319, 3) := by decide +kernel
theorem dX12_tells_121 : decode cX12_tells 121 = .ok (.istore 8, 2) := by decide +kernel
theorem dX12_tells_123 : decode cX12_tells 123 = .ok (.aload_n 0, 1) := by decide +kernel
theorem dX12_tells_124 : decode cX12_tells 124 = .ok (.iconst 0, 1) := by decide +kernel
theorem dX12_tells_125 : decode cX12_tells 125 = .ok (.putfield 319, 3) := by decide +kernel
theorem dX12_tells_128 : decode cX12_tells 128 = .ok (.aload_n 0, 1) := by decide +kernel
theorem dX12_tells_129 : decode cX12_tells 129 = .ok (.iconst 4, 1) := by decide +kernel
theorem dX12_tells_130 : decode cX12_tells 130 = .ok (.invokevirtual 333, 3) := by decide +kernel
theorem dX12_tells_133 : decode cX12_tells 133 = .ok (.ifCond .eq 11, 3) := by decide +kernel
theorem dX12_tells_136 : decode cX12_tells 136 = .ok (.aload_n 0, 1) := by decide +kernel
theorem dX12_tells_137 : decode cX12_tells 137 = .ok (.iconst 1, 1) := by decide +kernel
theorem dX12_tells_138 : decode cX12_tells 138 = .ok (.invokevirtual 352, 3) := by decide +kernel
theorem dX12_tells_141 : decode cX12_tells 141 = .ok (.ifCond .eq 7, 3) := by decide +kernel
theorem dX12_tells_144 : decode cX12_tells 144 = .ok (.iconst 1, 1) := by decide +kernel
theorem dX12_tells_145 : decode cX12_tells 145 = .ok (.goto 4, 3) := by decide +kernel
theorem dX12_tells_148 : decode cX12_tells 148 = .ok (.iconst 0, 1) := by decide +kernel
theorem dX12_tells_149 : decode cX12_tells 149 = .ok (.istore 9, 2) := by decide +kernel
theorem dX12_tells_151 : decode cX12_tells 151 = .ok (.iload 5, 2) := by decide +kernel
theorem dX12_tells_153 : decode cX12_tells 153 = .ok (.iload_n 1, 1) := by decide +kernel
theorem dX12_tells_154 : decode cX12_tells 154 = .ok (.if_icmp .ne 49, 3) := by decide +kernel
theorem dX12_tells_157 : decode cX12_tells 157 = .ok (.iload 9, 2) := by decide +kernel
theorem dX12_tells_159 : decode cX12_tells 159 = .ok (.ifCond .eq 44, 3) := by decide +kernel
theorem dX12_tells_162 : decode cX12_tells 162 = .ok (.aload_n 0, 1) := by decide +kernel
theorem dX12_tells_163 : decode cX12_tells 163 = .ok (.getfield 319, 3) := by decide +kernel
theorem dX12_tells_166 : decode cX12_tells 166 = .ok (.ifCond .ne 37, 3) := by decide +kernel
theorem dX12_tells_169 : decode cX12_tells 169 = .ok (.iload 8, 2) := by decide +kernel
theorem dX12_tells_171 : decode cX12_tells 171 = .ok (.ifCond .ne 32, 3) := by decide +kernel
theorem dX12_tells_174 : decode cX12_tells 174 = .ok (.lload 6, 2) := by decide +kernel
theorem dX12_tells_176 : decode cX12_tells 176 = .ok (.lconst 0, 1) := by decide +kernel
theorem dX12_tells_177 : decode cX12_tells 177 = .ok (.lcmp, 1) := by decide +kernel
theorem dX12_tells_178 : decode cX12_tells 178 = .ok (.ifCond .ge 7, 3) := by decide +kernel
theorem dX12_tells_181 : decode cX12_tells 181 = .ok (.lconst 0, 1) := by decide +kernel
theorem dX12_tells_182 : decode cX12_tells 182 = .ok (.goto 20, 3) := by decide +kernel
theorem dX12_tells_185 : decode cX12_tells 185 = .ok (.lload 6, 2) := by decide +kernel
theorem dX12_tells_187 : decode cX12_tells 187 = .ok (.ldc2_w 355, 3) := by decide +kernel
theorem dX12_tells_190 : decode cX12_tells 190 = .ok (.lcmp, 1) := by decide +kernel
theorem dX12_tells_191 : decode cX12_tells 191 = .ok (.ifCond .le 9, 3) := by decide +kernel
theorem dX12_tells_194 : decode cX12_tells 194 = .ok (.ldc2_w 355, 3) := by decide +kernel
theorem dX12_tells_197 : decode cX12_tells 197 = .ok (.goto 5, 3) := by decide +kernel
theorem dX12_tells_200 : decode cX12_tells 200 = .ok (.lload 6, 2) := by decide +kernel
theorem dX12_tells_202 : decode cX12_tells 202 = .ok (.lstore_n 3, 1) := by decide +kernel
theorem dX12_tells_203 : decode cX12_tells 203 = .ok (.aload_n 0, 1) := by decide +kernel
theorem dX12_tells_204 : decode cX12_tells 204 = .ok (.dup, 1) := by decide +kernel
theorem dX12_tells_205 : decode cX12_tells 205 = .ok (.getfield 309, 3) := by decide +kernel
theorem dX12_tells_208 : decode cX12_tells 208 = .ok (.iconst 1, 1) := by decide +kernel
theorem dX12_tells_209 : decode cX12_tells 209 = .ok (.iadd, 1) := by decide +kernel
theorem dX12_tells_210 : decode cX12_tells 210 = .ok (.putfield 309, 3) := by decide +kernel
theorem dX12_tells_213 : decode cX12_tells 213 = .ok (.goto (-149), 3) := by decide +kernel
theorem dX12_tells_216 : decode cX12_tells 216 = .ok (.lload_n 3, 1) := by decide +kernel
theorem dX12_tells_217 : decode cX12_tells 217 = .ok (.l2i, 1) := by decide +kernel
theorem dX12_tells_218 : decode cX12_tells 218 = .ok (.ireturn, 1) := by decide +kernel
set_option maxRecDepth 20000 in
theorem T_X12_tells_64 {Q : Option Value → ah_T → Prop} {h : ah_T} (hs : Sh h) (x1 : Int32) (x3 : Int64) (ht : (((ah_i h 82 21) ≤ (ah_i h 82 20) → Q (some (.int ((x3).toInt32))) h) ∧ (¬ (ah_i h 82 21) ≤ (ah_i h 82 20) → ((¬ (ah_i h 82 21) ≤ (ah_i h 82 20) → vp_in (260 + (ah_i h 82 20)) (ah_n h 84))) ∧ (∀ h14, h14 = ah_si h 82 22 0 → (∀ h17, h17 = ah_si h14 82 20 ((ah_i h14 82 20) + 1) → ((¬ (f_X12_codeAt h (ah_i h 82 20)) = 1 → (Mt (mX12_sumOf 60) [.ref 82, .int 1] h17 (ab_ql fun v23 h21 => Sh h21 ∧ (∀ h24, h24 = ah_si h21 82 22 0 → (Mt mX12_passes0 [.ref 82, .int 4] h24 (ab_qi fun v29 h27 => Sh h27 ∧ ((v29 = 0 → Wp mX12_tells Q 0 0 144 [some (.ref 82), some (.int x1), none, some (.long x3), none, some (.int (f_X12_codeAt h (ah_i h 82 20))), some (.long v23), none, some (.int (ah_i h21 82 22)), none] [] h27) ∧ (¬ v29 = 0 → (Mt (mX12_testOf 60) [.ref 82, .int 1] h27 (ab_qi fun v33 h31 => Sh h31 ∧ ((v33 = 0 → ((¬ (f_X12_codeAt h (ah_i h 82 20)) = x1 → Wp mX12_tells Q 0 0 203 [some (.ref 82), some (.int x1), none, some (.long x3), none, none, none, none, none, none] [] h31) ∧ ((f_X12_codeAt h (ah_i h 82 20)) = x1 → Wp mX12_tells Q 0 0 203 [some (.ref 82), some (.int x1), none, some (.long x3), none, none, none, none, none, none] [] h31))) ∧ (¬ v33 = 0 → Wp mX12_tells Q 0 0 144 [some (.ref 82), some (.int x1), none, some (.long x3), none, some (.int (f_X12_codeAt h (ah_i h 82 20))), some (.long v23), none, some (.int (ah_i h21 82 22)), none] [] h31)))))))))))) ∧ ((f_X12_codeAt h (ah_i h 82 20)) = 1 → (∀ h36, h36 = ah_si h17 82 22 0 → (Mt mX12_passes0 [.ref 82, .int 4] h36 (ab_qi fun v41 h39 => Sh h39 ∧ ((v41 = 0 → Wp mX12_tells Q 0 0 144 [some (.ref 82), some (.int x1), none, some (.long x3), none, some (.int (f_X12_codeAt h (ah_i h 82 20))), some (.long (1 : Int64)), none, some (.int (ah_i h17 82 22)), none] [] h39) ∧ (¬ v41 = 0 → (Mt (mX12_testOf 60) [.ref 82, .int 1] h39 (ab_qi fun v45 h43 => Sh h43 ∧ ((v45 = 0 → ((¬ (f_X12_codeAt h (ah_i h 82 20)) = x1 → Wp mX12_tells Q 0 0 203 [some (.ref 82), some (.int x1), none, some (.long x3), none, none, none, none, none, none] [] h43) ∧ ((f_X12_codeAt h (ah_i h 82 20)) = x1 → Wp mX12_tells Q 0 0 203 [some (.ref 82), some (.int x1), none, some (.long x3), none, none, none, none, none, none] [] h43))) ∧ (¬ v45 = 0 → Wp mX12_tells Q 0 0 144 [some (.ref 82), some (.int x1), none, some (.long x3), none, some (.int (f_X12_codeAt h (ah_i h 82 20))), some (.long (1 : Int64)), none, some (.int (ah_i h17 82 22)), none] [] h43)))))))))))))))) : Wp mX12_tells Q 0 0 64 [some (.ref 82), some (.int x1), none, some (.long x3), none, none, none, none, none, none] [] h := by
  refine ab_aload_n (i := 0) dX12_tells_64 rfl rfl ?_
  refine ab_getI f_X12_309 rfl (sh_k hs 82 12 (by decide) rfl) dX12_tells_65 ?_
  refine ab_aload_n (i := 0) dX12_tells_68 rfl rfl ?_
  refine ab_getI f_X12_306 rfl (sh_k hs 82 12 (by decide) rfl) dX12_tells_69 ?_
  refine ab_icmp_ge (tgt := 216) dX12_tells_72 (by decide) (fun c12 => ?_) (fun c12 => ?_)
  · have ht := ht.1 c12
    refine ab_lload_n (i := 3) dX12_tells_216 rfl rfl ?_
    refine ab_l2i dX12_tells_217 ?_
    exact ab_iret rfl dX12_tells_218 (Nat.le_of_ble_eq_true rfl) (Nat.le_of_ble_eq_true rfl) ht
  · have ht := ht.2 c12
    refine ab_aload_n (i := 0) dX12_tells_75 rfl rfl ?_
    refine ab_aload_n (i := 0) dX12_tells_76 rfl rfl ?_
    refine ab_getI f_X12_309 rfl (sh_k hs 82 12 (by decide) rfl) dX12_tells_77 ?_
    obtain ⟨hc13, ht⟩ := ht
    refine ab_callV (b := 82) (Q' := fun r h' => r = some (.int (f_X12_codeAt h (ah_i h 82 20))) ∧ h = h') (As := [.int (ah_i h 82 20)]) (c_X12_codeAt hs (ah_i h 82 20)  hc13 ⟨rfl, rfl⟩) (Y_X12_codeAt) l_X12_312 in_X12_codeAt se_X12_codeAt (sh_k hs 82 12 (by decide) rfl) (by decide) rfl rfl ⟨(Nat.le_of_ble_eq_true rfl), (Nat.le_of_ble_eq_true rfl), (Nat.le_of_ble_eq_true rfl), (Nat.le_of_ble_eq_true rfl)⟩ dX12_tells_80 ?_
    rintro _ _ ⟨rfl, rfl⟩
    refine ab_istore (i := 5) (L' := [some (.ref 82), some (.int x1), none, some (.long x3), none, some (.int (f_X12_codeAt h (ah_i h 82 20))), none, none, none, none]) dX12_tells_83 (by exact (Nat.le_of_ble_eq_true rfl)) rfl rfl ?_
    refine ab_aload_n (i := 0) dX12_tells_85 rfl rfl ?_
    refine ab_iconst (v := 0) dX12_tells_86 (by decide) ?_
    refine ab_putI f_X12_319 (Or.inl rfl) rfl (sh_k hs 82 12 (by decide) rfl) rfl rfl dX12_tells_87 ?_
    refine Wp.nm fun h14 e15 => ?_
    have ht := ht h14 e15
    have hs16 : Sh h14 := by rw [e15]; exact sh_si hs
    refine ab_aload_n (i := 0) dX12_tells_90 rfl rfl ?_
    refine ab_dup dX12_tells_91 rfl ?_
    refine ab_getI f_X12_309 rfl (sh_k hs16 82 12 (by decide) rfl) dX12_tells_92 ?_
    refine ab_iconst (v := 1) dX12_tells_95 (by decide) ?_
    refine ab_iadd dX12_tells_96 ?_
    refine ab_putI f_X12_309 (Or.inl rfl) rfl (sh_k hs16 82 12 (by decide) rfl) rfl rfl dX12_tells_97 ?_
    refine Wp.nm fun h17 e18 => ?_
    have ht := ht h17 e18
    have hs19 : Sh h17 := by rw [e18]; exact sh_si hs16
    refine ab_iload (i := 5) dX12_tells_100 rfl ?_
    refine ab_iconst (v := 1) dX12_tells_102 (by decide) ?_
    refine ab_icmp_ne (tgt := 110) dX12_tells_103 (by decide) (fun c20 => ?_) (fun c20 => ?_)
    · have ht := ht.1 c20
      refine ab_aload_n (i := 0) dX12_tells_110 rfl rfl ?_
      refine ab_iconst (v := 1) dX12_tells_111 (by decide) ?_
      refine ab_callV (b := 82) (As := [.int 1]) ht (Y_X12_sumOf _) l_X12_336 in_X12_sumOf se_X12_sumOf (sh_k hs19 82 12 (by decide) rfl) (by decide) rfl rfl ⟨(Nat.le_of_ble_eq_true rfl), (Nat.le_of_ble_eq_true rfl), (Nat.le_of_ble_eq_true rfl), (Nat.le_of_ble_eq_true rfl)⟩ dX12_tells_112 ?_
      rintro _ h21 ⟨v23, rfl, hs22, ht⟩
      refine ab_lstore (i := 6) (L' := [some (.ref 82), some (.int x1), none, some (.long x3), none, some (.int (f_X12_codeAt h (ah_i h 82 20))), some (.long v23), none, none, none]) dX12_tells_115 (by exact (Nat.le_of_ble_eq_true rfl)) rfl rfl ?_
      refine ab_aload_n (i := 0) dX12_tells_117 rfl rfl ?_
      refine ab_getI f_X12_319 rfl (sh_k hs22 82 12 (by decide) rfl) dX12_tells_118 ?_
      refine ab_istore (i := 8) (L' := [some (.ref 82), some (.int x1), none, some (.long x3), none, some (.int (f_X12_codeAt h (ah_i h 82 20))), some (.long v23), none, some (.int (ah_i h21 82 22)), none]) dX12_tells_121 (by exact (Nat.le_of_ble_eq_true rfl)) rfl rfl ?_
      refine ab_aload_n (i := 0) dX12_tells_123 rfl rfl ?_
      refine ab_iconst (v := 0) dX12_tells_124 (by decide) ?_
      refine ab_putI f_X12_319 (Or.inl rfl) rfl (sh_k hs22 82 12 (by decide) rfl) rfl rfl dX12_tells_125 ?_
      refine Wp.nm fun h24 e25 => ?_
      have ht := ht h24 e25
      have hs26 : Sh h24 := by rw [e25]; exact sh_si hs22
      refine ab_aload_n (i := 0) dX12_tells_128 rfl rfl ?_
      refine ab_iconst (v := 4) dX12_tells_129 (by decide) ?_
      refine ab_callV (b := 82) (As := [.int 4]) ht (Y_X12_passes0) l_X12_333 in_X12_passes0 se_X12_passes0 (sh_k hs26 82 12 (by decide) rfl) (by decide) rfl rfl ⟨(Nat.le_of_ble_eq_true rfl), (Nat.le_of_ble_eq_true rfl), (Nat.le_of_ble_eq_true rfl), (Nat.le_of_ble_eq_true rfl)⟩ dX12_tells_130 ?_
      rintro _ h27 ⟨v29, rfl, hs28, ht⟩
      refine ab_if_eq (tgt := 144) dX12_tells_133 (by decide) (fun c30 => ?_) (fun c30 => ?_)
      · have ht := ht.1 c30
        exact Wp.fewer (L' := [some (.ref 82), some (.int x1), none, some (.long x3), none, some (.int (f_X12_codeAt h (ah_i h 82 20))), some (.long v23), none, some (.int (ah_i h21 82 22)), none]) (show ab_leL _ _ from ⟨rfl, ⟨rfl, ⟨rfl, ⟨rfl, ⟨rfl, ⟨rfl, trivial⟩⟩⟩⟩⟩⟩) ht
      · have ht := ht.2 c30
        refine ab_aload_n (i := 0) dX12_tells_136 rfl rfl ?_
        refine ab_iconst (v := 1) dX12_tells_137 (by decide) ?_
        refine ab_callV (b := 82) (As := [.int 1]) ht (Y_X12_testOf _) l_X12_352 in_X12_testOf se_X12_testOf (sh_k hs28 82 12 (by decide) rfl) (by decide) rfl rfl ⟨(Nat.le_of_ble_eq_true rfl), (Nat.le_of_ble_eq_true rfl), (Nat.le_of_ble_eq_true rfl), (Nat.le_of_ble_eq_true rfl)⟩ dX12_tells_138 ?_
        rintro _ h31 ⟨v33, rfl, hs32, ht⟩
        refine ab_if_eq (tgt := 148) dX12_tells_141 (by decide) (fun c34 => ?_) (fun c34 => ?_)
        · have ht := ht.1 c34
          refine ab_iconst (v := 0) dX12_tells_148 (by decide) ?_
          refine ab_istore (i := 9) (L' := [some (.ref 82), some (.int x1), none, some (.long x3), none, some (.int (f_X12_codeAt h (ah_i h 82 20))), some (.long v23), none, some (.int (ah_i h21 82 22)), some (.int 0)]) dX12_tells_149 (by exact (Nat.le_of_ble_eq_true rfl)) rfl rfl ?_
          refine ab_iload (i := 5) dX12_tells_151 rfl ?_
          refine ab_iload_n (i := 1) dX12_tells_153 rfl rfl ?_
          refine ab_icmp_ne (tgt := 203) dX12_tells_154 (by decide) (fun c35 => ?_) (fun c35 => ?_)
          · have ht := ht.1 c35
            exact Wp.fewer (L' := [some (.ref 82), some (.int x1), none, some (.long x3), none, none, none, none, none, none]) (show ab_leL _ _ from ⟨rfl, ⟨rfl, ⟨rfl, trivial⟩⟩⟩) ht
          · have ht := ht.2 c35
            refine ab_iload (i := 9) dX12_tells_157 rfl ?_
            refine ab_if_eq (tgt := 203) dX12_tells_159 (by decide) (fun _ => ?_) (fun q => absurd (by decide) q)
            exact Wp.fewer (L' := [some (.ref 82), some (.int x1), none, some (.long x3), none, none, none, none, none, none]) (show ab_leL _ _ from ⟨rfl, ⟨rfl, ⟨rfl, trivial⟩⟩⟩) ht
        · have ht := ht.2 c34
          exact Wp.fewer (L' := [some (.ref 82), some (.int x1), none, some (.long x3), none, some (.int (f_X12_codeAt h (ah_i h 82 20))), some (.long v23), none, some (.int (ah_i h21 82 22)), none]) (show ab_leL _ _ from ⟨rfl, ⟨rfl, ⟨rfl, ⟨rfl, ⟨rfl, ⟨rfl, trivial⟩⟩⟩⟩⟩⟩) ht
    · have ht := ht.2 c20
      refine ab_lconst (v := 1) dX12_tells_106 (by decide) ?_
      refine ab_goto (tgt := 115) dX12_tells_107 (by decide) ?_
      refine ab_lstore (i := 6) (L' := [some (.ref 82), some (.int x1), none, some (.long x3), none, some (.int (f_X12_codeAt h (ah_i h 82 20))), some (.long (1 : Int64)), none, none, none]) dX12_tells_115 (by exact (Nat.le_of_ble_eq_true rfl)) rfl rfl ?_
      refine ab_aload_n (i := 0) dX12_tells_117 rfl rfl ?_
      refine ab_getI f_X12_319 rfl (sh_k hs19 82 12 (by decide) rfl) dX12_tells_118 ?_
      refine ab_istore (i := 8) (L' := [some (.ref 82), some (.int x1), none, some (.long x3), none, some (.int (f_X12_codeAt h (ah_i h 82 20))), some (.long (1 : Int64)), none, some (.int (ah_i h17 82 22)), none]) dX12_tells_121 (by exact (Nat.le_of_ble_eq_true rfl)) rfl rfl ?_
      refine ab_aload_n (i := 0) dX12_tells_123 rfl rfl ?_
      refine ab_iconst (v := 0) dX12_tells_124 (by decide) ?_
      refine ab_putI f_X12_319 (Or.inl rfl) rfl (sh_k hs19 82 12 (by decide) rfl) rfl rfl dX12_tells_125 ?_
      refine Wp.nm fun h36 e37 => ?_
      have ht := ht h36 e37
      have hs38 : Sh h36 := by rw [e37]; exact sh_si hs19
      refine ab_aload_n (i := 0) dX12_tells_128 rfl rfl ?_
      refine ab_iconst (v := 4) dX12_tells_129 (by decide) ?_
      refine ab_callV (b := 82) (As := [.int 4]) ht (Y_X12_passes0) l_X12_333 in_X12_passes0 se_X12_passes0 (sh_k hs38 82 12 (by decide) rfl) (by decide) rfl rfl ⟨(Nat.le_of_ble_eq_true rfl), (Nat.le_of_ble_eq_true rfl), (Nat.le_of_ble_eq_true rfl), (Nat.le_of_ble_eq_true rfl)⟩ dX12_tells_130 ?_
      rintro _ h39 ⟨v41, rfl, hs40, ht⟩
      refine ab_if_eq (tgt := 144) dX12_tells_133 (by decide) (fun c42 => ?_) (fun c42 => ?_)
      · have ht := ht.1 c42
        exact Wp.fewer (L' := [some (.ref 82), some (.int x1), none, some (.long x3), none, some (.int (f_X12_codeAt h (ah_i h 82 20))), some (.long (1 : Int64)), none, some (.int (ah_i h17 82 22)), none]) (show ab_leL _ _ from ⟨rfl, ⟨rfl, ⟨rfl, ⟨rfl, ⟨rfl, ⟨rfl, trivial⟩⟩⟩⟩⟩⟩) ht
      · have ht := ht.2 c42
        refine ab_aload_n (i := 0) dX12_tells_136 rfl rfl ?_
        refine ab_iconst (v := 1) dX12_tells_137 (by decide) ?_
        refine ab_callV (b := 82) (As := [.int 1]) ht (Y_X12_testOf _) l_X12_352 in_X12_testOf se_X12_testOf (sh_k hs40 82 12 (by decide) rfl) (by decide) rfl rfl ⟨(Nat.le_of_ble_eq_true rfl), (Nat.le_of_ble_eq_true rfl), (Nat.le_of_ble_eq_true rfl), (Nat.le_of_ble_eq_true rfl)⟩ dX12_tells_138 ?_
        rintro _ h43 ⟨v45, rfl, hs44, ht⟩
        refine ab_if_eq (tgt := 148) dX12_tells_141 (by decide) (fun c46 => ?_) (fun c46 => ?_)
        · have ht := ht.1 c46
          refine ab_iconst (v := 0) dX12_tells_148 (by decide) ?_
          refine ab_istore (i := 9) (L' := [some (.ref 82), some (.int x1), none, some (.long x3), none, some (.int (f_X12_codeAt h (ah_i h 82 20))), some (.long (1 : Int64)), none, some (.int (ah_i h17 82 22)), some (.int 0)]) dX12_tells_149 (by exact (Nat.le_of_ble_eq_true rfl)) rfl rfl ?_
          refine ab_iload (i := 5) dX12_tells_151 rfl ?_
          refine ab_iload_n (i := 1) dX12_tells_153 rfl rfl ?_
          refine ab_icmp_ne (tgt := 203) dX12_tells_154 (by decide) (fun c47 => ?_) (fun c47 => ?_)
          · have ht := ht.1 c47
            exact Wp.fewer (L' := [some (.ref 82), some (.int x1), none, some (.long x3), none, none, none, none, none, none]) (show ab_leL _ _ from ⟨rfl, ⟨rfl, ⟨rfl, trivial⟩⟩⟩) ht
          · have ht := ht.2 c47
            refine ab_iload (i := 9) dX12_tells_157 rfl ?_
            refine ab_if_eq (tgt := 203) dX12_tells_159 (by decide) (fun _ => ?_) (fun q => absurd (by decide) q)
            exact Wp.fewer (L' := [some (.ref 82), some (.int x1), none, some (.long x3), none, none, none, none, none, none]) (show ab_leL _ _ from ⟨rfl, ⟨rfl, ⟨rfl, trivial⟩⟩⟩) ht
        · have ht := ht.2 c46
          exact Wp.fewer (L' := [some (.ref 82), some (.int x1), none, some (.long x3), none, some (.int (f_X12_codeAt h (ah_i h 82 20))), some (.long (1 : Int64)), none, some (.int (ah_i h17 82 22)), none]) (show ab_leL _ _ from ⟨rfl, ⟨rfl, ⟨rfl, ⟨rfl, ⟨rfl, ⟨rfl, trivial⟩⟩⟩⟩⟩⟩) ht
set_option maxRecDepth 20000 in
theorem T_X12_tells_144 {Q : Option Value → ah_T → Prop} {h : ah_T} (hs : Sh h) (x1 : Int32) (x3 : Int64) (x5 : Int32) (x6 : Int64) (x8 : Int32) (ht : ((¬ x5 = x1 → Wp mX12_tells Q 0 0 203 [some (.ref 82), some (.int x1), none, some (.long x3), none, none, none, none, none, none] [] h) ∧ (x5 = x1 → ((¬ (ah_i h 82 22) = 0 → Wp mX12_tells Q 0 0 203 [some (.ref 82), some (.int x1), none, some (.long x3), none, none, none, none, none, none] [] h) ∧ ((ah_i h 82 22) = 0 → ((¬ x8 = 0 → Wp mX12_tells Q 0 0 203 [some (.ref 82), some (.int x1), none, some (.long x3), none, none, none, none, none, none] [] h) ∧ (x8 = 0 → ((0 ≤ (lg_cmp x6 (0 : Int64)) → (((lg_cmp x6 (9 : Int64)) ≤ 0 → Wp mX12_tells Q 0 0 203 [some (.ref 82), some (.int x1), none, some (.long x6), none, none, none, none, none, none] [] h) ∧ (¬ (lg_cmp x6 (9 : Int64)) ≤ 0 → Wp mX12_tells Q 0 0 203 [some (.ref 82), some (.int x1), none, some (.long (9 : Int64)), none, none, none, none, none, none] [] h))) ∧ (¬ 0 ≤ (lg_cmp x6 (0 : Int64)) → Wp mX12_tells Q 0 0 203 [some (.ref 82), some (.int x1), none, some (.long (0 : Int64)), none, none, none, none, none, none] [] h))))))))) : Wp mX12_tells Q 0 0 144 [some (.ref 82), some (.int x1), none, some (.long x3), none, some (.int x5), some (.long x6), none, some (.int x8), none] [] h := by
  refine ab_iconst (v := 1) dX12_tells_144 (by decide) ?_
  refine ab_goto (tgt := 149) dX12_tells_145 (by decide) ?_
  refine ab_istore (i := 9) (L' := [some (.ref 82), some (.int x1), none, some (.long x3), none, some (.int x5), some (.long x6), none, some (.int x8), some (.int 1)]) dX12_tells_149 (by exact (Nat.le_of_ble_eq_true rfl)) rfl rfl ?_
  refine ab_iload (i := 5) dX12_tells_151 rfl ?_
  refine ab_iload_n (i := 1) dX12_tells_153 rfl rfl ?_
  refine ab_icmp_ne (tgt := 203) dX12_tells_154 (by decide) (fun c48 => ?_) (fun c48 => ?_)
  · have ht := ht.1 c48
    exact Wp.fewer (L' := [some (.ref 82), some (.int x1), none, some (.long x3), none, none, none, none, none, none]) (show ab_leL _ _ from ⟨rfl, ⟨rfl, ⟨rfl, trivial⟩⟩⟩) ht
  · have ht := ht.2 c48
    refine ab_iload (i := 9) dX12_tells_157 rfl ?_
    refine ab_if_eq (tgt := 203) dX12_tells_159 (by decide) (fun q => absurd q (by decide)) (fun _ => ?_)
    refine ab_aload_n (i := 0) dX12_tells_162 rfl rfl ?_
    refine ab_getI f_X12_319 rfl (sh_k hs 82 12 (by decide) rfl) dX12_tells_163 ?_
    refine ab_if_ne (tgt := 203) dX12_tells_166 (by decide) (fun c49 => ?_) (fun c49 => ?_)
    · have ht := ht.1 c49
      exact Wp.fewer (L' := [some (.ref 82), some (.int x1), none, some (.long x3), none, none, none, none, none, none]) (show ab_leL _ _ from ⟨rfl, ⟨rfl, ⟨rfl, trivial⟩⟩⟩) ht
    · have ht := ht.2 c49
      refine ab_iload (i := 8) dX12_tells_169 rfl ?_
      refine ab_if_ne (tgt := 203) dX12_tells_171 (by decide) (fun c50 => ?_) (fun c50 => ?_)
      · have ht := ht.1 c50
        exact Wp.fewer (L' := [some (.ref 82), some (.int x1), none, some (.long x3), none, none, none, none, none, none]) (show ab_leL _ _ from ⟨rfl, ⟨rfl, ⟨rfl, trivial⟩⟩⟩) ht
      · have ht := ht.2 c50
        refine ab_lload (i := 6) dX12_tells_174 rfl ?_
        refine ab_lconst (v := 0) dX12_tells_176 (by decide) ?_
        refine ab_lcmp dX12_tells_177 ?_
        refine ab_if_ge (tgt := 185) dX12_tells_178 (by decide) (fun c51 => ?_) (fun c51 => ?_)
        · have ht := ht.1 c51
          refine ab_lload (i := 6) dX12_tells_185 rfl ?_
          refine ab_ldc2 (v := 9) (tb_9 (List.mem_of_getElem? (i := 55) (by decide +kernel)) rfl) dX12_tells_187 ?_
          refine ab_lcmp dX12_tells_190 ?_
          refine ab_if_le (tgt := 200) dX12_tells_191 (by decide) (fun c52 => ?_) (fun c52 => ?_)
          · have ht := ht.1 c52
            refine ab_lload (i := 6) dX12_tells_200 rfl ?_
            refine ab_lstore_n (i := 3) (L' := [some (.ref 82), some (.int x1), none, some (.long x6), none, some (.int x5), some (.long x6), none, some (.int x8), some (.int 1)]) dX12_tells_202 rfl (by exact (Nat.le_of_ble_eq_true rfl)) rfl rfl ?_
            exact Wp.fewer (L' := [some (.ref 82), some (.int x1), none, some (.long x6), none, none, none, none, none, none]) (show ab_leL _ _ from ⟨rfl, ⟨rfl, ⟨rfl, trivial⟩⟩⟩) ht
          · have ht := ht.2 c52
            refine ab_ldc2 (v := 9) (tb_9 (List.mem_of_getElem? (i := 55) (by decide +kernel)) rfl) dX12_tells_194 ?_
            refine ab_goto (tgt := 202) dX12_tells_197 (by decide) ?_
            refine ab_lstore_n (i := 3) (L' := [some (.ref 82), some (.int x1), none, some (.long (9 : Int64)), none, some (.int x5), some (.long x6), none, some (.int x8), some (.int 1)]) dX12_tells_202 rfl (by exact (Nat.le_of_ble_eq_true rfl)) rfl rfl ?_
            exact Wp.fewer (L' := [some (.ref 82), some (.int x1), none, some (.long (9 : Int64)), none, none, none, none, none, none]) (show ab_leL _ _ from ⟨rfl, ⟨rfl, ⟨rfl, trivial⟩⟩⟩) ht
        · have ht := ht.2 c51
          refine ab_lconst (v := 0) dX12_tells_181 (by decide) ?_
          refine ab_goto (tgt := 202) dX12_tells_182 (by decide) ?_
          refine ab_lstore_n (i := 3) (L' := [some (.ref 82), some (.int x1), none, some (.long (0 : Int64)), none, some (.int x5), some (.long x6), none, some (.int x8), some (.int 1)]) dX12_tells_202 rfl (by exact (Nat.le_of_ble_eq_true rfl)) rfl rfl ?_
          exact Wp.fewer (L' := [some (.ref 82), some (.int x1), none, some (.long (0 : Int64)), none, none, none, none, none, none]) (show ab_leL _ _ from ⟨rfl, ⟨rfl, ⟨rfl, trivial⟩⟩⟩) ht
set_option maxRecDepth 20000 in
theorem T_X12_tells_203 {Q : Option Value → ah_T → Prop} {h : ah_T} (hs : Sh h) (x1 : Int32) (x3 : Int64) (ht : (∀ h53, h53 = ah_si h 82 20 ((ah_i h 82 20) + 1) → Wp mX12_tells Q 0 0 64 [some (.ref 82), some (.int x1), none, some (.long x3), none, none, none, none, none, none] [] h53)) : Wp mX12_tells Q 0 0 203 [some (.ref 82), some (.int x1), none, some (.long x3), none, none, none, none, none, none] [] h := by
  refine ab_aload_n (i := 0) dX12_tells_203 rfl rfl ?_
  refine ab_dup dX12_tells_204 rfl ?_
  refine ab_getI f_X12_309 rfl (sh_k hs 82 12 (by decide) rfl) dX12_tells_205 ?_
  refine ab_iconst (v := 1) dX12_tells_208 (by decide) ?_
  refine ab_iadd dX12_tells_209 ?_
  refine ab_putI f_X12_309 (Or.inl rfl) rfl (sh_k hs 82 12 (by decide) rfl) rfl rfl dX12_tells_210 ?_
  refine Wp.nm fun h53 e54 => ?_
  have ht := ht h53 e54
  have hs55 : Sh h53 := by rw [e54]; exact sh_si hs
  refine ab_goto (tgt := 64) dX12_tells_213 (by decide) ?_
  exact Wp.fewer (L' := [some (.ref 82), some (.int x1), none, some (.long x3), none, none, none, none, none, none]) (show ab_leL _ _ from ⟨rfl, ⟨rfl, ⟨rfl, trivial⟩⟩⟩) ht
set_option maxRecDepth 20000 in
theorem T_X12_tells {Q : Option Value → ah_T → Prop} {h : ah_T} (hs : Sh h) (x1 : Int32) (x2 : Int32) (ht : ((¬ (ah_i h 84 (Int32.toNatClampNeg 252)) = (-1) → (∀ h2, h2 = ah_si h 82 23 0 → (∀ h5, h5 = ah_si h2 82 20 (400 * (ah_i h2 84 (Int32.toNatClampNeg 252))) → (vp_in (253 + (ah_i h5 84 (Int32.toNatClampNeg 252))) (ah_n h5 84)) ∧ (∀ h9, h9 = ah_si h5 82 21 ((ah_i h5 82 20) + (ah_i h5 84 (Int32.toNatClampNeg (253 + (ah_i h5 84 (Int32.toNatClampNeg 252)))))) → Wp mX12_tells Q 0 0 64 [some (.ref 82), some (.int x1), none, some (.long ((x2).toInt64)), none, none, none, none, none, none] [] h9)))) ∧ ((ah_i h 84 (Int32.toNatClampNeg 252)) = (-1) → Q (some (.int x2)) h))) : Mt mX12_tells [.ref 82, .int x1, .int x2] h Q := by
  refine Mt.ofWp rfl (by exact (Nat.le_of_ble_eq_true rfl)) (Wp.fewer (L' := [some (.ref 82), some (.int x1), some (.int x2), none, none, none, none, none, none, none]) (show ab_leL _ _ from ⟨rfl, ⟨rfl, ⟨rfl, trivial⟩⟩⟩) ?_)
  refine ab_aload_n (i := 0) dX12_tells_0 rfl rfl ?_
  refine ab_getR (b := 84) f_X12_20 rfl (sh_k hs 82 12 (by decide) rfl) (sh_r hs 100 rfl) dX12_tells_1 ?_
  refine ab_sipush (v := 252) dX12_tells_4 (by decide) ?_
  refine ab_iald (sh_k hs 84 14 (by decide) rfl) (sh_in hs 84 5860 (by decide) (by decide) rfl (by unfold vp_in; decide)) dX12_tells_7 ?_
  refine ab_iconst (v := (-1)) dX12_tells_8 (by decide) ?_
  refine ab_icmp_ne (tgt := 14) dX12_tells_9 (by decide) (fun c1 => ?_) (fun c1 => ?_)
  · have ht := ht.1 c1
    refine ab_aload_n (i := 0) dX12_tells_14 rfl rfl ?_
    refine ab_iconst (v := 0) dX12_tells_15 (by decide) ?_
    refine ab_putI f_X12_339 (Or.inl rfl) rfl (sh_k hs 82 12 (by decide) rfl) rfl rfl dX12_tells_16 ?_
    refine Wp.nm fun h2 e3 => ?_
    have ht := ht h2 e3
    have hs4 : Sh h2 := by rw [e3]; exact sh_si hs
    refine ab_iload_n (i := 2) dX12_tells_19 rfl rfl ?_
    refine ab_i2l dX12_tells_20 ?_
    refine ab_lstore_n (i := 3) (L' := [some (.ref 82), some (.int x1), some (.int x2), some (.long ((x2).toInt64)), none, none, none, none, none, none]) dX12_tells_21 rfl (by exact (Nat.le_of_ble_eq_true rfl)) rfl rfl ?_
    refine ab_aload_n (i := 0) dX12_tells_22 rfl rfl ?_
    refine ab_sipush (v := 400) dX12_tells_23 (by decide) ?_
    refine ab_aload_n (i := 0) dX12_tells_26 rfl rfl ?_
    refine ab_getR (b := 84) f_X12_20 rfl (sh_k hs4 82 12 (by decide) rfl) (sh_r hs4 100 rfl) dX12_tells_27 ?_
    refine ab_sipush (v := 252) dX12_tells_30 (by decide) ?_
    refine ab_iald (sh_k hs4 84 14 (by decide) rfl) (sh_in hs4 84 5860 (by decide) (by decide) rfl (by unfold vp_in; decide)) dX12_tells_33 ?_
    refine ab_imul dX12_tells_34 ?_
    refine ab_putI f_X12_309 (Or.inl rfl) rfl (sh_k hs4 82 12 (by decide) rfl) rfl rfl dX12_tells_35 ?_
    refine Wp.nm fun h5 e6 => ?_
    have ht := ht h5 e6
    have hs7 : Sh h5 := by rw [e6]; exact sh_si hs4
    refine ab_aload_n (i := 0) dX12_tells_38 rfl rfl ?_
    refine ab_aload_n (i := 0) dX12_tells_39 rfl rfl ?_
    refine ab_getI f_X12_309 rfl (sh_k hs7 82 12 (by decide) rfl) dX12_tells_40 ?_
    refine ab_aload_n (i := 0) dX12_tells_43 rfl rfl ?_
    refine ab_getR (b := 84) f_X12_20 rfl (sh_k hs7 82 12 (by decide) rfl) (sh_r hs7 100 rfl) dX12_tells_44 ?_
    refine ab_sipush (v := 253) dX12_tells_47 (by decide) ?_
    refine ab_aload_n (i := 0) dX12_tells_50 rfl rfl ?_
    refine ab_getR (b := 84) f_X12_20 rfl (sh_k hs7 82 12 (by decide) rfl) (sh_r hs7 100 rfl) dX12_tells_51 ?_
    refine ab_sipush (v := 252) dX12_tells_54 (by decide) ?_
    refine ab_iald (sh_k hs7 84 14 (by decide) rfl) (sh_in hs7 84 5860 (by decide) (by decide) rfl (by unfold vp_in; decide)) dX12_tells_57 ?_
    refine ab_iadd dX12_tells_58 ?_
    obtain ⟨hc8, ht⟩ := ht
    refine ab_iald (sh_k hs7 84 14 (by decide) rfl) hc8 dX12_tells_59 ?_
    refine ab_iadd dX12_tells_60 ?_
    refine ab_putI f_X12_306 (Or.inl rfl) rfl (sh_k hs7 82 12 (by decide) rfl) rfl rfl dX12_tells_61 ?_
    refine Wp.nm fun h9 e10 => ?_
    have ht := ht h9 e10
    have hs11 : Sh h9 := by rw [e10]; exact sh_si hs7
    exact Wp.fewer (L' := [some (.ref 82), some (.int x1), none, some (.long ((x2).toInt64)), none, none, none, none, none, none]) (show ab_leL _ _ from ⟨rfl, ⟨rfl, ⟨rfl, trivial⟩⟩⟩) ht
  · have ht := ht.2 c1
    refine ab_iload_n (i := 2) dX12_tells_12 rfl rfl ?_
    exact ab_iret rfl dX12_tells_13 (Nat.le_of_ble_eq_true rfl) (Nat.le_of_ble_eq_true rfl) ht
theorem dX12_sets_0 : decode cX12_sets 0 = .ok (.aload_n 0, 1) := by decide +kernel
theorem dX12_sets_1 : decode cX12_sets 1 = .ok (.getfield 52, 3) := by decide +kernel
theorem dX12_sets_4 : decode cX12_sets 4 = .ok (.iconst 0, 1) := by decide +kernel
theorem dX12_sets_5 : decode cX12_sets 5 = .ok (.iload_n 1, 1) := by decide +kernel
theorem dX12_sets_6 : decode cX12_sets 6 = .ok (.iastore, 1) := by decide +kernel
theorem dX12_sets_7 : decode cX12_sets 7 = .ok (.aload_n 0, 1) := by decide +kernel
theorem dX12_sets_8 : decode cX12_sets 8 = .ok (.getfield 52, 3) := by decide +kernel
theorem dX12_sets_11 : decode cX12_sets 11 = .ok (.iconst 1, 1) := by decide +kernel
theorem dX12_sets_12 : decode cX12_sets 12 = .ok (.iload_n 2, 1) := by decide +kernel
theorem dX12_sets_13 : decode cX12_sets 13 = .ok (.iastore, 1) := by decide +kernel
theorem dX12_sets_14 : decode cX12_sets 14 = .ok (.aload_n 0, 1) := by decide +kernel
theorem dX12_sets_15 : decode cX12_sets 15 = .ok (.getfield 52, 3) := by decide +kernel
theorem dX12_sets_18 : decode cX12_sets 18 = .ok (.iconst 2, 1) := by decide +kernel
theorem dX12_sets_19 : decode cX12_sets 19 = .ok (.iload_n 3, 1) := by decide +kernel
theorem dX12_sets_20 : decode cX12_sets 20 = .ok (.iastore, 1) := by decide +kernel
theorem dX12_sets_21 : decode cX12_sets 21 = .ok (.aload_n 0, 1) := by decide +kernel
theorem dX12_sets_22 : decode cX12_sets 22 = .ok (.getfield 52, 3) := by decide +kernel
theorem dX12_sets_25 : decode cX12_sets 25 = .ok (.iconst 3, 1) := by decide +kernel
theorem dX12_sets_26 : decode cX12_sets 26 = .ok (.iload 4, 2) := by decide +kernel
theorem dX12_sets_28 : decode cX12_sets 28 = .ok (.iastore, 1) := by decide +kernel
theorem dX12_sets_29 : decode cX12_sets 29 = .ok (.aload_n 0, 1) := by decide +kernel
theorem dX12_sets_30 : decode cX12_sets 30 = .ok (.getfield 52, 3) := by decide +kernel
theorem dX12_sets_33 : decode cX12_sets 33 = .ok (.iconst 4, 1) := by decide +kernel
theorem dX12_sets_34 : decode cX12_sets 34 = .ok (.iload 5, 2) := by decide +kernel
theorem dX12_sets_36 : decode cX12_sets 36 = .ok (.iastore, 1) := by decide +kernel
theorem dX12_sets_37 : decode cX12_sets 37 = .ok (.aload_n 0, 1) := by decide +kernel
theorem dX12_sets_38 : decode cX12_sets 38 = .ok (.getfield 52, 3) := by decide +kernel
theorem dX12_sets_41 : decode cX12_sets 41 = .ok (.iconst 5, 1) := by decide +kernel
theorem dX12_sets_42 : decode cX12_sets 42 = .ok (.iload 6, 2) := by decide +kernel
theorem dX12_sets_44 : decode cX12_sets 44 = .ok (.iastore, 1) := by decide +kernel
theorem dX12_sets_45 : decode cX12_sets 45 = .ok (.aload_n 0, 1) := by decide +kernel
theorem dX12_sets_46 : decode cX12_sets 46 = .ok (.getfield 52, 3) := by decide +kernel
theorem dX12_sets_49 : decode cX12_sets 49 = .ok (.bipush 6, 2) := by decide +kernel
theorem dX12_sets_51 : decode cX12_sets 51 = .ok (.aload_n 0, 1) := by decide +kernel
theorem dX12_sets_52 : decode cX12_sets 52 = .ok (.getfield 20, 3) := by decide +kernel
theorem dX12_sets_55 : decode cX12_sets 55 = .ok (.sipush 242, 3) := by decide +kernel
theorem dX12_sets_58 : decode cX12_sets 58 = .ok (.iaload, 1) := by decide +kernel
theorem dX12_sets_59 : decode cX12_sets 59 = .ok (.iastore, 1) := by decide +kernel
theorem dX12_sets_60 : decode cX12_sets 60 = .ok (.aload_n 0, 1) := by decide +kernel
theorem dX12_sets_61 : decode cX12_sets 61 = .ok (.getfield 52, 3) := by decide +kernel
theorem dX12_sets_64 : decode cX12_sets 64 = .ok (.bipush 7, 2) := by decide +kernel
theorem dX12_sets_66 : decode cX12_sets 66 = .ok (.aload_n 0, 1) := by decide +kernel
theorem dX12_sets_67 : decode cX12_sets 67 = .ok (.getfield 20, 3) := by decide +kernel
theorem dX12_sets_70 : decode cX12_sets 70 = .ok (.sipush 244, 3) := by decide +kernel
theorem dX12_sets_73 : decode cX12_sets 73 = .ok (.iaload, 1) := by decide +kernel
theorem dX12_sets_74 : decode cX12_sets 74 = .ok (.iastore, 1) := by decide +kernel
theorem dX12_sets_75 : decode cX12_sets 75 = .ok (.return_, 1) := by decide +kernel
set_option maxRecDepth 20000 in
theorem T_X12_sets {Q : Option Value → ah_T → Prop} {h : ah_T} (hs : Sh h) (x1 : Int32) (x2 : Int32) (x3 : Int32) (x4 : Int32) (x5 : Int32) (x6 : Int32) (ht : (∀ h1, h1 = ah_si h 93 (Int32.toNatClampNeg 0) x1 → (∀ h4, h4 = ah_si h1 93 (Int32.toNatClampNeg 1) x2 → (∀ h7, h7 = ah_si h4 93 (Int32.toNatClampNeg 2) x3 → (∀ h10, h10 = ah_si h7 93 (Int32.toNatClampNeg 3) x4 → (∀ h13, h13 = ah_si h10 93 (Int32.toNatClampNeg 4) x5 → (∀ h16, h16 = ah_si h13 93 (Int32.toNatClampNeg 5) x6 → (∀ h19, h19 = ah_si h16 93 (Int32.toNatClampNeg 6) (ah_i h16 84 (Int32.toNatClampNeg 242)) → (∀ h22, h22 = ah_si h19 93 (Int32.toNatClampNeg 7) (ah_i h19 84 (Int32.toNatClampNeg 244)) → Q none h22))))))))) : Mt mX12_sets [.ref 82, .int x1, .int x2, .int x3, .int x4, .int x5, .int x6] h Q := by
  refine Mt.ofWp rfl (by exact (Nat.le_of_ble_eq_true rfl)) (Wp.fewer (L' := [some (.ref 82), some (.int x1), some (.int x2), some (.int x3), some (.int x4), some (.int x5), some (.int x6)]) (show ab_leL _ _ from ⟨rfl, ⟨rfl, ⟨rfl, ⟨rfl, ⟨rfl, ⟨rfl, ⟨rfl, trivial⟩⟩⟩⟩⟩⟩⟩) ?_)
  refine ab_aload_n (i := 0) dX12_sets_0 rfl rfl ?_
  refine ab_getR (b := 93) f_X12_52 rfl (sh_k hs 82 12 (by decide) rfl) (sh_r hs 109 rfl) dX12_sets_1 ?_
  refine ab_iconst (v := 0) dX12_sets_4 (by decide) ?_
  refine ab_iload_n (i := 1) dX12_sets_5 rfl rfl ?_
  refine ab_iast (sh_k hs 93 14 (by decide) rfl) (sh_in hs 93 8 (by decide) (by decide) rfl (by unfold vp_in; decide)) dX12_sets_6 ?_
  refine Wp.nm fun h1 e2 => ?_
  have ht := ht h1 e2
  have hs3 : Sh h1 := by rw [e2]; exact sh_si hs
  refine ab_aload_n (i := 0) dX12_sets_7 rfl rfl ?_
  refine ab_getR (b := 93) f_X12_52 rfl (sh_k hs3 82 12 (by decide) rfl) (sh_r hs3 109 rfl) dX12_sets_8 ?_
  refine ab_iconst (v := 1) dX12_sets_11 (by decide) ?_
  refine ab_iload_n (i := 2) dX12_sets_12 rfl rfl ?_
  refine ab_iast (sh_k hs3 93 14 (by decide) rfl) (sh_in hs3 93 8 (by decide) (by decide) rfl (by unfold vp_in; decide)) dX12_sets_13 ?_
  refine Wp.nm fun h4 e5 => ?_
  have ht := ht h4 e5
  have hs6 : Sh h4 := by rw [e5]; exact sh_si hs3
  refine ab_aload_n (i := 0) dX12_sets_14 rfl rfl ?_
  refine ab_getR (b := 93) f_X12_52 rfl (sh_k hs6 82 12 (by decide) rfl) (sh_r hs6 109 rfl) dX12_sets_15 ?_
  refine ab_iconst (v := 2) dX12_sets_18 (by decide) ?_
  refine ab_iload_n (i := 3) dX12_sets_19 rfl rfl ?_
  refine ab_iast (sh_k hs6 93 14 (by decide) rfl) (sh_in hs6 93 8 (by decide) (by decide) rfl (by unfold vp_in; decide)) dX12_sets_20 ?_
  refine Wp.nm fun h7 e8 => ?_
  have ht := ht h7 e8
  have hs9 : Sh h7 := by rw [e8]; exact sh_si hs6
  refine ab_aload_n (i := 0) dX12_sets_21 rfl rfl ?_
  refine ab_getR (b := 93) f_X12_52 rfl (sh_k hs9 82 12 (by decide) rfl) (sh_r hs9 109 rfl) dX12_sets_22 ?_
  refine ab_iconst (v := 3) dX12_sets_25 (by decide) ?_
  refine ab_iload (i := 4) dX12_sets_26 rfl ?_
  refine ab_iast (sh_k hs9 93 14 (by decide) rfl) (sh_in hs9 93 8 (by decide) (by decide) rfl (by unfold vp_in; decide)) dX12_sets_28 ?_
  refine Wp.nm fun h10 e11 => ?_
  have ht := ht h10 e11
  have hs12 : Sh h10 := by rw [e11]; exact sh_si hs9
  refine ab_aload_n (i := 0) dX12_sets_29 rfl rfl ?_
  refine ab_getR (b := 93) f_X12_52 rfl (sh_k hs12 82 12 (by decide) rfl) (sh_r hs12 109 rfl) dX12_sets_30 ?_
  refine ab_iconst (v := 4) dX12_sets_33 (by decide) ?_
  refine ab_iload (i := 5) dX12_sets_34 rfl ?_
  refine ab_iast (sh_k hs12 93 14 (by decide) rfl) (sh_in hs12 93 8 (by decide) (by decide) rfl (by unfold vp_in; decide)) dX12_sets_36 ?_
  refine Wp.nm fun h13 e14 => ?_
  have ht := ht h13 e14
  have hs15 : Sh h13 := by rw [e14]; exact sh_si hs12
  refine ab_aload_n (i := 0) dX12_sets_37 rfl rfl ?_
  refine ab_getR (b := 93) f_X12_52 rfl (sh_k hs15 82 12 (by decide) rfl) (sh_r hs15 109 rfl) dX12_sets_38 ?_
  refine ab_iconst (v := 5) dX12_sets_41 (by decide) ?_
  refine ab_iload (i := 6) dX12_sets_42 rfl ?_
  refine ab_iast (sh_k hs15 93 14 (by decide) rfl) (sh_in hs15 93 8 (by decide) (by decide) rfl (by unfold vp_in; decide)) dX12_sets_44 ?_
  refine Wp.nm fun h16 e17 => ?_
  have ht := ht h16 e17
  have hs18 : Sh h16 := by rw [e17]; exact sh_si hs15
  refine ab_aload_n (i := 0) dX12_sets_45 rfl rfl ?_
  refine ab_getR (b := 93) f_X12_52 rfl (sh_k hs18 82 12 (by decide) rfl) (sh_r hs18 109 rfl) dX12_sets_46 ?_
  refine ab_bipush (v := 6) dX12_sets_49 (by decide) ?_
  refine ab_aload_n (i := 0) dX12_sets_51 rfl rfl ?_
  refine ab_getR (b := 84) f_X12_20 rfl (sh_k hs18 82 12 (by decide) rfl) (sh_r hs18 100 rfl) dX12_sets_52 ?_
  refine ab_sipush (v := 242) dX12_sets_55 (by decide) ?_
  refine ab_iald (sh_k hs18 84 14 (by decide) rfl) (sh_in hs18 84 5860 (by decide) (by decide) rfl (by unfold vp_in; decide)) dX12_sets_58 ?_
  refine ab_iast (sh_k hs18 93 14 (by decide) rfl) (sh_in hs18 93 8 (by decide) (by decide) rfl (by unfold vp_in; decide)) dX12_sets_59 ?_
  refine Wp.nm fun h19 e20 => ?_
  have ht := ht h19 e20
  have hs21 : Sh h19 := by rw [e20]; exact sh_si hs18
  refine ab_aload_n (i := 0) dX12_sets_60 rfl rfl ?_
  refine ab_getR (b := 93) f_X12_52 rfl (sh_k hs21 82 12 (by decide) rfl) (sh_r hs21 109 rfl) dX12_sets_61 ?_
  refine ab_bipush (v := 7) dX12_sets_64 (by decide) ?_
  refine ab_aload_n (i := 0) dX12_sets_66 rfl rfl ?_
  refine ab_getR (b := 84) f_X12_20 rfl (sh_k hs21 82 12 (by decide) rfl) (sh_r hs21 100 rfl) dX12_sets_67 ?_
  refine ab_sipush (v := 244) dX12_sets_70 (by decide) ?_
  refine ab_iald (sh_k hs21 84 14 (by decide) rfl) (sh_in hs21 84 5860 (by decide) (by decide) rfl (by unfold vp_in; decide)) dX12_sets_73 ?_
  refine ab_iast (sh_k hs21 93 14 (by decide) rfl) (sh_in hs21 93 8 (by decide) (by decide) rfl (by unfold vp_in; decide)) dX12_sets_74 ?_
  refine Wp.nm fun h22 e23 => ?_
  have ht := ht h22 e23
  have hs24 : Sh h22 := by rw [e23]; exact sh_si hs21
  exact ab_vret rfl dX12_sets_75 (Nat.le_of_ble_eq_true rfl) (Nat.le_of_ble_eq_true rfl) ht
theorem dX12_knows_0 : decode cX12_knows 0 = .ok (.aload_n 0, 1) := by decide +kernel
theorem dX12_knows_1 : decode cX12_knows 1 = .ok (.getfield 68, 3) := by decide +kernel
theorem dX12_knows_4 : decode cX12_knows 4 = .ok (.aload_n 0, 1) := by decide +kernel
theorem dX12_knows_5 : decode cX12_knows 5 = .ok (.getfield 11, 3) := by decide +kernel
theorem dX12_knows_8 : decode cX12_knows 8 = .ok (.if_icmp .ne 4, 3) := by decide +kernel
theorem dX12_knows_11 : decode cX12_knows 11 = .ok (.return_, 1) := by decide +kernel
theorem dX12_knows_12 : decode cX12_knows 12 = .ok (.aload_n 0, 1) := by decide +kernel
theorem dX12_knows_13 : decode cX12_knows 13 = .ok (.aload_n 0, 1) := by decide +kernel
theorem dX12_knows_14 : decode cX12_knows 14 = .ok (.getfield 11, 3) := by decide +kernel
theorem dX12_knows_17 : decode cX12_knows 17 = .ok (.putfield 68, 3) := by decide +kernel
theorem dX12_knows_20 : decode cX12_knows 20 = .ok (.iconst 0, 1) := by decide +kernel
theorem dX12_knows_21 : decode cX12_knows 21 = .ok (.istore_n 1, 1) := by decide +kernel
theorem dX12_knows_22 : decode cX12_knows 22 = .ok (.iload_n 1, 1) := by decide +kernel
theorem dX12_knows_23 : decode cX12_knows 23 = .ok (.ldc 58, 2) := by decide +kernel
theorem dX12_knows_25 : decode cX12_knows 25 = .ok (.if_icmp .ge 16, 3) := by decide +kernel
theorem dX12_knows_28 : decode cX12_knows 28 = .ok (.aload_n 0, 1) := by decide +kernel
theorem dX12_knows_29 : decode cX12_knows 29 = .ok (.getfield 59, 3) := by decide +kernel
theorem dX12_knows_32 : decode cX12_knows 32 = .ok (.iload_n 1, 1) := by decide +kernel
theorem dX12_knows_33 : decode cX12_knows 33 = .ok (.iconst 0, 1) := by decide +kernel
theorem dX12_knows_34 : decode cX12_knows 34 = .ok (.bastore, 1) := by decide +kernel
theorem dX12_knows_35 : decode cX12_knows 35 = .ok (.iinc 1 1, 3) := by decide +kernel
theorem dX12_knows_38 : decode cX12_knows 38 = .ok (.goto (-16), 3) := by decide +kernel
theorem dX12_knows_41 : decode cX12_knows 41 = .ok (.iconst 0, 1) := by decide +kernel
theorem dX12_knows_42 : decode cX12_knows 42 = .ok (.istore_n 1, 1) := by decide +kernel
theorem dX12_knows_43 : decode cX12_knows 43 = .ok (.iload_n 1, 1) := by decide +kernel
theorem dX12_knows_44 : decode cX12_knows 44 = .ok (.sipush 7920, 3) := by decide +kernel
theorem dX12_knows_47 : decode cX12_knows 47 = .ok (.if_icmp .ge 16, 3) := by decide +kernel
theorem dX12_knows_50 : decode cX12_knows 50 = .ok (.aload_n 0, 1) := by decide +kernel
theorem dX12_knows_51 : decode cX12_knows 51 = .ok (.getfield 62, 3) := by decide +kernel
theorem dX12_knows_54 : decode cX12_knows 54 = .ok (.iload_n 1, 1) := by decide +kernel
theorem dX12_knows_55 : decode cX12_knows 55 = .ok (.iconst 0, 1) := by decide +kernel
theorem dX12_knows_56 : decode cX12_knows 56 = .ok (.bastore, 1) := by decide +kernel
theorem dX12_knows_57 : decode cX12_knows 57 = .ok (.iinc 1 1, 3) := by decide +kernel
theorem dX12_knows_60 : decode cX12_knows 60 = .ok (.goto (-17), 3) := by decide +kernel
theorem dX12_knows_63 : decode cX12_knows 63 = .ok (.iconst 0, 1) := by decide +kernel
theorem dX12_knows_64 : decode cX12_knows 64 = .ok (.istore_n 1, 1) := by decide +kernel
theorem dX12_knows_65 : decode cX12_knows 65 = .ok (.iload_n 1, 1) := by decide +kernel
theorem dX12_knows_66 : decode cX12_knows 66 = .ok (.sipush 7200, 3) := by decide +kernel
theorem dX12_knows_69 : decode cX12_knows 69 = .ok (.if_icmp .ge 16, 3) := by decide +kernel
theorem dX12_knows_72 : decode cX12_knows 72 = .ok (.aload_n 0, 1) := by decide +kernel
theorem dX12_knows_73 : decode cX12_knows 73 = .ok (.getfield 65, 3) := by decide +kernel
theorem dX12_knows_76 : decode cX12_knows 76 = .ok (.iload_n 1, 1) := by decide +kernel
theorem dX12_knows_77 : decode cX12_knows 77 = .ok (.iconst 0, 1) := by decide +kernel
theorem dX12_knows_78 : decode cX12_knows 78 = .ok (.bastore, 1) := by decide +kernel
theorem dX12_knows_79 : decode cX12_knows 79 = .ok (.iinc 1 1, 3) := by decide +kernel
theorem dX12_knows_82 : decode cX12_knows 82 = .ok (.goto (-17), 3) := by decide +kernel
theorem dX12_knows_85 : decode cX12_knows 85 = .ok (.return_, 1) := by decide +kernel
set_option maxRecDepth 20000 in
theorem T_X12_knows_22 {Q : Option Value → ah_T → Prop} {h : ah_T} (hs : Sh h) (x1 : Int32) (ht : ((1123200 ≤ x1 → Wp mX12_knows Q 0 0 43 [some (.ref 82), some (.int 0)] [] h) ∧ (¬ 1123200 ≤ x1 → (vp_in x1 (ah_n h 95)) ∧ (∀ h7, h7 = ah_si h 95 (Int32.toNatClampNeg x1) (vp_nar .byte 0) → Wp mX12_knows Q 0 0 22 [some (.ref 82), some (.int (x1 + 1))] [] h7)))) : Wp mX12_knows Q 0 0 22 [some (.ref 82), some (.int x1)] [] h := by
  refine ab_iload_n (i := 1) dX12_knows_22 rfl rfl ?_
  refine ab_ldc (v := 1123200) (tb_6 (List.mem_of_getElem? (i := 218) (by decide +kernel)) rfl) dX12_knows_23 ?_
  refine ab_icmp_ge (tgt := 41) dX12_knows_25 (by decide) (fun c5 => ?_) (fun c5 => ?_)
  · have ht := ht.1 c5
    refine ab_iconst (v := 0) dX12_knows_41 (by decide) ?_
    refine ab_istore_n (i := 1) (L' := [some (.ref 82), some (.int 0)]) dX12_knows_42 rfl (by exact (Nat.le_of_ble_eq_true rfl)) rfl rfl ?_
    exact Wp.fewer (L' := [some (.ref 82), some (.int 0)]) (show ab_leL _ _ from ⟨rfl, ⟨rfl, trivial⟩⟩) ht
  · have ht := ht.2 c5
    refine ab_aload_n (i := 0) dX12_knows_28 rfl rfl ?_
    refine ab_getR (b := 95) f_X12_59 rfl (sh_k hs 82 12 (by decide) rfl) (sh_r hs 111 rfl) dX12_knows_29 ?_
    refine ab_iload_n (i := 1) dX12_knows_32 rfl rfl ?_
    refine ab_iconst (v := 0) dX12_knows_33 (by decide) ?_
    obtain ⟨hc6, ht⟩ := ht
    refine ab_bast (sh_k hs 95 13 (by decide) rfl) hc6 dX12_knows_34 ?_
    refine Wp.nm fun h7 e8 => ?_
    have ht := ht h7 e8
    have hs9 : Sh h7 := by rw [e8]; exact sh_si hs
    refine ab_iinc (i := 1) (x := x1) (v := (x1 + 1)) (L' := [some (.ref 82), some (.int (x1 + 1))]) dX12_knows_35 rfl rfl (by exact (Nat.le_of_ble_eq_true rfl)) rfl rfl ?_
    refine ab_goto (tgt := 22) dX12_knows_38 (by decide) ?_
    exact Wp.fewer (L' := [some (.ref 82), some (.int (x1 + 1))]) (show ab_leL _ _ from ⟨rfl, ⟨rfl, trivial⟩⟩) ht
set_option maxRecDepth 20000 in
theorem T_X12_knows_43 {Q : Option Value → ah_T → Prop} {h : ah_T} (hs : Sh h) (x1 : Int32) (ht : ((7920 ≤ x1 → Wp mX12_knows Q 0 0 65 [some (.ref 82), some (.int 0)] [] h) ∧ (¬ 7920 ≤ x1 → (vp_in x1 (ah_n h 96)) ∧ (∀ h12, h12 = ah_si h 96 (Int32.toNatClampNeg x1) (vp_nar .byte 0) → Wp mX12_knows Q 0 0 43 [some (.ref 82), some (.int (x1 + 1))] [] h12)))) : Wp mX12_knows Q 0 0 43 [some (.ref 82), some (.int x1)] [] h := by
  refine ab_iload_n (i := 1) dX12_knows_43 rfl rfl ?_
  refine ab_sipush (v := 7920) dX12_knows_44 (by decide) ?_
  refine ab_icmp_ge (tgt := 63) dX12_knows_47 (by decide) (fun c10 => ?_) (fun c10 => ?_)
  · have ht := ht.1 c10
    refine ab_iconst (v := 0) dX12_knows_63 (by decide) ?_
    refine ab_istore_n (i := 1) (L' := [some (.ref 82), some (.int 0)]) dX12_knows_64 rfl (by exact (Nat.le_of_ble_eq_true rfl)) rfl rfl ?_
    exact Wp.fewer (L' := [some (.ref 82), some (.int 0)]) (show ab_leL _ _ from ⟨rfl, ⟨rfl, trivial⟩⟩) ht
  · have ht := ht.2 c10
    refine ab_aload_n (i := 0) dX12_knows_50 rfl rfl ?_
    refine ab_getR (b := 96) f_X12_62 rfl (sh_k hs 82 12 (by decide) rfl) (sh_r hs 112 rfl) dX12_knows_51 ?_
    refine ab_iload_n (i := 1) dX12_knows_54 rfl rfl ?_
    refine ab_iconst (v := 0) dX12_knows_55 (by decide) ?_
    obtain ⟨hc11, ht⟩ := ht
    refine ab_bast (sh_k hs 96 13 (by decide) rfl) hc11 dX12_knows_56 ?_
    refine Wp.nm fun h12 e13 => ?_
    have ht := ht h12 e13
    have hs14 : Sh h12 := by rw [e13]; exact sh_si hs
    refine ab_iinc (i := 1) (x := x1) (v := (x1 + 1)) (L' := [some (.ref 82), some (.int (x1 + 1))]) dX12_knows_57 rfl rfl (by exact (Nat.le_of_ble_eq_true rfl)) rfl rfl ?_
    refine ab_goto (tgt := 43) dX12_knows_60 (by decide) ?_
    exact Wp.fewer (L' := [some (.ref 82), some (.int (x1 + 1))]) (show ab_leL _ _ from ⟨rfl, ⟨rfl, trivial⟩⟩) ht
set_option maxRecDepth 20000 in
theorem T_X12_knows_65 {Q : Option Value → ah_T → Prop} {h : ah_T} (hs : Sh h) (x1 : Int32) (ht : ((7200 ≤ x1 → Q none h) ∧ (¬ 7200 ≤ x1 → (vp_in x1 (ah_n h 97)) ∧ (∀ h17, h17 = ah_si h 97 (Int32.toNatClampNeg x1) (vp_nar .byte 0) → Wp mX12_knows Q 0 0 65 [some (.ref 82), some (.int (x1 + 1))] [] h17)))) : Wp mX12_knows Q 0 0 65 [some (.ref 82), some (.int x1)] [] h := by
  refine ab_iload_n (i := 1) dX12_knows_65 rfl rfl ?_
  refine ab_sipush (v := 7200) dX12_knows_66 (by decide) ?_
  refine ab_icmp_ge (tgt := 85) dX12_knows_69 (by decide) (fun c15 => ?_) (fun c15 => ?_)
  · have ht := ht.1 c15
    exact ab_vret rfl dX12_knows_85 (Nat.le_of_ble_eq_true rfl) (Nat.le_of_ble_eq_true rfl) ht
  · have ht := ht.2 c15
    refine ab_aload_n (i := 0) dX12_knows_72 rfl rfl ?_
    refine ab_getR (b := 97) f_X12_65 rfl (sh_k hs 82 12 (by decide) rfl) (sh_r hs 113 rfl) dX12_knows_73 ?_
    refine ab_iload_n (i := 1) dX12_knows_76 rfl rfl ?_
    refine ab_iconst (v := 0) dX12_knows_77 (by decide) ?_
    obtain ⟨hc16, ht⟩ := ht
    refine ab_bast (sh_k hs 97 13 (by decide) rfl) hc16 dX12_knows_78 ?_
    refine Wp.nm fun h17 e18 => ?_
    have ht := ht h17 e18
    have hs19 : Sh h17 := by rw [e18]; exact sh_si hs
    refine ab_iinc (i := 1) (x := x1) (v := (x1 + 1)) (L' := [some (.ref 82), some (.int (x1 + 1))]) dX12_knows_79 rfl rfl (by exact (Nat.le_of_ble_eq_true rfl)) rfl rfl ?_
    refine ab_goto (tgt := 65) dX12_knows_82 (by decide) ?_
    exact Wp.fewer (L' := [some (.ref 82), some (.int (x1 + 1))]) (show ab_leL _ _ from ⟨rfl, ⟨rfl, trivial⟩⟩) ht
set_option maxRecDepth 20000 in
theorem T_X12_knows {Q : Option Value → ah_T → Prop} {h : ah_T} (hs : Sh h)  (ht : ((¬ (ah_i h 82 29) = (ah_i h 82 1) → (∀ h2, h2 = ah_si h 82 29 (ah_i h 82 1) → Wp mX12_knows Q 0 0 22 [some (.ref 82), some (.int 0)] [] h2)) ∧ ((ah_i h 82 29) = (ah_i h 82 1) → Q none h))) : Mt mX12_knows [.ref 82] h Q := by
  refine Mt.ofWp rfl (by exact (Nat.le_of_ble_eq_true rfl)) (Wp.fewer (L' := [some (.ref 82), none]) (show ab_leL _ _ from ⟨rfl, trivial⟩) ?_)
  refine ab_aload_n (i := 0) dX12_knows_0 rfl rfl ?_
  refine ab_getI f_X12_68 rfl (sh_k hs 82 12 (by decide) rfl) dX12_knows_1 ?_
  refine ab_aload_n (i := 0) dX12_knows_4 rfl rfl ?_
  refine ab_getI f_X12_11 rfl (sh_k hs 82 12 (by decide) rfl) dX12_knows_5 ?_
  refine ab_icmp_ne (tgt := 12) dX12_knows_8 (by decide) (fun c1 => ?_) (fun c1 => ?_)
  · have ht := ht.1 c1
    refine ab_aload_n (i := 0) dX12_knows_12 rfl rfl ?_
    refine ab_aload_n (i := 0) dX12_knows_13 rfl rfl ?_
    refine ab_getI f_X12_11 rfl (sh_k hs 82 12 (by decide) rfl) dX12_knows_14 ?_
    refine ab_putI f_X12_68 (Or.inl rfl) rfl (sh_k hs 82 12 (by decide) rfl) rfl rfl dX12_knows_17 ?_
    refine Wp.nm fun h2 e3 => ?_
    have ht := ht h2 e3
    have hs4 : Sh h2 := by rw [e3]; exact sh_si hs
    refine ab_iconst (v := 0) dX12_knows_20 (by decide) ?_
    refine ab_istore_n (i := 1) (L' := [some (.ref 82), some (.int 0)]) dX12_knows_21 rfl (by exact (Nat.le_of_ble_eq_true rfl)) rfl rfl ?_
    exact Wp.fewer (L' := [some (.ref 82), some (.int 0)]) (show ab_leL _ _ from ⟨rfl, ⟨rfl, trivial⟩⟩) ht
  · have ht := ht.2 c1
    exact ab_vret rfl dX12_knows_11 (Nat.le_of_ble_eq_true rfl) (Nat.le_of_ble_eq_true rfl) ht
theorem dX12_doesShun_0 : decode cX12_doesShun 0 = .ok (.aload_n 0, 1) := by decide +kernel
theorem dX12_doesShun_1 : decode cX12_doesShun 1 = .ok (.invokevirtual 357, 3) := by decide +kernel
theorem dX12_doesShun_4 : decode cX12_doesShun 4 = .ok (.iload_n 1, 1) := by decide +kernel
theorem dX12_doesShun_5 : decode cX12_doesShun 5 = .ok (.bipush 6, 2) := by decide +kernel
theorem dX12_doesShun_7 : decode cX12_doesShun 7 = .ok (.imul, 1) := by decide +kernel
theorem dX12_doesShun_8 : decode cX12_doesShun 8 = .ok (.iload_n 2, 1) := by decide +kernel
theorem dX12_doesShun_9 : decode cX12_doesShun 9 = .ok (.iadd, 1) := by decide +kernel
theorem dX12_doesShun_10 : decode cX12_doesShun 10 = .ok (.bipush 6, 2) := by decide +kernel
theorem dX12_doesShun_12 : decode cX12_doesShun 12 = .ok (.imul, 1) := by decide +kernel
theorem dX12_doesShun_13 : decode cX12_doesShun 13 = .ok (.iload_n 3, 1) := by decide +kernel
theorem dX12_doesShun_14 : decode cX12_doesShun 14 = .ok (.iadd, 1) := by decide +kernel
theorem dX12_doesShun_15 : decode cX12_doesShun 15 = .ok (.bipush 13, 2) := by decide +kernel
theorem dX12_doesShun_17 : decode cX12_doesShun 17 = .ok (.imul, 1) := by decide +kernel
theorem dX12_doesShun_18 : decode cX12_doesShun 18 = .ok (.iload 4, 2) := by decide +kernel
theorem dX12_doesShun_20 : decode cX12_doesShun 20 = .ok (.iadd, 1) := by decide +kernel
theorem dX12_doesShun_21 : decode cX12_doesShun 21 = .ok (.iconst 1, 1) := by decide +kernel
theorem dX12_doesShun_22 : decode cX12_doesShun 22 = .ok (.iadd, 1) := by decide +kernel
theorem dX12_doesShun_23 : decode cX12_doesShun 23 = .ok (.iconst 2, 1) := by decide +kernel
theorem dX12_doesShun_24 : decode cX12_doesShun 24 = .ok (.imul, 1) := by decide +kernel
theorem dX12_doesShun_25 : decode cX12_doesShun 25 = .ok (.iload 5, 2) := by decide +kernel
theorem dX12_doesShun_27 : decode cX12_doesShun 27 = .ok (.iadd, 1) := by decide +kernel
theorem dX12_doesShun_28 : decode cX12_doesShun 28 = .ok (.bipush 120, 2) := by decide +kernel
theorem dX12_doesShun_30 : decode cX12_doesShun 30 = .ok (.imul, 1) := by decide +kernel
theorem dX12_doesShun_31 : decode cX12_doesShun 31 = .ok (.iload 6, 2) := by decide +kernel
theorem dX12_doesShun_33 : decode cX12_doesShun 33 = .ok (.iadd, 1) := by decide +kernel
theorem dX12_doesShun_34 : decode cX12_doesShun 34 = .ok (.istore 7, 2) := by decide +kernel
theorem dX12_doesShun_36 : decode cX12_doesShun 36 = .ok (.aload_n 0, 1) := by decide +kernel
theorem dX12_doesShun_37 : decode cX12_doesShun 37 = .ok (.getfield 59, 3) := by decide +kernel
theorem dX12_doesShun_40 : decode cX12_doesShun 40 = .ok (.iload 7, 2) := by decide +kernel
theorem dX12_doesShun_42 : decode cX12_doesShun 42 = .ok (.baload, 1) := by decide +kernel
theorem dX12_doesShun_43 : decode cX12_doesShun 43 = .ok (.ifCond .ne 86, 3) := by decide +kernel
theorem dX12_doesShun_46 : decode cX12_doesShun 46 = .ok (.aload_n 0, 1) := by decide +kernel
theorem dX12_doesShun_47 : decode cX12_doesShun 47 = .ok (.iload_n 1, 1) := by decide +kernel
theorem dX12_doesShun_48 : decode cX12_doesShun 48 = .ok (.iload_n 2, 1) := by decide +kernel
theorem dX12_doesShun_49 : decode cX12_doesShun 49 = .ok (.iload_n 3, 1) := by decide +kernel
theorem dX12_doesShun_50 : decode cX12_doesShun 50 = .ok (.iload 4, 2) := by decide +kernel
theorem dX12_doesShun_52 : decode cX12_doesShun 52 = .ok (.iload 5, 2) := by decide +kernel
theorem dX12_doesShun_54 : decode cX12_doesShun 54 = .ok (.iload 6, 2) := by decide +kernel
theorem dX12_doesShun_56 : decode cX12_doesShun 56 = .ok (.invokevirtual 360, 3) := by decide +kernel
theorem dX12_doesShun_59 : decode cX12_doesShun 59 = .ok (.aload_n 0, 1) := by decide +kernel
theorem dX12_doesShun_60 : decode cX12_doesShun 60 = .ok (.getfield 20, 3) := by decide +kernel
theorem dX12_doesShun_63 : decode cX12_doesShun 63 = .ok (.sipush 252, 3) := by decide +kernel
theorem dX12_doesShun_66 : decode cX12_doesShun 66 = .ok (.iaload, 1) := by decide +kernel
theorem dX12_doesShun_67 : decode cX12_doesShun 67 = .ok (.iconst (-1), 1) := by decide +kernel
theorem dX12_doesShun_68 : decode cX12_doesShun 68 = .ok (.if_icmp .ne 26, 3) := by decide +kernel
theorem dX12_doesShun_71 : decode cX12_doesShun 71 = .ok (.iload_n 2, 1) := by decide +kernel
theorem dX12_doesShun_72 : decode cX12_doesShun 72 = .ok (.iload_n 3, 1) := by decide +kernel
theorem dX12_doesShun_73 : decode cX12_doesShun 73 = .ok (.if_icmp .ne 17, 3) := by decide +kernel
theorem dX12_doesShun_76 : decode cX12_doesShun 76 = .ok (.iload 4, 2) := by decide +kernel
theorem dX12_doesShun_78 : decode cX12_doesShun 78 = .ok (.iconst 0, 1) := by decide +kernel
theorem dX12_doesShun_79 : decode cX12_doesShun 79 = .ok (.iconst 1, 1) := by decide +kernel
theorem dX12_doesShun_80 : decode cX12_doesShun 80 = .ok (.invokestatic 156, 3) := by decide +kernel
theorem dX12_doesShun_83 : decode cX12_doesShun 83 = .ok (.ifCond .eq 7, 3) := by decide +kernel
theorem dX12_doesShun_86 : decode cX12_doesShun 86 = .ok (.iconst 1, 1) := by decide +kernel
theorem dX12_doesShun_87 : decode cX12_doesShun 87 = .ok (.goto 22, 3) := by decide +kernel
theorem dX12_doesShun_90 : decode cX12_doesShun 90 = .ok (.iconst 0, 1) := by decide +kernel
theorem dX12_doesShun_91 : decode cX12_doesShun 91 = .ok (.goto 18, 3) := by decide +kernel
theorem dX12_doesShun_94 : decode cX12_doesShun 94 = .ok (.aload_n 0, 1) := by decide +kernel
theorem dX12_doesShun_95 : decode cX12_doesShun 95 = .ok (.iconst 1, 1) := by decide +kernel
theorem dX12_doesShun_96 : decode cX12_doesShun 96 = .ok (.iconst 0, 1) := by decide +kernel
theorem dX12_doesShun_97 : decode cX12_doesShun 97 = .ok (.invokevirtual 364, 3) := by decide +kernel
theorem dX12_doesShun_100 : decode cX12_doesShun 100 = .ok (.iconst 1, 1) := by decide +kernel
theorem dX12_doesShun_101 : decode cX12_doesShun 101 = .ok (.if_icmp .ne 7, 3) := by decide +kernel
theorem dX12_doesShun_104 : decode cX12_doesShun 104 = .ok (.iconst 1, 1) := by decide +kernel
theorem dX12_doesShun_105 : decode cX12_doesShun 105 = .ok (.goto 4, 3) := by decide +kernel
theorem dX12_doesShun_108 : decode cX12_doesShun 108 = .ok (.iconst 0, 1) := by decide +kernel
theorem dX12_doesShun_109 : decode cX12_doesShun 109 = .ok (.istore 8, 2) := by decide +kernel
theorem dX12_doesShun_111 : decode cX12_doesShun 111 = .ok (.aload_n 0, 1) := by decide +kernel
theorem dX12_doesShun_112 : decode cX12_doesShun 112 = .ok (.getfield 59, 3) := by decide +kernel
theorem dX12_doesShun_115 : decode cX12_doesShun 115 = .ok (.iload 7, 2) := by decide +kernel
theorem dX12_doesShun_117 : decode cX12_doesShun 117 = .ok (.iload 8, 2) := by decide +kernel
theorem dX12_doesShun_119 : decode cX12_doesShun 119 = .ok (.ifCond .eq 7, 3) := by decide +kernel
theorem dX12_doesShun_122 : decode cX12_doesShun 122 = .ok (.iconst 2, 1) := by decide +kernel
theorem dX12_doesShun_123 : decode cX12_doesShun 123 = .ok (.goto 4, 3) := by decide +kernel
theorem dX12_doesShun_126 : decode cX12_doesShun 126 = .ok (.iconst 1, 1) := by decide +kernel
theorem dX12_doesShun_127 : decode cX12_doesShun 127 = .ok (.i2b, 1) := by decide +kernel
theorem dX12_doesShun_128 : decode cX12_doesShun 128 = .ok (.bastore, 1) := by decide +kernel
theorem dX12_doesShun_129 : decode cX12_doesShun 129 = .ok (.aload_n 0, 1) := by decide +kernel
theorem dX12_doesShun_130 : decode cX12_doesShun 130 = .ok (.getfield 59, 3) := by decide +kernel
theorem dX12_doesShun_133 : decode cX12_doesShun 133 = .ok (.iload 7, 2) := by decide +kernel
theorem dX12_doesShun_135 : decode cX12_doesShun 135 = .ok (.baload, 1) := by decide +kernel
theorem dX12_doesShun_136 : decode cX12_doesShun 136 = .ok (.iconst 2, 1) := by decide +kernel
theorem dX12_doesShun_137 : decode cX12_doesShun 137 = .ok (.if_icmp .ne 7, 3) := by decide +kernel
theorem dX12_doesShun_140 : decode cX12_doesShun 140 = .ok (.iconst 1, 1) := by decide +kernel
theorem dX12_doesShun_141 : decode cX12_doesShun 141 = .ok (.goto 4, 3) := by decide +kernel
theorem dX12_doesShun_144 : decode cX12_doesShun 144 = .ok (.iconst 0, 1) := by decide +kernel
theorem dX12_doesShun_145 : decode cX12_doesShun 145 = .ok (.ireturn, 1) := by decide +kernel
set_option maxRecDepth 20000 in
theorem T_X12_doesShun {Q : Option Value → ah_T → Prop} {h : ah_T} (hs : Sh h) (x1 : Int32) (x2 : Int32) (x3 : Int32) (x4 : Int32) (x5 : Int32) (x6 : Int32) (ht : (Mt mX12_knows [.ref 82] h (ab_qv fun h1 => Sh h1 ∧ (vp_in (((((((((((x1 * 6) + x2) * 6) + x3) * 13) + x4) + 1) * 2) + x5) * 120) + x6) (ah_n h1 95)) ∧ ((¬ (ah_i h1 95 (Int32.toNatClampNeg (((((((((((x1 * 6) + x2) * 6) + x3) * 13) + x4) + 1) * 2) + x5) * 120) + x6))) = 0 → (vp_in (((((((((((x1 * 6) + x2) * 6) + x3) * 13) + x4) + 1) * 2) + x5) * 120) + x6) (ah_n h1 95)) ∧ ((¬ (ah_i h1 95 (Int32.toNatClampNeg (((((((((((x1 * 6) + x2) * 6) + x3) * 13) + x4) + 1) * 2) + x5) * 120) + x6))) = 2 → Q (some (.int 0)) h1) ∧ ((ah_i h1 95 (Int32.toNatClampNeg (((((((((((x1 * 6) + x2) * 6) + x3) * 13) + x4) + 1) * 2) + x5) * 120) + x6))) = 2 → Q (some (.int 1)) h1))) ∧ ((ah_i h1 95 (Int32.toNatClampNeg (((((((((((x1 * 6) + x2) * 6) + x3) * 13) + x4) + 1) * 2) + x5) * 120) + x6))) = 0 → (Mt mX12_sets [.ref 82, .int x1, .int x2, .int x3, .int x4, .int x5, .int x6] h1 (ab_qv fun h8 => Sh h8 ∧ ((¬ (ah_i h8 84 (Int32.toNatClampNeg 252)) = (-1) → (Mt mX12_tells [.ref 82, .int 1, .int 0] h8 (ab_qi fun v14 h12 => Sh h12 ∧ ((¬ v14 = 1 → (vp_in (((((((((((x1 * 6) + x2) * 6) + x3) * 13) + x4) + 1) * 2) + x5) * 120) + x6) (ah_n h12 95)) ∧ (∀ h17, h17 = ah_si h12 95 (Int32.toNatClampNeg (((((((((((x1 * 6) + x2) * 6) + x3) * 13) + x4) + 1) * 2) + x5) * 120) + x6)) (vp_nar .byte (((1 : Int32)).toInt8.toInt32)) → (vp_in (((((((((((x1 * 6) + x2) * 6) + x3) * 13) + x4) + 1) * 2) + x5) * 120) + x6) (ah_n h17 95)) ∧ ((¬ (ah_i h17 95 (Int32.toNatClampNeg (((((((((((x1 * 6) + x2) * 6) + x3) * 13) + x4) + 1) * 2) + x5) * 120) + x6))) = 2 → Q (some (.int 0)) h17) ∧ ((ah_i h17 95 (Int32.toNatClampNeg (((((((((((x1 * 6) + x2) * 6) + x3) * 13) + x4) + 1) * 2) + x5) * 120) + x6))) = 2 → Q (some (.int 1)) h17)))) ∧ (v14 = 1 → (vp_in (((((((((((x1 * 6) + x2) * 6) + x3) * 13) + x4) + 1) * 2) + x5) * 120) + x6) (ah_n h12 95)) ∧ (∀ h23, h23 = ah_si h12 95 (Int32.toNatClampNeg (((((((((((x1 * 6) + x2) * 6) + x3) * 13) + x4) + 1) * 2) + x5) * 120) + x6)) (vp_nar .byte (((2 : Int32)).toInt8.toInt32)) → (vp_in (((((((((((x1 * 6) + x2) * 6) + x3) * 13) + x4) + 1) * 2) + x5) * 120) + x6) (ah_n h23 95)) ∧ ((¬ (ah_i h23 95 (Int32.toNatClampNeg (((((((((((x1 * 6) + x2) * 6) + x3) * 13) + x4) + 1) * 2) + x5) * 120) + x6))) = 2 → Q (some (.int 0)) h23) ∧ ((ah_i h23 95 (Int32.toNatClampNeg (((((((((((x1 * 6) + x2) * 6) + x3) * 13) + x4) + 1) * 2) + x5) * 120) + x6))) = 2 → Q (some (.int 1)) h23)))))))) ∧ ((ah_i h8 84 (Int32.toNatClampNeg 252)) = (-1) → ((¬ x2 = x3 → (vp_in (((((((((((x1 * 6) + x2) * 6) + x3) * 13) + x4) + 1) * 2) + x5) * 120) + x6) (ah_n h8 95)) ∧ (∀ h30, h30 = ah_si h8 95 (Int32.toNatClampNeg (((((((((((x1 * 6) + x2) * 6) + x3) * 13) + x4) + 1) * 2) + x5) * 120) + x6)) (vp_nar .byte (((1 : Int32)).toInt8.toInt32)) → (vp_in (((((((((((x1 * 6) + x2) * 6) + x3) * 13) + x4) + 1) * 2) + x5) * 120) + x6) (ah_n h30 95)) ∧ ((¬ (ah_i h30 95 (Int32.toNatClampNeg (((((((((((x1 * 6) + x2) * 6) + x3) * 13) + x4) + 1) * 2) + x5) * 120) + x6))) = 2 → Q (some (.int 0)) h30) ∧ ((ah_i h30 95 (Int32.toNatClampNeg (((((((((((x1 * 6) + x2) * 6) + x3) * 13) + x4) + 1) * 2) + x5) * 120) + x6))) = 2 → Q (some (.int 1)) h30)))) ∧ (x2 = x3 → (((f_X12_lies x4 0 1) = 0 → (vp_in (((((((((((x1 * 6) + x2) * 6) + x3) * 13) + x4) + 1) * 2) + x5) * 120) + x6) (ah_n h8 95)) ∧ (∀ h37, h37 = ah_si h8 95 (Int32.toNatClampNeg (((((((((((x1 * 6) + x2) * 6) + x3) * 13) + x4) + 1) * 2) + x5) * 120) + x6)) (vp_nar .byte (((1 : Int32)).toInt8.toInt32)) → (vp_in (((((((((((x1 * 6) + x2) * 6) + x3) * 13) + x4) + 1) * 2) + x5) * 120) + x6) (ah_n h37 95)) ∧ ((¬ (ah_i h37 95 (Int32.toNatClampNeg (((((((((((x1 * 6) + x2) * 6) + x3) * 13) + x4) + 1) * 2) + x5) * 120) + x6))) = 2 → Q (some (.int 0)) h37) ∧ ((ah_i h37 95 (Int32.toNatClampNeg (((((((((((x1 * 6) + x2) * 6) + x3) * 13) + x4) + 1) * 2) + x5) * 120) + x6))) = 2 → Q (some (.int 1)) h37)))) ∧ (¬ (f_X12_lies x4 0 1) = 0 → (vp_in (((((((((((x1 * 6) + x2) * 6) + x3) * 13) + x4) + 1) * 2) + x5) * 120) + x6) (ah_n h8 95)) ∧ (∀ h43, h43 = ah_si h8 95 (Int32.toNatClampNeg (((((((((((x1 * 6) + x2) * 6) + x3) * 13) + x4) + 1) * 2) + x5) * 120) + x6)) (vp_nar .byte (((2 : Int32)).toInt8.toInt32)) → (vp_in (((((((((((x1 * 6) + x2) * 6) + x3) * 13) + x4) + 1) * 2) + x5) * 120) + x6) (ah_n h43 95)) ∧ ((¬ (ah_i h43 95 (Int32.toNatClampNeg (((((((((((x1 * 6) + x2) * 6) + x3) * 13) + x4) + 1) * 2) + x5) * 120) + x6))) = 2 → Q (some (.int 0)) h43) ∧ ((ah_i h43 95 (Int32.toNatClampNeg (((((((((((x1 * 6) + x2) * 6) + x3) * 13) + x4) + 1) * 2) + x5) * 120) + x6))) = 2 → Q (some (.int 1)) h43)))))))))))))))) : Mt mX12_doesShun [.ref 82, .int x1, .int x2, .int x3, .int x4, .int x5, .int x6] h Q := by
  refine Mt.ofWp rfl (by exact (Nat.le_of_ble_eq_true rfl)) (Wp.fewer (L' := [some (.ref 82), some (.int x1), some (.int x2), some (.int x3), some (.int x4), some (.int x5), some (.int x6), none, none]) (show ab_leL _ _ from ⟨rfl, ⟨rfl, ⟨rfl, ⟨rfl, ⟨rfl, ⟨rfl, ⟨rfl, trivial⟩⟩⟩⟩⟩⟩⟩) ?_)
  refine ab_aload_n (i := 0) dX12_doesShun_0 rfl rfl ?_
  refine ab_callV (b := 82) (As := []) ht (Y_X12_knows) l_X12_357 in_X12_knows se_X12_knows (sh_k hs 82 12 (by decide) rfl) (by decide) rfl rfl ⟨(Nat.le_of_ble_eq_true rfl), (Nat.le_of_ble_eq_true rfl), (Nat.le_of_ble_eq_true rfl), (Nat.le_of_ble_eq_true rfl)⟩ dX12_doesShun_1 ?_
  rintro _ h1 ⟨rfl, hs2, ht⟩
  refine ab_iload_n (i := 1) dX12_doesShun_4 rfl rfl ?_
  refine ab_bipush (v := 6) dX12_doesShun_5 (by decide) ?_
  refine ab_imul dX12_doesShun_7 ?_
  refine ab_iload_n (i := 2) dX12_doesShun_8 rfl rfl ?_
  refine ab_iadd dX12_doesShun_9 ?_
  refine ab_bipush (v := 6) dX12_doesShun_10 (by decide) ?_
  refine ab_imul dX12_doesShun_12 ?_
  refine ab_iload_n (i := 3) dX12_doesShun_13 rfl rfl ?_
  refine ab_iadd dX12_doesShun_14 ?_
  refine ab_bipush (v := 13) dX12_doesShun_15 (by decide) ?_
  refine ab_imul dX12_doesShun_17 ?_
  refine ab_iload (i := 4) dX12_doesShun_18 rfl ?_
  refine ab_iadd dX12_doesShun_20 ?_
  refine ab_iconst (v := 1) dX12_doesShun_21 (by decide) ?_
  refine ab_iadd dX12_doesShun_22 ?_
  refine ab_iconst (v := 2) dX12_doesShun_23 (by decide) ?_
  refine ab_imul dX12_doesShun_24 ?_
  refine ab_iload (i := 5) dX12_doesShun_25 rfl ?_
  refine ab_iadd dX12_doesShun_27 ?_
  refine ab_bipush (v := 120) dX12_doesShun_28 (by decide) ?_
  refine ab_imul dX12_doesShun_30 ?_
  refine ab_iload (i := 6) dX12_doesShun_31 rfl ?_
  refine ab_iadd dX12_doesShun_33 ?_
  refine ab_istore (i := 7) (L' := [some (.ref 82), some (.int x1), some (.int x2), some (.int x3), some (.int x4), some (.int x5), some (.int x6), some (.int (((((((((((x1 * 6) + x2) * 6) + x3) * 13) + x4) + 1) * 2) + x5) * 120) + x6)), none]) dX12_doesShun_34 (by exact (Nat.le_of_ble_eq_true rfl)) rfl rfl ?_
  refine ab_aload_n (i := 0) dX12_doesShun_36 rfl rfl ?_
  refine ab_getR (b := 95) f_X12_59 rfl (sh_k hs2 82 12 (by decide) rfl) (sh_r hs2 111 rfl) dX12_doesShun_37 ?_
  refine ab_iload (i := 7) dX12_doesShun_40 rfl ?_
  obtain ⟨hc4, ht⟩ := ht
  refine ab_bald (sh_k hs2 95 13 (by decide) rfl) hc4 dX12_doesShun_42 ?_
  refine ab_if_ne (tgt := 129) dX12_doesShun_43 (by decide) (fun c5 => ?_) (fun c5 => ?_)
  · have ht := ht.1 c5
    refine ab_aload_n (i := 0) dX12_doesShun_129 rfl rfl ?_
    refine ab_getR (b := 95) f_X12_59 rfl (sh_k hs2 82 12 (by decide) rfl) (sh_r hs2 111 rfl) dX12_doesShun_130 ?_
    refine ab_iload (i := 7) dX12_doesShun_133 rfl ?_
    obtain ⟨hc6, ht⟩ := ht
    refine ab_bald (sh_k hs2 95 13 (by decide) rfl) hc6 dX12_doesShun_135 ?_
    refine ab_iconst (v := 2) dX12_doesShun_136 (by decide) ?_
    refine ab_icmp_ne (tgt := 144) dX12_doesShun_137 (by decide) (fun c7 => ?_) (fun c7 => ?_)
    · have ht := ht.1 c7
      refine ab_iconst (v := 0) dX12_doesShun_144 (by decide) ?_
      exact ab_zret rfl rfl dX12_doesShun_145 (Nat.le_of_ble_eq_true rfl) (Nat.le_of_ble_eq_true rfl) ht
    · have ht := ht.2 c7
      refine ab_iconst (v := 1) dX12_doesShun_140 (by decide) ?_
      refine ab_goto (tgt := 145) dX12_doesShun_141 (by decide) ?_
      exact ab_zret rfl rfl dX12_doesShun_145 (Nat.le_of_ble_eq_true rfl) (Nat.le_of_ble_eq_true rfl) ht
  · have ht := ht.2 c5
    refine ab_aload_n (i := 0) dX12_doesShun_46 rfl rfl ?_
    refine ab_iload_n (i := 1) dX12_doesShun_47 rfl rfl ?_
    refine ab_iload_n (i := 2) dX12_doesShun_48 rfl rfl ?_
    refine ab_iload_n (i := 3) dX12_doesShun_49 rfl rfl ?_
    refine ab_iload (i := 4) dX12_doesShun_50 rfl ?_
    refine ab_iload (i := 5) dX12_doesShun_52 rfl ?_
    refine ab_iload (i := 6) dX12_doesShun_54 rfl ?_
    refine ab_callV (b := 82) (As := [.int x1, .int x2, .int x3, .int x4, .int x5, .int x6]) ht (Y_X12_sets) l_X12_360 in_X12_sets se_X12_sets (sh_k hs2 82 12 (by decide) rfl) (by decide) rfl rfl ⟨(Nat.le_of_ble_eq_true rfl), (Nat.le_of_ble_eq_true rfl), (Nat.le_of_ble_eq_true rfl), (Nat.le_of_ble_eq_true rfl)⟩ dX12_doesShun_56 ?_
    rintro _ h8 ⟨rfl, hs9, ht⟩
    refine ab_aload_n (i := 0) dX12_doesShun_59 rfl rfl ?_
    refine ab_getR (b := 84) f_X12_20 rfl (sh_k hs9 82 12 (by decide) rfl) (sh_r hs9 100 rfl) dX12_doesShun_60 ?_
    refine ab_sipush (v := 252) dX12_doesShun_63 (by decide) ?_
    refine ab_iald (sh_k hs9 84 14 (by decide) rfl) (sh_in hs9 84 5860 (by decide) (by decide) rfl (by unfold vp_in; decide)) dX12_doesShun_66 ?_
    refine ab_iconst (v := (-1)) dX12_doesShun_67 (by decide) ?_
    refine ab_icmp_ne (tgt := 94) dX12_doesShun_68 (by decide) (fun c11 => ?_) (fun c11 => ?_)
    · have ht := ht.1 c11
      refine ab_aload_n (i := 0) dX12_doesShun_94 rfl rfl ?_
      refine ab_iconst (v := 1) dX12_doesShun_95 (by decide) ?_
      refine ab_iconst (v := 0) dX12_doesShun_96 (by decide) ?_
      refine ab_callV (b := 82) (As := [.int 1, .int 0]) ht (Y_X12_tells) l_X12_364 in_X12_tells se_X12_tells (sh_k hs9 82 12 (by decide) rfl) (by decide) rfl rfl ⟨(Nat.le_of_ble_eq_true rfl), (Nat.le_of_ble_eq_true rfl), (Nat.le_of_ble_eq_true rfl), (Nat.le_of_ble_eq_true rfl)⟩ dX12_doesShun_97 ?_
      rintro _ h12 ⟨v14, rfl, hs13, ht⟩
      refine ab_iconst (v := 1) dX12_doesShun_100 (by decide) ?_
      refine ab_icmp_ne (tgt := 108) dX12_doesShun_101 (by decide) (fun c15 => ?_) (fun c15 => ?_)
      · have ht := ht.1 c15
        refine ab_iconst (v := 0) dX12_doesShun_108 (by decide) ?_
        refine ab_istore (i := 8) (L' := [some (.ref 82), some (.int x1), some (.int x2), some (.int x3), some (.int x4), some (.int x5), some (.int x6), some (.int (((((((((((x1 * 6) + x2) * 6) + x3) * 13) + x4) + 1) * 2) + x5) * 120) + x6)), some (.int 0)]) dX12_doesShun_109 (by exact (Nat.le_of_ble_eq_true rfl)) rfl rfl ?_
        refine ab_aload_n (i := 0) dX12_doesShun_111 rfl rfl ?_
        refine ab_getR (b := 95) f_X12_59 rfl (sh_k hs13 82 12 (by decide) rfl) (sh_r hs13 111 rfl) dX12_doesShun_112 ?_
        refine ab_iload (i := 7) dX12_doesShun_115 rfl ?_
        refine ab_iload (i := 8) dX12_doesShun_117 rfl ?_
        refine ab_if_eq (tgt := 126) dX12_doesShun_119 (by decide) (fun _ => ?_) (fun q => absurd (by decide) q)
        refine ab_iconst (v := 1) dX12_doesShun_126 (by decide) ?_
        refine ab_i2b dX12_doesShun_127 ?_
        obtain ⟨hc16, ht⟩ := ht
        refine ab_bast (sh_k hs13 95 13 (by decide) rfl) hc16 dX12_doesShun_128 ?_
        refine Wp.nm fun h17 e18 => ?_
        have ht := ht h17 e18
        have hs19 : Sh h17 := by rw [e18]; exact sh_si hs13
        refine ab_aload_n (i := 0) dX12_doesShun_129 rfl rfl ?_
        refine ab_getR (b := 95) f_X12_59 rfl (sh_k hs19 82 12 (by decide) rfl) (sh_r hs19 111 rfl) dX12_doesShun_130 ?_
        refine ab_iload (i := 7) dX12_doesShun_133 rfl ?_
        obtain ⟨hc20, ht⟩ := ht
        refine ab_bald (sh_k hs19 95 13 (by decide) rfl) hc20 dX12_doesShun_135 ?_
        refine ab_iconst (v := 2) dX12_doesShun_136 (by decide) ?_
        refine ab_icmp_ne (tgt := 144) dX12_doesShun_137 (by decide) (fun c21 => ?_) (fun c21 => ?_)
        · have ht := ht.1 c21
          refine ab_iconst (v := 0) dX12_doesShun_144 (by decide) ?_
          exact ab_zret rfl rfl dX12_doesShun_145 (Nat.le_of_ble_eq_true rfl) (Nat.le_of_ble_eq_true rfl) ht
        · have ht := ht.2 c21
          refine ab_iconst (v := 1) dX12_doesShun_140 (by decide) ?_
          refine ab_goto (tgt := 145) dX12_doesShun_141 (by decide) ?_
          exact ab_zret rfl rfl dX12_doesShun_145 (Nat.le_of_ble_eq_true rfl) (Nat.le_of_ble_eq_true rfl) ht
      · have ht := ht.2 c15
        refine ab_iconst (v := 1) dX12_doesShun_104 (by decide) ?_
        refine ab_goto (tgt := 109) dX12_doesShun_105 (by decide) ?_
        refine ab_istore (i := 8) (L' := [some (.ref 82), some (.int x1), some (.int x2), some (.int x3), some (.int x4), some (.int x5), some (.int x6), some (.int (((((((((((x1 * 6) + x2) * 6) + x3) * 13) + x4) + 1) * 2) + x5) * 120) + x6)), some (.int 1)]) dX12_doesShun_109 (by exact (Nat.le_of_ble_eq_true rfl)) rfl rfl ?_
        refine ab_aload_n (i := 0) dX12_doesShun_111 rfl rfl ?_
        refine ab_getR (b := 95) f_X12_59 rfl (sh_k hs13 82 12 (by decide) rfl) (sh_r hs13 111 rfl) dX12_doesShun_112 ?_
        refine ab_iload (i := 7) dX12_doesShun_115 rfl ?_
        refine ab_iload (i := 8) dX12_doesShun_117 rfl ?_
        refine ab_if_eq (tgt := 126) dX12_doesShun_119 (by decide) (fun q => absurd q (by decide)) (fun _ => ?_)
        refine ab_iconst (v := 2) dX12_doesShun_122 (by decide) ?_
        refine ab_goto (tgt := 127) dX12_doesShun_123 (by decide) ?_
        refine ab_i2b dX12_doesShun_127 ?_
        obtain ⟨hc22, ht⟩ := ht
        refine ab_bast (sh_k hs13 95 13 (by decide) rfl) hc22 dX12_doesShun_128 ?_
        refine Wp.nm fun h23 e24 => ?_
        have ht := ht h23 e24
        have hs25 : Sh h23 := by rw [e24]; exact sh_si hs13
        refine ab_aload_n (i := 0) dX12_doesShun_129 rfl rfl ?_
        refine ab_getR (b := 95) f_X12_59 rfl (sh_k hs25 82 12 (by decide) rfl) (sh_r hs25 111 rfl) dX12_doesShun_130 ?_
        refine ab_iload (i := 7) dX12_doesShun_133 rfl ?_
        obtain ⟨hc26, ht⟩ := ht
        refine ab_bald (sh_k hs25 95 13 (by decide) rfl) hc26 dX12_doesShun_135 ?_
        refine ab_iconst (v := 2) dX12_doesShun_136 (by decide) ?_
        refine ab_icmp_ne (tgt := 144) dX12_doesShun_137 (by decide) (fun c27 => ?_) (fun c27 => ?_)
        · have ht := ht.1 c27
          refine ab_iconst (v := 0) dX12_doesShun_144 (by decide) ?_
          exact ab_zret rfl rfl dX12_doesShun_145 (Nat.le_of_ble_eq_true rfl) (Nat.le_of_ble_eq_true rfl) ht
        · have ht := ht.2 c27
          refine ab_iconst (v := 1) dX12_doesShun_140 (by decide) ?_
          refine ab_goto (tgt := 145) dX12_doesShun_141 (by decide) ?_
          exact ab_zret rfl rfl dX12_doesShun_145 (Nat.le_of_ble_eq_true rfl) (Nat.le_of_ble_eq_true rfl) ht
    · have ht := ht.2 c11
      refine ab_iload_n (i := 2) dX12_doesShun_71 rfl rfl ?_
      refine ab_iload_n (i := 3) dX12_doesShun_72 rfl rfl ?_
      refine ab_icmp_ne (tgt := 90) dX12_doesShun_73 (by decide) (fun c28 => ?_) (fun c28 => ?_)
      · have ht := ht.1 c28
        refine ab_iconst (v := 0) dX12_doesShun_90 (by decide) ?_
        refine ab_goto (tgt := 109) dX12_doesShun_91 (by decide) ?_
        refine ab_istore (i := 8) (L' := [some (.ref 82), some (.int x1), some (.int x2), some (.int x3), some (.int x4), some (.int x5), some (.int x6), some (.int (((((((((((x1 * 6) + x2) * 6) + x3) * 13) + x4) + 1) * 2) + x5) * 120) + x6)), some (.int 0)]) dX12_doesShun_109 (by exact (Nat.le_of_ble_eq_true rfl)) rfl rfl ?_
        refine ab_aload_n (i := 0) dX12_doesShun_111 rfl rfl ?_
        refine ab_getR (b := 95) f_X12_59 rfl (sh_k hs9 82 12 (by decide) rfl) (sh_r hs9 111 rfl) dX12_doesShun_112 ?_
        refine ab_iload (i := 7) dX12_doesShun_115 rfl ?_
        refine ab_iload (i := 8) dX12_doesShun_117 rfl ?_
        refine ab_if_eq (tgt := 126) dX12_doesShun_119 (by decide) (fun _ => ?_) (fun q => absurd (by decide) q)
        refine ab_iconst (v := 1) dX12_doesShun_126 (by decide) ?_
        refine ab_i2b dX12_doesShun_127 ?_
        obtain ⟨hc29, ht⟩ := ht
        refine ab_bast (sh_k hs9 95 13 (by decide) rfl) hc29 dX12_doesShun_128 ?_
        refine Wp.nm fun h30 e31 => ?_
        have ht := ht h30 e31
        have hs32 : Sh h30 := by rw [e31]; exact sh_si hs9
        refine ab_aload_n (i := 0) dX12_doesShun_129 rfl rfl ?_
        refine ab_getR (b := 95) f_X12_59 rfl (sh_k hs32 82 12 (by decide) rfl) (sh_r hs32 111 rfl) dX12_doesShun_130 ?_
        refine ab_iload (i := 7) dX12_doesShun_133 rfl ?_
        obtain ⟨hc33, ht⟩ := ht
        refine ab_bald (sh_k hs32 95 13 (by decide) rfl) hc33 dX12_doesShun_135 ?_
        refine ab_iconst (v := 2) dX12_doesShun_136 (by decide) ?_
        refine ab_icmp_ne (tgt := 144) dX12_doesShun_137 (by decide) (fun c34 => ?_) (fun c34 => ?_)
        · have ht := ht.1 c34
          refine ab_iconst (v := 0) dX12_doesShun_144 (by decide) ?_
          exact ab_zret rfl rfl dX12_doesShun_145 (Nat.le_of_ble_eq_true rfl) (Nat.le_of_ble_eq_true rfl) ht
        · have ht := ht.2 c34
          refine ab_iconst (v := 1) dX12_doesShun_140 (by decide) ?_
          refine ab_goto (tgt := 145) dX12_doesShun_141 (by decide) ?_
          exact ab_zret rfl rfl dX12_doesShun_145 (Nat.le_of_ble_eq_true rfl) (Nat.le_of_ble_eq_true rfl) ht
      · have ht := ht.2 c28
        refine ab_iload (i := 4) dX12_doesShun_76 rfl ?_
        refine ab_iconst (v := 0) dX12_doesShun_78 (by decide) ?_
        refine ab_iconst (v := 1) dX12_doesShun_79 (by decide) ?_
        refine ab_callS (Q' := fun r h' => r = some (.int (f_X12_lies x4 0 1)) ∧ h8 = h') (As := [.int x4, .int 0, .int 1]) (c_X12_lies hs9 x4 0 1 ⟨rfl, rfl⟩) (Y_X12_lies) l_X12_156 st_X12_lies rfl ⟨(Nat.le_of_ble_eq_true rfl), (Nat.le_of_ble_eq_true rfl), (Nat.le_of_ble_eq_true rfl), (Nat.le_of_ble_eq_true rfl)⟩ dX12_doesShun_80 ?_
        rintro _ _ ⟨rfl, rfl⟩
        refine ab_if_eq (tgt := 90) dX12_doesShun_83 (by decide) (fun c35 => ?_) (fun c35 => ?_)
        · have ht := ht.1 c35
          refine ab_iconst (v := 0) dX12_doesShun_90 (by decide) ?_
          refine ab_goto (tgt := 109) dX12_doesShun_91 (by decide) ?_
          refine ab_istore (i := 8) (L' := [some (.ref 82), some (.int x1), some (.int x2), some (.int x3), some (.int x4), some (.int x5), some (.int x6), some (.int (((((((((((x1 * 6) + x2) * 6) + x3) * 13) + x4) + 1) * 2) + x5) * 120) + x6)), some (.int 0)]) dX12_doesShun_109 (by exact (Nat.le_of_ble_eq_true rfl)) rfl rfl ?_
          refine ab_aload_n (i := 0) dX12_doesShun_111 rfl rfl ?_
          refine ab_getR (b := 95) f_X12_59 rfl (sh_k hs9 82 12 (by decide) rfl) (sh_r hs9 111 rfl) dX12_doesShun_112 ?_
          refine ab_iload (i := 7) dX12_doesShun_115 rfl ?_
          refine ab_iload (i := 8) dX12_doesShun_117 rfl ?_
          refine ab_if_eq (tgt := 126) dX12_doesShun_119 (by decide) (fun _ => ?_) (fun q => absurd (by decide) q)
          refine ab_iconst (v := 1) dX12_doesShun_126 (by decide) ?_
          refine ab_i2b dX12_doesShun_127 ?_
          obtain ⟨hc36, ht⟩ := ht
          refine ab_bast (sh_k hs9 95 13 (by decide) rfl) hc36 dX12_doesShun_128 ?_
          refine Wp.nm fun h37 e38 => ?_
          have ht := ht h37 e38
          have hs39 : Sh h37 := by rw [e38]; exact sh_si hs9
          refine ab_aload_n (i := 0) dX12_doesShun_129 rfl rfl ?_
          refine ab_getR (b := 95) f_X12_59 rfl (sh_k hs39 82 12 (by decide) rfl) (sh_r hs39 111 rfl) dX12_doesShun_130 ?_
          refine ab_iload (i := 7) dX12_doesShun_133 rfl ?_
          obtain ⟨hc40, ht⟩ := ht
          refine ab_bald (sh_k hs39 95 13 (by decide) rfl) hc40 dX12_doesShun_135 ?_
          refine ab_iconst (v := 2) dX12_doesShun_136 (by decide) ?_
          refine ab_icmp_ne (tgt := 144) dX12_doesShun_137 (by decide) (fun c41 => ?_) (fun c41 => ?_)
          · have ht := ht.1 c41
            refine ab_iconst (v := 0) dX12_doesShun_144 (by decide) ?_
            exact ab_zret rfl rfl dX12_doesShun_145 (Nat.le_of_ble_eq_true rfl) (Nat.le_of_ble_eq_true rfl) ht
          · have ht := ht.2 c41
            refine ab_iconst (v := 1) dX12_doesShun_140 (by decide) ?_
            refine ab_goto (tgt := 145) dX12_doesShun_141 (by decide) ?_
            exact ab_zret rfl rfl dX12_doesShun_145 (Nat.le_of_ble_eq_true rfl) (Nat.le_of_ble_eq_true rfl) ht
        · have ht := ht.2 c35
          refine ab_iconst (v := 1) dX12_doesShun_86 (by decide) ?_
          refine ab_goto (tgt := 109) dX12_doesShun_87 (by decide) ?_
          refine ab_istore (i := 8) (L' := [some (.ref 82), some (.int x1), some (.int x2), some (.int x3), some (.int x4), some (.int x5), some (.int x6), some (.int (((((((((((x1 * 6) + x2) * 6) + x3) * 13) + x4) + 1) * 2) + x5) * 120) + x6)), some (.int 1)]) dX12_doesShun_109 (by exact (Nat.le_of_ble_eq_true rfl)) rfl rfl ?_
          refine ab_aload_n (i := 0) dX12_doesShun_111 rfl rfl ?_
          refine ab_getR (b := 95) f_X12_59 rfl (sh_k hs9 82 12 (by decide) rfl) (sh_r hs9 111 rfl) dX12_doesShun_112 ?_
          refine ab_iload (i := 7) dX12_doesShun_115 rfl ?_
          refine ab_iload (i := 8) dX12_doesShun_117 rfl ?_
          refine ab_if_eq (tgt := 126) dX12_doesShun_119 (by decide) (fun q => absurd q (by decide)) (fun _ => ?_)
          refine ab_iconst (v := 2) dX12_doesShun_122 (by decide) ?_
          refine ab_goto (tgt := 127) dX12_doesShun_123 (by decide) ?_
          refine ab_i2b dX12_doesShun_127 ?_
          obtain ⟨hc42, ht⟩ := ht
          refine ab_bast (sh_k hs9 95 13 (by decide) rfl) hc42 dX12_doesShun_128 ?_
          refine Wp.nm fun h43 e44 => ?_
          have ht := ht h43 e44
          have hs45 : Sh h43 := by rw [e44]; exact sh_si hs9
          refine ab_aload_n (i := 0) dX12_doesShun_129 rfl rfl ?_
          refine ab_getR (b := 95) f_X12_59 rfl (sh_k hs45 82 12 (by decide) rfl) (sh_r hs45 111 rfl) dX12_doesShun_130 ?_
          refine ab_iload (i := 7) dX12_doesShun_133 rfl ?_
          obtain ⟨hc46, ht⟩ := ht
          refine ab_bald (sh_k hs45 95 13 (by decide) rfl) hc46 dX12_doesShun_135 ?_
          refine ab_iconst (v := 2) dX12_doesShun_136 (by decide) ?_
          refine ab_icmp_ne (tgt := 144) dX12_doesShun_137 (by decide) (fun c47 => ?_) (fun c47 => ?_)
          · have ht := ht.1 c47
            refine ab_iconst (v := 0) dX12_doesShun_144 (by decide) ?_
            exact ab_zret rfl rfl dX12_doesShun_145 (Nat.le_of_ble_eq_true rfl) (Nat.le_of_ble_eq_true rfl) ht
          · have ht := ht.2 c47
            refine ab_iconst (v := 1) dX12_doesShun_140 (by decide) ?_
            refine ab_goto (tgt := 145) dX12_doesShun_141 (by decide) ?_
            exact ab_zret rfl rfl dX12_doesShun_145 (Nat.le_of_ble_eq_true rfl) (Nat.le_of_ble_eq_true rfl) ht
theorem dX12_reachOf_0 : decode cX12_reachOf 0 = .ok (.aload_n 0, 1) := by decide +kernel
theorem dX12_reachOf_1 : decode cX12_reachOf 1 = .ok (.invokevirtual 357, 3) := by decide +kernel
theorem dX12_reachOf_4 : decode cX12_reachOf 4 = .ok (.iload_n 1, 1) := by decide +kernel
theorem dX12_reachOf_5 : decode cX12_reachOf 5 = .ok (.iconst 1, 1) := by decide +kernel
theorem dX12_reachOf_6 : decode cX12_reachOf 6 = .ok (.iadd, 1) := by decide +kernel
theorem dX12_reachOf_7 : decode cX12_reachOf 7 = .ok (.bipush 6, 2) := by decide +kernel
theorem dX12_reachOf_9 : decode cX12_reachOf 9 = .ok (.imul, 1) := by decide +kernel
theorem dX12_reachOf_10 : decode cX12_reachOf 10 = .ok (.iload_n 2, 1) := by decide +kernel
theorem dX12_reachOf_11 : decode cX12_reachOf 11 = .ok (.iadd, 1) := by decide +kernel
theorem dX12_reachOf_12 : decode cX12_reachOf 12 = .ok (.bipush 120, 2) := by decide +kernel
theorem dX12_reachOf_14 : decode cX12_reachOf 14 = .ok (.imul, 1) := by decide +kernel
theorem dX12_reachOf_15 : decode cX12_reachOf 15 = .ok (.iload_n 3, 1) := by decide +kernel
theorem dX12_reachOf_16 : decode cX12_reachOf 16 = .ok (.iadd, 1) := by decide +kernel
theorem dX12_reachOf_17 : decode cX12_reachOf 17 = .ok (.istore 4, 2) := by decide +kernel
theorem dX12_reachOf_19 : decode cX12_reachOf 19 = .ok (.aload_n 0, 1) := by decide +kernel
theorem dX12_reachOf_20 : decode cX12_reachOf 20 = .ok (.getfield 62, 3) := by decide +kernel
theorem dX12_reachOf_23 : decode cX12_reachOf 23 = .ok (.iload 4, 2) := by decide +kernel
theorem dX12_reachOf_25 : decode cX12_reachOf 25 = .ok (.baload, 1) := by decide +kernel
theorem dX12_reachOf_26 : decode cX12_reachOf 26 = .ok (.ifCond .ne 29, 3) := by decide +kernel
theorem dX12_reachOf_29 : decode cX12_reachOf 29 = .ok (.aload_n 0, 1) := by decide +kernel
theorem dX12_reachOf_30 : decode cX12_reachOf 30 = .ok (.iload_n 1, 1) := by decide +kernel
theorem dX12_reachOf_31 : decode cX12_reachOf 31 = .ok (.iload_n 2, 1) := by decide +kernel
theorem dX12_reachOf_32 : decode cX12_reachOf 32 = .ok (.iconst (-1), 1) := by decide +kernel
theorem dX12_reachOf_33 : decode cX12_reachOf 33 = .ok (.iconst (-1), 1) := by decide +kernel
theorem dX12_reachOf_34 : decode cX12_reachOf 34 = .ok (.iconst (-1), 1) := by decide +kernel
theorem dX12_reachOf_35 : decode cX12_reachOf 35 = .ok (.iload_n 3, 1) := by decide +kernel
theorem dX12_reachOf_36 : decode cX12_reachOf 36 = .ok (.invokevirtual 360, 3) := by decide +kernel
theorem dX12_reachOf_39 : decode cX12_reachOf 39 = .ok (.aload_n 0, 1) := by decide +kernel
theorem dX12_reachOf_40 : decode cX12_reachOf 40 = .ok (.getfield 62, 3) := by decide +kernel
theorem dX12_reachOf_43 : decode cX12_reachOf 43 = .ok (.iload 4, 2) := by decide +kernel
theorem dX12_reachOf_45 : decode cX12_reachOf 45 = .ok (.iconst 1, 1) := by decide +kernel
theorem dX12_reachOf_46 : decode cX12_reachOf 46 = .ok (.aload_n 0, 1) := by decide +kernel
theorem dX12_reachOf_47 : decode cX12_reachOf 47 = .ok (.iconst 2, 1) := by decide +kernel
theorem dX12_reachOf_48 : decode cX12_reachOf 48 = .ok (.iconst 1, 1) := by decide +kernel
theorem dX12_reachOf_49 : decode cX12_reachOf 49 = .ok (.invokevirtual 364, 3) := by decide +kernel
theorem dX12_reachOf_52 : decode cX12_reachOf 52 = .ok (.iadd, 1) := by decide +kernel
theorem dX12_reachOf_53 : decode cX12_reachOf 53 = .ok (.i2b, 1) := by decide +kernel
theorem dX12_reachOf_54 : decode cX12_reachOf 54 = .ok (.bastore, 1) := by decide +kernel
theorem dX12_reachOf_55 : decode cX12_reachOf 55 = .ok (.aload_n 0, 1) := by decide +kernel
theorem dX12_reachOf_56 : decode cX12_reachOf 56 = .ok (.getfield 62, 3) := by decide +kernel
theorem dX12_reachOf_59 : decode cX12_reachOf 59 = .ok (.iload 4, 2) := by decide +kernel
theorem dX12_reachOf_61 : decode cX12_reachOf 61 = .ok (.baload, 1) := by decide +kernel
theorem dX12_reachOf_62 : decode cX12_reachOf 62 = .ok (.iconst 1, 1) := by decide +kernel
theorem dX12_reachOf_63 : decode cX12_reachOf 63 = .ok (.isub, 1) := by decide +kernel
theorem dX12_reachOf_64 : decode cX12_reachOf 64 = .ok (.ireturn, 1) := by decide +kernel
set_option maxRecDepth 20000 in
theorem T_X12_reachOf {Q : Option Value → ah_T → Prop} {h : ah_T} (hs : Sh h) (x1 : Int32) (x2 : Int32) (x3 : Int32) (ht : (Mt mX12_knows [.ref 82] h (ab_qv fun h1 => Sh h1 ∧ (vp_in (((((x1 + 1) * 6) + x2) * 120) + x3) (ah_n h1 96)) ∧ ((¬ (ah_i h1 96 (Int32.toNatClampNeg (((((x1 + 1) * 6) + x2) * 120) + x3))) = 0 → (vp_in (((((x1 + 1) * 6) + x2) * 120) + x3) (ah_n h1 96)) ∧ Q (some (.int ((ah_i h1 96 (Int32.toNatClampNeg (((((x1 + 1) * 6) + x2) * 120) + x3))) - 1))) h1) ∧ ((ah_i h1 96 (Int32.toNatClampNeg (((((x1 + 1) * 6) + x2) * 120) + x3))) = 0 → (Mt mX12_sets [.ref 82, .int x1, .int x2, .int (-1), .int (-1), .int (-1), .int x3] h1 (ab_qv fun h7 => Sh h7 ∧ (Mt mX12_tells [.ref 82, .int 2, .int 1] h7 (ab_qi fun v12 h10 => Sh h10 ∧ (vp_in (((((x1 + 1) * 6) + x2) * 120) + x3) (ah_n h10 96)) ∧ (∀ h14, h14 = ah_si h10 96 (Int32.toNatClampNeg (((((x1 + 1) * 6) + x2) * 120) + x3)) (vp_nar .byte (((1 + v12)).toInt8.toInt32)) → (vp_in (((((x1 + 1) * 6) + x2) * 120) + x3) (ah_n h14 96)) ∧ Q (some (.int ((ah_i h14 96 (Int32.toNatClampNeg (((((x1 + 1) * 6) + x2) * 120) + x3))) - 1))) h14)))))))))) : Mt mX12_reachOf [.ref 82, .int x1, .int x2, .int x3] h Q := by
  refine Mt.ofWp rfl (by exact (Nat.le_of_ble_eq_true rfl)) (Wp.fewer (L' := [some (.ref 82), some (.int x1), some (.int x2), some (.int x3), none]) (show ab_leL _ _ from ⟨rfl, ⟨rfl, ⟨rfl, ⟨rfl, trivial⟩⟩⟩⟩) ?_)
  refine ab_aload_n (i := 0) dX12_reachOf_0 rfl rfl ?_
  refine ab_callV (b := 82) (As := []) ht (Y_X12_knows) l_X12_357 in_X12_knows se_X12_knows (sh_k hs 82 12 (by decide) rfl) (by decide) rfl rfl ⟨(Nat.le_of_ble_eq_true rfl), (Nat.le_of_ble_eq_true rfl), (Nat.le_of_ble_eq_true rfl), (Nat.le_of_ble_eq_true rfl)⟩ dX12_reachOf_1 ?_
  rintro _ h1 ⟨rfl, hs2, ht⟩
  refine ab_iload_n (i := 1) dX12_reachOf_4 rfl rfl ?_
  refine ab_iconst (v := 1) dX12_reachOf_5 (by decide) ?_
  refine ab_iadd dX12_reachOf_6 ?_
  refine ab_bipush (v := 6) dX12_reachOf_7 (by decide) ?_
  refine ab_imul dX12_reachOf_9 ?_
  refine ab_iload_n (i := 2) dX12_reachOf_10 rfl rfl ?_
  refine ab_iadd dX12_reachOf_11 ?_
  refine ab_bipush (v := 120) dX12_reachOf_12 (by decide) ?_
  refine ab_imul dX12_reachOf_14 ?_
  refine ab_iload_n (i := 3) dX12_reachOf_15 rfl rfl ?_
  refine ab_iadd dX12_reachOf_16 ?_
  refine ab_istore (i := 4) (L' := [some (.ref 82), some (.int x1), some (.int x2), some (.int x3), some (.int (((((x1 + 1) * 6) + x2) * 120) + x3))]) dX12_reachOf_17 (by exact (Nat.le_of_ble_eq_true rfl)) rfl rfl ?_
  refine ab_aload_n (i := 0) dX12_reachOf_19 rfl rfl ?_
  refine ab_getR (b := 96) f_X12_62 rfl (sh_k hs2 82 12 (by decide) rfl) (sh_r hs2 112 rfl) dX12_reachOf_20 ?_
  refine ab_iload (i := 4) dX12_reachOf_23 rfl ?_
  obtain ⟨hc4, ht⟩ := ht
  refine ab_bald (sh_k hs2 96 13 (by decide) rfl) hc4 dX12_reachOf_25 ?_
  refine ab_if_ne (tgt := 55) dX12_reachOf_26 (by decide) (fun c5 => ?_) (fun c5 => ?_)
  · have ht := ht.1 c5
    refine ab_aload_n (i := 0) dX12_reachOf_55 rfl rfl ?_
    refine ab_getR (b := 96) f_X12_62 rfl (sh_k hs2 82 12 (by decide) rfl) (sh_r hs2 112 rfl) dX12_reachOf_56 ?_
    refine ab_iload (i := 4) dX12_reachOf_59 rfl ?_
    obtain ⟨hc6, ht⟩ := ht
    refine ab_bald (sh_k hs2 96 13 (by decide) rfl) hc6 dX12_reachOf_61 ?_
    refine ab_iconst (v := 1) dX12_reachOf_62 (by decide) ?_
    refine ab_isub dX12_reachOf_63 ?_
    exact ab_iret rfl dX12_reachOf_64 (Nat.le_of_ble_eq_true rfl) (Nat.le_of_ble_eq_true rfl) ht
  · have ht := ht.2 c5
    refine ab_aload_n (i := 0) dX12_reachOf_29 rfl rfl ?_
    refine ab_iload_n (i := 1) dX12_reachOf_30 rfl rfl ?_
    refine ab_iload_n (i := 2) dX12_reachOf_31 rfl rfl ?_
    refine ab_iconst (v := (-1)) dX12_reachOf_32 (by decide) ?_
    refine ab_iconst (v := (-1)) dX12_reachOf_33 (by decide) ?_
    refine ab_iconst (v := (-1)) dX12_reachOf_34 (by decide) ?_
    refine ab_iload_n (i := 3) dX12_reachOf_35 rfl rfl ?_
    refine ab_callV (b := 82) (As := [.int x1, .int x2, .int (-1), .int (-1), .int (-1), .int x3]) ht (Y_X12_sets) l_X12_360 in_X12_sets se_X12_sets (sh_k hs2 82 12 (by decide) rfl) (by decide) rfl rfl ⟨(Nat.le_of_ble_eq_true rfl), (Nat.le_of_ble_eq_true rfl), (Nat.le_of_ble_eq_true rfl), (Nat.le_of_ble_eq_true rfl)⟩ dX12_reachOf_36 ?_
    rintro _ h7 ⟨rfl, hs8, ht⟩
    refine ab_aload_n (i := 0) dX12_reachOf_39 rfl rfl ?_
    refine ab_getR (b := 96) f_X12_62 rfl (sh_k hs8 82 12 (by decide) rfl) (sh_r hs8 112 rfl) dX12_reachOf_40 ?_
    refine ab_iload (i := 4) dX12_reachOf_43 rfl ?_
    refine ab_iconst (v := 1) dX12_reachOf_45 (by decide) ?_
    refine ab_aload_n (i := 0) dX12_reachOf_46 rfl rfl ?_
    refine ab_iconst (v := 2) dX12_reachOf_47 (by decide) ?_
    refine ab_iconst (v := 1) dX12_reachOf_48 (by decide) ?_
    refine ab_callV (b := 82) (As := [.int 2, .int 1]) ht (Y_X12_tells) l_X12_364 in_X12_tells se_X12_tells (sh_k hs8 82 12 (by decide) rfl) (by decide) rfl rfl ⟨(Nat.le_of_ble_eq_true rfl), (Nat.le_of_ble_eq_true rfl), (Nat.le_of_ble_eq_true rfl), (Nat.le_of_ble_eq_true rfl)⟩ dX12_reachOf_49 ?_
    rintro _ h10 ⟨v12, rfl, hs11, ht⟩
    refine ab_iadd dX12_reachOf_52 ?_
    refine ab_i2b dX12_reachOf_53 ?_
    obtain ⟨hc13, ht⟩ := ht
    refine ab_bast (sh_k hs11 96 13 (by decide) rfl) hc13 dX12_reachOf_54 ?_
    refine Wp.nm fun h14 e15 => ?_
    have ht := ht h14 e15
    have hs16 : Sh h14 := by rw [e15]; exact sh_si hs11
    refine ab_aload_n (i := 0) dX12_reachOf_55 rfl rfl ?_
    refine ab_getR (b := 96) f_X12_62 rfl (sh_k hs16 82 12 (by decide) rfl) (sh_r hs16 112 rfl) dX12_reachOf_56 ?_
    refine ab_iload (i := 4) dX12_reachOf_59 rfl ?_
    obtain ⟨hc17, ht⟩ := ht
    refine ab_bald (sh_k hs16 96 13 (by decide) rfl) hc17 dX12_reachOf_61 ?_
    refine ab_iconst (v := 1) dX12_reachOf_62 (by decide) ?_
    refine ab_isub dX12_reachOf_63 ?_
    exact ab_iret rfl dX12_reachOf_64 (Nat.le_of_ble_eq_true rfl) (Nat.le_of_ble_eq_true rfl) ht
theorem dX12_drinkOf_0 : decode cX12_drinkOf 0 = .ok (.aload_n 0, 1) := by decide +kernel
theorem dX12_drinkOf_1 : decode cX12_drinkOf 1 = .ok (.invokevirtual 357, 3) := by decide +kernel
theorem dX12_drinkOf_4 : decode cX12_drinkOf 4 = .ok (.iload_n 1, 1) := by decide +kernel
theorem dX12_drinkOf_5 : decode cX12_drinkOf 5 = .ok (.bipush 6, 2) := by decide +kernel
theorem dX12_drinkOf_7 : decode cX12_drinkOf 7 = .ok (.imul, 1) := by decide +kernel
theorem dX12_drinkOf_8 : decode cX12_drinkOf 8 = .ok (.iload_n 2, 1) := by decide +kernel
theorem dX12_drinkOf_9 : decode cX12_drinkOf 9 = .ok (.iadd, 1) := by decide +kernel
theorem dX12_drinkOf_10 : decode cX12_drinkOf 10 = .ok (.bipush 120, 2) := by decide +kernel
theorem dX12_drinkOf_12 : decode cX12_drinkOf 12 = .ok (.imul, 1) := by decide +kernel
theorem dX12_drinkOf_13 : decode cX12_drinkOf 13 = .ok (.iload_n 3, 1) := by decide +kernel
theorem dX12_drinkOf_14 : decode cX12_drinkOf 14 = .ok (.iadd, 1) := by decide +kernel
theorem dX12_drinkOf_15 : decode cX12_drinkOf 15 = .ok (.istore 4, 2) := by decide +kernel
theorem dX12_drinkOf_17 : decode cX12_drinkOf 17 = .ok (.aload_n 0, 1) := by decide +kernel
theorem dX12_drinkOf_18 : decode cX12_drinkOf 18 = .ok (.getfield 65, 3) := by decide +kernel
theorem dX12_drinkOf_21 : decode cX12_drinkOf 21 = .ok (.iload 4, 2) := by decide +kernel
theorem dX12_drinkOf_23 : decode cX12_drinkOf 23 = .ok (.baload, 1) := by decide +kernel
theorem dX12_drinkOf_24 : decode cX12_drinkOf 24 = .ok (.ifCond .ne 29, 3) := by decide +kernel
theorem dX12_drinkOf_27 : decode cX12_drinkOf 27 = .ok (.aload_n 0, 1) := by decide +kernel
theorem dX12_drinkOf_28 : decode cX12_drinkOf 28 = .ok (.iload_n 1, 1) := by decide +kernel
theorem dX12_drinkOf_29 : decode cX12_drinkOf 29 = .ok (.iload_n 2, 1) := by decide +kernel
theorem dX12_drinkOf_30 : decode cX12_drinkOf 30 = .ok (.iconst (-1), 1) := by decide +kernel
theorem dX12_drinkOf_31 : decode cX12_drinkOf 31 = .ok (.iconst (-1), 1) := by decide +kernel
theorem dX12_drinkOf_32 : decode cX12_drinkOf 32 = .ok (.iconst (-1), 1) := by decide +kernel
theorem dX12_drinkOf_33 : decode cX12_drinkOf 33 = .ok (.iload_n 3, 1) := by decide +kernel
theorem dX12_drinkOf_34 : decode cX12_drinkOf 34 = .ok (.invokevirtual 360, 3) := by decide +kernel
theorem dX12_drinkOf_37 : decode cX12_drinkOf 37 = .ok (.aload_n 0, 1) := by decide +kernel
theorem dX12_drinkOf_38 : decode cX12_drinkOf 38 = .ok (.getfield 65, 3) := by decide +kernel
theorem dX12_drinkOf_41 : decode cX12_drinkOf 41 = .ok (.iload 4, 2) := by decide +kernel
theorem dX12_drinkOf_43 : decode cX12_drinkOf 43 = .ok (.iconst 1, 1) := by decide +kernel
theorem dX12_drinkOf_44 : decode cX12_drinkOf 44 = .ok (.aload_n 0, 1) := by decide +kernel
theorem dX12_drinkOf_45 : decode cX12_drinkOf 45 = .ok (.iconst 3, 1) := by decide +kernel
theorem dX12_drinkOf_46 : decode cX12_drinkOf 46 = .ok (.iconst 1, 1) := by decide +kernel
theorem dX12_drinkOf_47 : decode cX12_drinkOf 47 = .ok (.invokevirtual 364, 3) := by decide +kernel
theorem dX12_drinkOf_50 : decode cX12_drinkOf 50 = .ok (.iadd, 1) := by decide +kernel
theorem dX12_drinkOf_51 : decode cX12_drinkOf 51 = .ok (.i2b, 1) := by decide +kernel
theorem dX12_drinkOf_52 : decode cX12_drinkOf 52 = .ok (.bastore, 1) := by decide +kernel
theorem dX12_drinkOf_53 : decode cX12_drinkOf 53 = .ok (.aload_n 0, 1) := by decide +kernel
theorem dX12_drinkOf_54 : decode cX12_drinkOf 54 = .ok (.getfield 65, 3) := by decide +kernel
theorem dX12_drinkOf_57 : decode cX12_drinkOf 57 = .ok (.iload 4, 2) := by decide +kernel
theorem dX12_drinkOf_59 : decode cX12_drinkOf 59 = .ok (.baload, 1) := by decide +kernel
theorem dX12_drinkOf_60 : decode cX12_drinkOf 60 = .ok (.iconst 1, 1) := by decide +kernel
theorem dX12_drinkOf_61 : decode cX12_drinkOf 61 = .ok (.isub, 1) := by decide +kernel
theorem dX12_drinkOf_62 : decode cX12_drinkOf 62 = .ok (.ireturn, 1) := by decide +kernel
set_option maxRecDepth 20000 in
theorem T_X12_drinkOf {Q : Option Value → ah_T → Prop} {h : ah_T} (hs : Sh h) (x1 : Int32) (x2 : Int32) (x3 : Int32) (ht : (Mt mX12_knows [.ref 82] h (ab_qv fun h1 => Sh h1 ∧ (vp_in ((((x1 * 6) + x2) * 120) + x3) (ah_n h1 97)) ∧ ((¬ (ah_i h1 97 (Int32.toNatClampNeg ((((x1 * 6) + x2) * 120) + x3))) = 0 → (vp_in ((((x1 * 6) + x2) * 120) + x3) (ah_n h1 97)) ∧ Q (some (.int ((ah_i h1 97 (Int32.toNatClampNeg ((((x1 * 6) + x2) * 120) + x3))) - 1))) h1) ∧ ((ah_i h1 97 (Int32.toNatClampNeg ((((x1 * 6) + x2) * 120) + x3))) = 0 → (Mt mX12_sets [.ref 82, .int x1, .int x2, .int (-1), .int (-1), .int (-1), .int x3] h1 (ab_qv fun h7 => Sh h7 ∧ (Mt mX12_tells [.ref 82, .int 3, .int 1] h7 (ab_qi fun v12 h10 => Sh h10 ∧ (vp_in ((((x1 * 6) + x2) * 120) + x3) (ah_n h10 97)) ∧ (∀ h14, h14 = ah_si h10 97 (Int32.toNatClampNeg ((((x1 * 6) + x2) * 120) + x3)) (vp_nar .byte (((1 + v12)).toInt8.toInt32)) → (vp_in ((((x1 * 6) + x2) * 120) + x3) (ah_n h14 97)) ∧ Q (some (.int ((ah_i h14 97 (Int32.toNatClampNeg ((((x1 * 6) + x2) * 120) + x3))) - 1))) h14)))))))))) : Mt mX12_drinkOf [.ref 82, .int x1, .int x2, .int x3] h Q := by
  refine Mt.ofWp rfl (by exact (Nat.le_of_ble_eq_true rfl)) (Wp.fewer (L' := [some (.ref 82), some (.int x1), some (.int x2), some (.int x3), none]) (show ab_leL _ _ from ⟨rfl, ⟨rfl, ⟨rfl, ⟨rfl, trivial⟩⟩⟩⟩) ?_)
  refine ab_aload_n (i := 0) dX12_drinkOf_0 rfl rfl ?_
  refine ab_callV (b := 82) (As := []) ht (Y_X12_knows) l_X12_357 in_X12_knows se_X12_knows (sh_k hs 82 12 (by decide) rfl) (by decide) rfl rfl ⟨(Nat.le_of_ble_eq_true rfl), (Nat.le_of_ble_eq_true rfl), (Nat.le_of_ble_eq_true rfl), (Nat.le_of_ble_eq_true rfl)⟩ dX12_drinkOf_1 ?_
  rintro _ h1 ⟨rfl, hs2, ht⟩
  refine ab_iload_n (i := 1) dX12_drinkOf_4 rfl rfl ?_
  refine ab_bipush (v := 6) dX12_drinkOf_5 (by decide) ?_
  refine ab_imul dX12_drinkOf_7 ?_
  refine ab_iload_n (i := 2) dX12_drinkOf_8 rfl rfl ?_
  refine ab_iadd dX12_drinkOf_9 ?_
  refine ab_bipush (v := 120) dX12_drinkOf_10 (by decide) ?_
  refine ab_imul dX12_drinkOf_12 ?_
  refine ab_iload_n (i := 3) dX12_drinkOf_13 rfl rfl ?_
  refine ab_iadd dX12_drinkOf_14 ?_
  refine ab_istore (i := 4) (L' := [some (.ref 82), some (.int x1), some (.int x2), some (.int x3), some (.int ((((x1 * 6) + x2) * 120) + x3))]) dX12_drinkOf_15 (by exact (Nat.le_of_ble_eq_true rfl)) rfl rfl ?_
  refine ab_aload_n (i := 0) dX12_drinkOf_17 rfl rfl ?_
  refine ab_getR (b := 97) f_X12_65 rfl (sh_k hs2 82 12 (by decide) rfl) (sh_r hs2 113 rfl) dX12_drinkOf_18 ?_
  refine ab_iload (i := 4) dX12_drinkOf_21 rfl ?_
  obtain ⟨hc4, ht⟩ := ht
  refine ab_bald (sh_k hs2 97 13 (by decide) rfl) hc4 dX12_drinkOf_23 ?_
  refine ab_if_ne (tgt := 53) dX12_drinkOf_24 (by decide) (fun c5 => ?_) (fun c5 => ?_)
  · have ht := ht.1 c5
    refine ab_aload_n (i := 0) dX12_drinkOf_53 rfl rfl ?_
    refine ab_getR (b := 97) f_X12_65 rfl (sh_k hs2 82 12 (by decide) rfl) (sh_r hs2 113 rfl) dX12_drinkOf_54 ?_
    refine ab_iload (i := 4) dX12_drinkOf_57 rfl ?_
    obtain ⟨hc6, ht⟩ := ht
    refine ab_bald (sh_k hs2 97 13 (by decide) rfl) hc6 dX12_drinkOf_59 ?_
    refine ab_iconst (v := 1) dX12_drinkOf_60 (by decide) ?_
    refine ab_isub dX12_drinkOf_61 ?_
    exact ab_iret rfl dX12_drinkOf_62 (Nat.le_of_ble_eq_true rfl) (Nat.le_of_ble_eq_true rfl) ht
  · have ht := ht.2 c5
    refine ab_aload_n (i := 0) dX12_drinkOf_27 rfl rfl ?_
    refine ab_iload_n (i := 1) dX12_drinkOf_28 rfl rfl ?_
    refine ab_iload_n (i := 2) dX12_drinkOf_29 rfl rfl ?_
    refine ab_iconst (v := (-1)) dX12_drinkOf_30 (by decide) ?_
    refine ab_iconst (v := (-1)) dX12_drinkOf_31 (by decide) ?_
    refine ab_iconst (v := (-1)) dX12_drinkOf_32 (by decide) ?_
    refine ab_iload_n (i := 3) dX12_drinkOf_33 rfl rfl ?_
    refine ab_callV (b := 82) (As := [.int x1, .int x2, .int (-1), .int (-1), .int (-1), .int x3]) ht (Y_X12_sets) l_X12_360 in_X12_sets se_X12_sets (sh_k hs2 82 12 (by decide) rfl) (by decide) rfl rfl ⟨(Nat.le_of_ble_eq_true rfl), (Nat.le_of_ble_eq_true rfl), (Nat.le_of_ble_eq_true rfl), (Nat.le_of_ble_eq_true rfl)⟩ dX12_drinkOf_34 ?_
    rintro _ h7 ⟨rfl, hs8, ht⟩
    refine ab_aload_n (i := 0) dX12_drinkOf_37 rfl rfl ?_
    refine ab_getR (b := 97) f_X12_65 rfl (sh_k hs8 82 12 (by decide) rfl) (sh_r hs8 113 rfl) dX12_drinkOf_38 ?_
    refine ab_iload (i := 4) dX12_drinkOf_41 rfl ?_
    refine ab_iconst (v := 1) dX12_drinkOf_43 (by decide) ?_
    refine ab_aload_n (i := 0) dX12_drinkOf_44 rfl rfl ?_
    refine ab_iconst (v := 3) dX12_drinkOf_45 (by decide) ?_
    refine ab_iconst (v := 1) dX12_drinkOf_46 (by decide) ?_
    refine ab_callV (b := 82) (As := [.int 3, .int 1]) ht (Y_X12_tells) l_X12_364 in_X12_tells se_X12_tells (sh_k hs8 82 12 (by decide) rfl) (by decide) rfl rfl ⟨(Nat.le_of_ble_eq_true rfl), (Nat.le_of_ble_eq_true rfl), (Nat.le_of_ble_eq_true rfl), (Nat.le_of_ble_eq_true rfl)⟩ dX12_drinkOf_47 ?_
    rintro _ h10 ⟨v12, rfl, hs11, ht⟩
    refine ab_iadd dX12_drinkOf_50 ?_
    refine ab_i2b dX12_drinkOf_51 ?_
    obtain ⟨hc13, ht⟩ := ht
    refine ab_bast (sh_k hs11 97 13 (by decide) rfl) hc13 dX12_drinkOf_52 ?_
    refine Wp.nm fun h14 e15 => ?_
    have ht := ht h14 e15
    have hs16 : Sh h14 := by rw [e15]; exact sh_si hs11
    refine ab_aload_n (i := 0) dX12_drinkOf_53 rfl rfl ?_
    refine ab_getR (b := 97) f_X12_65 rfl (sh_k hs16 82 12 (by decide) rfl) (sh_r hs16 113 rfl) dX12_drinkOf_54 ?_
    refine ab_iload (i := 4) dX12_drinkOf_57 rfl ?_
    obtain ⟨hc17, ht⟩ := ht
    refine ab_bald (sh_k hs16 97 13 (by decide) rfl) hc17 dX12_drinkOf_59 ?_
    refine ab_iconst (v := 1) dX12_drinkOf_60 (by decide) ?_
    refine ab_isub dX12_drinkOf_61 ?_
    exact ab_iret rfl dX12_drinkOf_62 (Nat.le_of_ble_eq_true rfl) (Nat.le_of_ble_eq_true rfl) ht
theorem dX12_measures_0 : decode cX12_measures 0 = .ok (.iconst 0, 1) := by decide +kernel
theorem dX12_measures_1 : decode cX12_measures 1 = .ok (.istore_n 3, 1) := by decide +kernel
theorem dX12_measures_2 : decode cX12_measures 2 = .ok (.iload_n 3, 1) := by decide +kernel
theorem dX12_measures_3 : decode cX12_measures 3 = .ok (.sipush 144, 3) := by decide +kernel
theorem dX12_measures_6 : decode cX12_measures 6 = .ok (.if_icmp .ge 29, 3) := by decide +kernel
theorem dX12_measures_9 : decode cX12_measures 9 = .ok (.aload_n 1, 1) := by decide +kernel
theorem dX12_measures_10 : decode cX12_measures 10 = .ok (.iload_n 3, 1) := by decide +kernel
theorem dX12_measures_11 : decode cX12_measures 11 = .ok (.iload_n 3, 1) := by decide +kernel
theorem dX12_measures_12 : decode cX12_measures 12 = .ok (.bipush 12, 2) := by decide +kernel
theorem dX12_measures_14 : decode cX12_measures 14 = .ok (.idiv, 1) := by decide +kernel
theorem dX12_measures_15 : decode cX12_measures 15 = .ok (.iload_n 3, 1) := by decide +kernel
theorem dX12_measures_16 : decode cX12_measures 16 = .ok (.bipush 12, 2) := by decide +kernel
theorem dX12_measures_18 : decode cX12_measures 18 = .ok (.irem, 1) := by decide +kernel
theorem dX12_measures_19 : decode cX12_measures 19 = .ok (.if_icmp .ne 7, 3) := by decide +kernel
theorem dX12_measures_22 : decode cX12_measures 22 = .ok (.iconst 0, 1) := by decide +kernel
theorem dX12_measures_23 : decode cX12_measures 23 = .ok (.goto 5, 3) := by decide +kernel
theorem dX12_measures_26 : decode cX12_measures 26 = .ok (.ldc 232, 2) := by decide +kernel
theorem dX12_measures_28 : decode cX12_measures 28 = .ok (.iastore, 1) := by decide +kernel
theorem dX12_measures_29 : decode cX12_measures 29 = .ok (.iinc 3 1, 3) := by decide +kernel
theorem dX12_measures_32 : decode cX12_measures 32 = .ok (.goto (-30), 3) := by decide +kernel
theorem dX12_measures_35 : decode cX12_measures 35 = .ok (.iconst 0, 1) := by decide +kernel
theorem dX12_measures_36 : decode cX12_measures 36 = .ok (.istore_n 3, 1) := by decide +kernel
theorem dX12_measures_37 : decode cX12_measures 37 = .ok (.iload_n 3, 1) := by decide +kernel
theorem dX12_measures_38 : decode cX12_measures 38 = .ok (.aload_n 0, 1) := by decide +kernel
theorem dX12_measures_39 : decode cX12_measures 39 = .ok (.getfield 20, 3) := by decide +kernel
theorem dX12_measures_42 : decode cX12_measures 42 = .ok (.sipush 245, 3) := by decide +kernel
theorem dX12_measures_45 : decode cX12_measures 45 = .ok (.iaload, 1) := by decide +kernel
theorem dX12_measures_46 : decode cX12_measures 46 = .ok (.if_icmp .ge 78, 3) := by decide +kernel
theorem dX12_measures_49 : decode cX12_measures 49 = .ok (.iload_n 2, 1) := by decide +kernel
theorem dX12_measures_50 : decode cX12_measures 50 = .ok (.iload_n 3, 1) := by decide +kernel
theorem dX12_measures_51 : decode cX12_measures 51 = .ok (.invokestatic 367, 3) := by decide +kernel
theorem dX12_measures_54 : decode cX12_measures 54 = .ok (.ifCond .eq 6, 3) := by decide +kernel
theorem dX12_measures_57 : decode cX12_measures 57 = .ok (.goto 61, 3) := by decide +kernel
theorem dX12_measures_60 : decode cX12_measures 60 = .ok (.aload_n 1, 1) := by decide +kernel
theorem dX12_measures_61 : decode cX12_measures 61 = .ok (.bipush 12, 2) := by decide +kernel
theorem dX12_measures_63 : decode cX12_measures 63 = .ok (.aload_n 0, 1) := by decide +kernel
theorem dX12_measures_64 : decode cX12_measures 64 = .ok (.getfield 20, 3) := by decide +kernel
theorem dX12_measures_67 : decode cX12_measures 67 = .ok (.iconst 0, 1) := by decide +kernel
theorem dX12_measures_68 : decode cX12_measures 68 = .ok (.iconst 3, 1) := by decide +kernel
theorem dX12_measures_69 : decode cX12_measures 69 = .ok (.iload_n 3, 1) := by decide +kernel
theorem dX12_measures_70 : decode cX12_measures 70 = .ok (.imul, 1) := by decide +kernel
theorem dX12_measures_71 : decode cX12_measures 71 = .ok (.iadd, 1) := by decide +kernel
theorem dX12_measures_72 : decode cX12_measures 72 = .ok (.iaload, 1) := by decide +kernel
theorem dX12_measures_73 : decode cX12_measures 73 = .ok (.imul, 1) := by decide +kernel
theorem dX12_measures_74 : decode cX12_measures 74 = .ok (.aload_n 0, 1) := by decide +kernel
theorem dX12_measures_75 : decode cX12_measures 75 = .ok (.getfield 20, 3) := by decide +kernel
theorem dX12_measures_78 : decode cX12_measures 78 = .ok (.iconst 0, 1) := by decide +kernel
theorem dX12_measures_79 : decode cX12_measures 79 = .ok (.iconst 3, 1) := by decide +kernel
theorem dX12_measures_80 : decode cX12_measures 80 = .ok (.iload_n 3, 1) := by decide +kernel
theorem dX12_measures_81 : decode cX12_measures 81 = .ok (.imul, 1) := by decide +kernel
theorem dX12_measures_82 : decode cX12_measures 82 = .ok (.iadd, 1) := by decide +kernel
theorem dX12_measures_83 : decode cX12_measures 83 = .ok (.iconst 1, 1) := by decide +kernel
theorem dX12_measures_84 : decode cX12_measures 84 = .ok (.iadd, 1) := by decide +kernel
theorem dX12_measures_85 : decode cX12_measures 85 = .ok (.iaload, 1) := by decide +kernel
theorem dX12_measures_86 : decode cX12_measures 86 = .ok (.iadd, 1) := by decide +kernel
theorem dX12_measures_87 : decode cX12_measures 87 = .ok (.iconst 1, 1) := by decide +kernel
theorem dX12_measures_88 : decode cX12_measures 88 = .ok (.iastore, 1) := by decide +kernel
theorem dX12_measures_89 : decode cX12_measures 89 = .ok (.aload_n 1, 1) := by decide +kernel
theorem dX12_measures_90 : decode cX12_measures 90 = .ok (.bipush 12, 2) := by decide +kernel
theorem dX12_measures_92 : decode cX12_measures 92 = .ok (.aload_n 0, 1) := by decide +kernel
theorem dX12_measures_93 : decode cX12_measures 93 = .ok (.getfield 20, 3) := by decide +kernel
theorem dX12_measures_96 : decode cX12_measures 96 = .ok (.iconst 0, 1) := by decide +kernel
theorem dX12_measures_97 : decode cX12_measures 97 = .ok (.iconst 3, 1) := by decide +kernel
theorem dX12_measures_98 : decode cX12_measures 98 = .ok (.iload_n 3, 1) := by decide +kernel
theorem dX12_measures_99 : decode cX12_measures 99 = .ok (.imul, 1) := by decide +kernel
theorem dX12_measures_100 : decode cX12_measures 100 = .ok (.iadd, 1) := by decide +kernel
theorem dX12_measures_101 : decode cX12_measures 101 = .ok (.iconst 1, 1) := by decide +kernel
theorem dX12_measures_102 : decode cX12_measures 102 = .ok (.iadd, 1) := by decide +kernel
theorem dX12_measures_103 : decode cX12_measures 103 = .ok (.iaload, 1) := by decide +kernel
theorem dX12_measures_104 : decode cX12_measures 104 = .ok (.imul, 1) := by decide +kernel
theorem dX12_measures_105 : decode cX12_measures 105 = .ok (.aload_n 0, 1) := by decide +kernel
theorem dX12_measures_106 : decode cX12_measures 106 = .ok (.getfield 20, 3) := by decide +kernel
theorem dX12_measures_109 : decode cX12_measures 109 = .ok (.iconst 0, 1) := by decide +kernel
theorem dX12_measures_110 : decode cX12_measures 110 = .ok (.iconst 3, 1) := by decide +kernel
theorem dX12_measures_111 : decode cX12_measures 111 = .ok (.iload_n 3, 1) := by decide +kernel
theorem dX12_measures_112 : decode cX12_measures 112 = .ok (.imul, 1) := by decide +kernel
theorem dX12_measures_113 : decode cX12_measures 113 = .ok (.iadd, 1) := by decide +kernel
theorem dX12_measures_114 : decode cX12_measures 114 = .ok (.iaload, 1) := by decide +kernel
theorem dX12_measures_115 : decode cX12_measures 115 = .ok (.iadd, 1) := by decide +kernel
theorem dX12_measures_116 : decode cX12_measures 116 = .ok (.iconst 1, 1) := by decide +kernel
theorem dX12_measures_117 : decode cX12_measures 117 = .ok (.iastore, 1) := by decide +kernel
theorem dX12_measures_118 : decode cX12_measures 118 = .ok (.iinc 3 1, 3) := by decide +kernel
theorem dX12_measures_121 : decode cX12_measures 121 = .ok (.goto (-84), 3) := by decide +kernel
theorem dX12_measures_124 : decode cX12_measures 124 = .ok (.iconst 0, 1) := by decide +kernel
theorem dX12_measures_125 : decode cX12_measures 125 = .ok (.istore_n 3, 1) := by decide +kernel
theorem dX12_measures_126 : decode cX12_measures 126 = .ok (.iload_n 3, 1) := by decide +kernel
theorem dX12_measures_127 : decode cX12_measures 127 = .ok (.bipush 12, 2) := by decide +kernel
theorem dX12_measures_129 : decode cX12_measures 129 = .ok (.if_icmp .ge 83, 3) := by decide +kernel
theorem dX12_measures_132 : decode cX12_measures 132 = .ok (.iconst 0, 1) := by decide +kernel
theorem dX12_measures_133 : decode cX12_measures 133 = .ok (.istore 4, 2) := by decide +kernel
theorem dX12_measures_135 : decode cX12_measures 135 = .ok (.iload 4, 2) := by decide +kernel
theorem dX12_measures_137 : decode cX12_measures 137 = .ok (.bipush 12, 2) := by decide +kernel
theorem dX12_measures_139 : decode cX12_measures 139 = .ok (.if_icmp .ge 67, 3) := by decide +kernel
theorem dX12_measures_142 : decode cX12_measures 142 = .ok (.iconst 0, 1) := by decide +kernel
theorem dX12_measures_143 : decode cX12_measures 143 = .ok (.istore 5, 2) := by decide +kernel
theorem dX12_measures_145 : decode cX12_measures 145 = .ok (.iload 5, 2) := by decide +kernel
theorem dX12_measures_147 : decode cX12_measures 147 = .ok (.bipush 12, 2) := by decide +kernel
theorem dX12_measures_149 : decode cX12_measures 149 = .ok (.if_icmp .ge 51, 3) := by decide +kernel
theorem dX12_measures_152 : decode cX12_measures 152 = .ok (.aload_n 1, 1) := by decide +kernel
theorem dX12_measures_153 : decode cX12_measures 153 = .ok (.bipush 12, 2) := by decide +kernel
theorem dX12_measures_155 : decode cX12_measures 155 = .ok (.iload 4, 2) := by decide +kernel
theorem dX12_measures_157 : decode cX12_measures 157 = .ok (.imul, 1) := by decide +kernel
theorem dX12_measures_158 : decode cX12_measures 158 = .ok (.iload 5, 2) := by decide +kernel
theorem dX12_measures_160 : decode cX12_measures 160 = .ok (.iadd, 1) := by decide +kernel
theorem dX12_measures_161 : decode cX12_measures 161 = .ok (.aload_n 1, 1) := by decide +kernel
theorem dX12_measures_162 : decode cX12_measures 162 = .ok (.bipush 12, 2) := by decide +kernel
theorem dX12_measures_164 : decode cX12_measures 164 = .ok (.iload 4, 2) := by decide +kernel
theorem dX12_measures_166 : decode cX12_measures 166 = .ok (.imul, 1) := by decide +kernel
theorem dX12_measures_167 : decode cX12_measures 167 = .ok (.iload 5, 2) := by decide +kernel
theorem dX12_measures_169 : decode cX12_measures 169 = .ok (.iadd, 1) := by decide +kernel
theorem dX12_measures_170 : decode cX12_measures 170 = .ok (.iaload, 1) := by decide +kernel
theorem dX12_measures_171 : decode cX12_measures 171 = .ok (.aload_n 1, 1) := by decide +kernel
theorem dX12_measures_172 : decode cX12_measures 172 = .ok (.bipush 12, 2) := by decide +kernel
theorem dX12_measures_174 : decode cX12_measures 174 = .ok (.iload 4, 2) := by decide +kernel
theorem dX12_measures_176 : decode cX12_measures 176 = .ok (.imul, 1) := by decide +kernel
theorem dX12_measures_177 : decode cX12_measures 177 = .ok (.iload_n 3, 1) := by decide +kernel
theorem dX12_measures_178 : decode cX12_measures 178 = .ok (.iadd, 1) := by decide +kernel
theorem dX12_measures_179 : decode cX12_measures 179 = .ok (.iaload, 1) := by decide +kernel
theorem dX12_measures_180 : decode cX12_measures 180 = .ok (.aload_n 1, 1) := by decide +kernel
theorem dX12_measures_181 : decode cX12_measures 181 = .ok (.bipush 12, 2) := by decide +kernel
theorem dX12_measures_183 : decode cX12_measures 183 = .ok (.iload_n 3, 1) := by decide +kernel
theorem dX12_measures_184 : decode cX12_measures 184 = .ok (.imul, 1) := by decide +kernel
theorem dX12_measures_185 : decode cX12_measures 185 = .ok (.iload 5, 2) := by decide +kernel
theorem dX12_measures_187 : decode cX12_measures 187 = .ok (.iadd, 1) := by decide +kernel
theorem dX12_measures_188 : decode cX12_measures 188 = .ok (.iaload, 1) := by decide +kernel
theorem dX12_measures_189 : decode cX12_measures 189 = .ok (.iadd, 1) := by decide +kernel
theorem dX12_measures_190 : decode cX12_measures 190 = .ok (.invokestatic 167, 3) := by decide +kernel
theorem dX12_measures_193 : decode cX12_measures 193 = .ok (.iastore, 1) := by decide +kernel
theorem dX12_measures_194 : decode cX12_measures 194 = .ok (.iinc 5 1, 3) := by decide +kernel
theorem dX12_measures_197 : decode cX12_measures 197 = .ok (.goto (-52), 3) := by decide +kernel
theorem dX12_measures_200 : decode cX12_measures 200 = .ok (.iinc 4 1, 3) := by decide +kernel
theorem dX12_measures_203 : decode cX12_measures 203 = .ok (.goto (-68), 3) := by decide +kernel
theorem dX12_measures_206 : decode cX12_measures 206 = .ok (.iinc 3 1, 3) := by decide +kernel
theorem dX12_measures_209 : decode cX12_measures 209 = .ok (.goto (-83), 3) := by decide +kernel
theorem dX12_measures_212 : decode cX12_measures 212 = .ok (.iconst 0, 1) := by decide +kernel
theorem dX12_measures_213 : decode cX12_measures 213 = .ok (.istore_n 3, 1) := by decide +kernel
theorem dX12_measures_214 : decode cX12_measures 214 = .ok (.iload_n 3, 1) := by decide +kernel
theorem dX12_measures_215 : decode cX12_measures 215 = .ok (.sipush 144, 3) := by decide +kernel
theorem dX12_measures_218 : decode cX12_measures 218 = .ok (.if_icmp .ge 27, 3) := by decide +kernel
theorem dX12_measures_221 : decode cX12_measures 221 = .ok (.aload_n 1, 1) := by decide +kernel
theorem dX12_measures_222 : decode cX12_measures 222 = .ok (.iload_n 3, 1) := by decide +kernel
theorem dX12_measures_223 : decode cX12_measures 223 = .ok (.aload_n 1, 1) := by decide +kernel
theorem dX12_measures_224 : decode cX12_measures 224 = .ok (.iload_n 3, 1) := by decide +kernel
theorem dX12_measures_225 : decode cX12_measures 225 = .ok (.iaload, 1) := by decide +kernel
theorem dX12_measures_226 : decode cX12_measures 226 = .ok (.ldc 232, 2) := by decide +kernel
theorem dX12_measures_228 : decode cX12_measures 228 = .ok (.if_icmp .lt 7, 3) := by decide +kernel
theorem dX12_measures_231 : decode cX12_measures 231 = .ok (.iconst (-1), 1) := by decide +kernel
theorem dX12_measures_232 : decode cX12_measures 232 = .ok (.goto 6, 3) := by decide +kernel
theorem dX12_measures_235 : decode cX12_measures 235 = .ok (.aload_n 1, 1) := by decide +kernel
theorem dX12_measures_236 : decode cX12_measures 236 = .ok (.iload_n 3, 1) := by decide +kernel
theorem dX12_measures_237 : decode cX12_measures 237 = .ok (.iaload, 1) := by decide +kernel
theorem dX12_measures_238 : decode cX12_measures 238 = .ok (.iastore, 1) := by decide +kernel
theorem dX12_measures_239 : decode cX12_measures 239 = .ok (.iinc 3 1, 3) := by decide +kernel
theorem dX12_measures_242 : decode cX12_measures 242 = .ok (.goto (-28), 3) := by decide +kernel
theorem dX12_measures_245 : decode cX12_measures 245 = .ok (.return_, 1) := by decide +kernel
set_option maxRecDepth 20000 in
theorem T_X12_measures_2 {Q : Option Value → ah_T → Prop} {h : ah_T} (hs : Sh h) (a1 : Nat) (x2 : Int32) (x3 : Int32) (hk_a1 : ah_k h a1 = 14) (ht : ((144 ≤ x3 → Wp mX12_measures Q 0 0 37 [some (.ref 82), some (.ref a1), some (.int x2), some (.int 0), none, none] [] h) ∧ (¬ 144 ≤ x3 → ((¬ (x3 / 12) = (x3 - x3 / 12 * 12) → (vp_in x3 (ah_n h a1)) ∧ (∀ h4, h4 = ah_si h a1 (Int32.toNatClampNeg x3) 1000000 → Wp mX12_measures Q 0 0 2 [some (.ref 82), some (.ref a1), some (.int x2), some (.int (x3 + 1)), none, none] [] h4)) ∧ ((x3 / 12) = (x3 - x3 / 12 * 12) → (vp_in x3 (ah_n h a1)) ∧ (∀ h9, h9 = ah_si h a1 (Int32.toNatClampNeg x3) 0 → Wp mX12_measures Q 0 0 2 [some (.ref 82), some (.ref a1), some (.int x2), some (.int (x3 + 1)), none, none] [] h9)))))) : Wp mX12_measures Q 0 0 2 [some (.ref 82), some (.ref a1), some (.int x2), some (.int x3), none, none] [] h := by
  refine ab_iload_n (i := 3) dX12_measures_2 rfl rfl ?_
  refine ab_sipush (v := 144) dX12_measures_3 (by decide) ?_
  refine ab_icmp_ge (tgt := 35) dX12_measures_6 (by decide) (fun c1 => ?_) (fun c1 => ?_)
  · have ht := ht.1 c1
    refine ab_iconst (v := 0) dX12_measures_35 (by decide) ?_
    refine ab_istore_n (i := 3) (L' := [some (.ref 82), some (.ref a1), some (.int x2), some (.int 0), none, none]) dX12_measures_36 rfl (by exact (Nat.le_of_ble_eq_true rfl)) rfl rfl ?_
    exact Wp.fewer (L' := [some (.ref 82), some (.ref a1), some (.int x2), some (.int 0), none, none]) (show ab_leL _ _ from ⟨rfl, ⟨rfl, ⟨rfl, ⟨rfl, trivial⟩⟩⟩⟩) ht
  · have ht := ht.2 c1
    refine ab_aload_n (i := 1) dX12_measures_9 rfl rfl ?_
    refine ab_iload_n (i := 3) dX12_measures_10 rfl rfl ?_
    refine ab_iload_n (i := 3) dX12_measures_11 rfl rfl ?_
    refine ab_bipush (v := 12) dX12_measures_12 (by decide) ?_
    refine ab_idiv dX12_measures_14 (by decide) ?_
    refine ab_iload_n (i := 3) dX12_measures_15 rfl rfl ?_
    refine ab_bipush (v := 12) dX12_measures_16 (by decide) ?_
    refine ab_irem dX12_measures_18 (by decide) ?_
    refine ab_icmp_ne (tgt := 26) dX12_measures_19 (by decide) (fun c2 => ?_) (fun c2 => ?_)
    · have ht := ht.1 c2
      refine ab_ldc (v := 1000000) (tb_8 (List.mem_of_getElem? (i := 138) (by decide +kernel)) rfl) dX12_measures_26 ?_
      obtain ⟨hc3, ht⟩ := ht
      refine ab_iast hk_a1 hc3 dX12_measures_28 ?_
      refine Wp.nm fun h4 e5 => ?_
      have ht := ht h4 e5
      have hs6 : Sh h4 := by rw [e5]; exact sh_si hs
      have hk7 : ah_k h4 a1 = 14 := by rw [e5]; exact hk_a1
      refine ab_iinc (i := 3) (x := x3) (v := (x3 + 1)) (L' := [some (.ref 82), some (.ref a1), some (.int x2), some (.int (x3 + 1)), none, none]) dX12_measures_29 rfl rfl (by exact (Nat.le_of_ble_eq_true rfl)) rfl rfl ?_
      refine ab_goto (tgt := 2) dX12_measures_32 (by decide) ?_
      exact Wp.fewer (L' := [some (.ref 82), some (.ref a1), some (.int x2), some (.int (x3 + 1)), none, none]) (show ab_leL _ _ from ⟨rfl, ⟨rfl, ⟨rfl, ⟨rfl, trivial⟩⟩⟩⟩) ht
    · have ht := ht.2 c2
      refine ab_iconst (v := 0) dX12_measures_22 (by decide) ?_
      refine ab_goto (tgt := 28) dX12_measures_23 (by decide) ?_
      obtain ⟨hc8, ht⟩ := ht
      refine ab_iast hk_a1 hc8 dX12_measures_28 ?_
      refine Wp.nm fun h9 e10 => ?_
      have ht := ht h9 e10
      have hs11 : Sh h9 := by rw [e10]; exact sh_si hs
      have hk12 : ah_k h9 a1 = 14 := by rw [e10]; exact hk_a1
      refine ab_iinc (i := 3) (x := x3) (v := (x3 + 1)) (L' := [some (.ref 82), some (.ref a1), some (.int x2), some (.int (x3 + 1)), none, none]) dX12_measures_29 rfl rfl (by exact (Nat.le_of_ble_eq_true rfl)) rfl rfl ?_
      refine ab_goto (tgt := 2) dX12_measures_32 (by decide) ?_
      exact Wp.fewer (L' := [some (.ref 82), some (.ref a1), some (.int x2), some (.int (x3 + 1)), none, none]) (show ab_leL _ _ from ⟨rfl, ⟨rfl, ⟨rfl, ⟨rfl, trivial⟩⟩⟩⟩) ht
set_option maxRecDepth 20000 in
theorem T_X12_measures_37 {Q : Option Value → ah_T → Prop} {h : ah_T} (hs : Sh h) (a1 : Nat) (x2 : Int32) (x3 : Int32) (hk_a1 : ah_k h a1 = 14) (ht : (((ah_i h 84 (Int32.toNatClampNeg 245)) ≤ x3 → Wp mX12_measures Q 0 0 126 [none, some (.ref a1), none, some (.int 0), none, none] [] h) ∧ (¬ (ah_i h 84 (Int32.toNatClampNeg 245)) ≤ x3 → (((f_X12_isIn x2 x3) = 0 → (vp_in (0 + (3 * x3)) (ah_n h 84)) ∧ (vp_in ((0 + (3 * x3)) + 1) (ah_n h 84)) ∧ (vp_in ((12 * (ah_i h 84 (Int32.toNatClampNeg (0 + (3 * x3))))) + (ah_i h 84 (Int32.toNatClampNeg ((0 + (3 * x3)) + 1)))) (ah_n h a1)) ∧ (∀ h18, h18 = ah_si h a1 (Int32.toNatClampNeg ((12 * (ah_i h 84 (Int32.toNatClampNeg (0 + (3 * x3))))) + (ah_i h 84 (Int32.toNatClampNeg ((0 + (3 * x3)) + 1))))) 1 → (vp_in ((0 + (3 * x3)) + 1) (ah_n h18 84)) ∧ (vp_in (0 + (3 * x3)) (ah_n h18 84)) ∧ (vp_in ((12 * (ah_i h18 84 (Int32.toNatClampNeg ((0 + (3 * x3)) + 1)))) + (ah_i h18 84 (Int32.toNatClampNeg (0 + (3 * x3))))) (ah_n h18 a1)) ∧ (∀ h25, h25 = ah_si h18 a1 (Int32.toNatClampNeg ((12 * (ah_i h18 84 (Int32.toNatClampNeg ((0 + (3 * x3)) + 1)))) + (ah_i h18 84 (Int32.toNatClampNeg (0 + (3 * x3)))))) 1 → Wp mX12_measures Q 0 0 37 [some (.ref 82), some (.ref a1), some (.int x2), some (.int (x3 + 1)), none, none] [] h25))) ∧ (¬ (f_X12_isIn x2 x3) = 0 → Wp mX12_measures Q 0 0 37 [some (.ref 82), some (.ref a1), some (.int x2), some (.int (x3 + 1)), none, none] [] h))))) : Wp mX12_measures Q 0 0 37 [some (.ref 82), some (.ref a1), some (.int x2), some (.int x3), none, none] [] h := by
  refine ab_iload_n (i := 3) dX12_measures_37 rfl rfl ?_
  refine ab_aload_n (i := 0) dX12_measures_38 rfl rfl ?_
  refine ab_getR (b := 84) f_X12_20 rfl (sh_k hs 82 12 (by decide) rfl) (sh_r hs 100 rfl) dX12_measures_39 ?_
  refine ab_sipush (v := 245) dX12_measures_42 (by decide) ?_
  refine ab_iald (sh_k hs 84 14 (by decide) rfl) (sh_in hs 84 5860 (by decide) (by decide) rfl (by unfold vp_in; decide)) dX12_measures_45 ?_
  refine ab_icmp_ge (tgt := 124) dX12_measures_46 (by decide) (fun c13 => ?_) (fun c13 => ?_)
  · have ht := ht.1 c13
    refine ab_iconst (v := 0) dX12_measures_124 (by decide) ?_
    refine ab_istore_n (i := 3) (L' := [some (.ref 82), some (.ref a1), some (.int x2), some (.int 0), none, none]) dX12_measures_125 rfl (by exact (Nat.le_of_ble_eq_true rfl)) rfl rfl ?_
    exact Wp.fewer (L' := [none, some (.ref a1), none, some (.int 0), none, none]) (show ab_leL _ _ from ⟨rfl, ⟨rfl, trivial⟩⟩) ht
  · have ht := ht.2 c13
    refine ab_iload_n (i := 2) dX12_measures_49 rfl rfl ?_
    refine ab_iload_n (i := 3) dX12_measures_50 rfl rfl ?_
    refine ab_callS (Q' := fun r h' => r = some (.int (f_X12_isIn x2 x3)) ∧ h = h') (As := [.int x2, .int x3]) (c_X12_isIn hs x2 x3 ⟨rfl, rfl⟩) (Y_X12_isIn) l_X12_367 st_X12_isIn rfl ⟨(Nat.le_of_ble_eq_true rfl), (Nat.le_of_ble_eq_true rfl), (Nat.le_of_ble_eq_true rfl), (Nat.le_of_ble_eq_true rfl)⟩ dX12_measures_51 ?_
    rintro _ _ ⟨rfl, rfl⟩
    refine ab_if_eq (tgt := 60) dX12_measures_54 (by decide) (fun c14 => ?_) (fun c14 => ?_)
    · have ht := ht.1 c14
      refine ab_aload_n (i := 1) dX12_measures_60 rfl rfl ?_
      refine ab_bipush (v := 12) dX12_measures_61 (by decide) ?_
      refine ab_aload_n (i := 0) dX12_measures_63 rfl rfl ?_
      refine ab_getR (b := 84) f_X12_20 rfl (sh_k hs 82 12 (by decide) rfl) (sh_r hs 100 rfl) dX12_measures_64 ?_
      refine ab_iconst (v := 0) dX12_measures_67 (by decide) ?_
      refine ab_iconst (v := 3) dX12_measures_68 (by decide) ?_
      refine ab_iload_n (i := 3) dX12_measures_69 rfl rfl ?_
      refine ab_imul dX12_measures_70 ?_
      refine ab_iadd dX12_measures_71 ?_
      obtain ⟨hc15, ht⟩ := ht
      refine ab_iald (sh_k hs 84 14 (by decide) rfl) hc15 dX12_measures_72 ?_
      refine ab_imul dX12_measures_73 ?_
      refine ab_aload_n (i := 0) dX12_measures_74 rfl rfl ?_
      refine ab_getR (b := 84) f_X12_20 rfl (sh_k hs 82 12 (by decide) rfl) (sh_r hs 100 rfl) dX12_measures_75 ?_
      refine ab_iconst (v := 0) dX12_measures_78 (by decide) ?_
      refine ab_iconst (v := 3) dX12_measures_79 (by decide) ?_
      refine ab_iload_n (i := 3) dX12_measures_80 rfl rfl ?_
      refine ab_imul dX12_measures_81 ?_
      refine ab_iadd dX12_measures_82 ?_
      refine ab_iconst (v := 1) dX12_measures_83 (by decide) ?_
      refine ab_iadd dX12_measures_84 ?_
      obtain ⟨hc16, ht⟩ := ht
      refine ab_iald (sh_k hs 84 14 (by decide) rfl) hc16 dX12_measures_85 ?_
      refine ab_iadd dX12_measures_86 ?_
      refine ab_iconst (v := 1) dX12_measures_87 (by decide) ?_
      obtain ⟨hc17, ht⟩ := ht
      refine ab_iast hk_a1 hc17 dX12_measures_88 ?_
      refine Wp.nm fun h18 e19 => ?_
      have ht := ht h18 e19
      have hs20 : Sh h18 := by rw [e19]; exact sh_si hs
      have hk21 : ah_k h18 a1 = 14 := by rw [e19]; exact hk_a1
      refine ab_aload_n (i := 1) dX12_measures_89 rfl rfl ?_
      refine ab_bipush (v := 12) dX12_measures_90 (by decide) ?_
      refine ab_aload_n (i := 0) dX12_measures_92 rfl rfl ?_
      refine ab_getR (b := 84) f_X12_20 rfl (sh_k hs20 82 12 (by decide) rfl) (sh_r hs20 100 rfl) dX12_measures_93 ?_
      refine ab_iconst (v := 0) dX12_measures_96 (by decide) ?_
      refine ab_iconst (v := 3) dX12_measures_97 (by decide) ?_
      refine ab_iload_n (i := 3) dX12_measures_98 rfl rfl ?_
      refine ab_imul dX12_measures_99 ?_
      refine ab_iadd dX12_measures_100 ?_
      refine ab_iconst (v := 1) dX12_measures_101 (by decide) ?_
      refine ab_iadd dX12_measures_102 ?_
      obtain ⟨hc22, ht⟩ := ht
      refine ab_iald (sh_k hs20 84 14 (by decide) rfl) hc22 dX12_measures_103 ?_
      refine ab_imul dX12_measures_104 ?_
      refine ab_aload_n (i := 0) dX12_measures_105 rfl rfl ?_
      refine ab_getR (b := 84) f_X12_20 rfl (sh_k hs20 82 12 (by decide) rfl) (sh_r hs20 100 rfl) dX12_measures_106 ?_
      refine ab_iconst (v := 0) dX12_measures_109 (by decide) ?_
      refine ab_iconst (v := 3) dX12_measures_110 (by decide) ?_
      refine ab_iload_n (i := 3) dX12_measures_111 rfl rfl ?_
      refine ab_imul dX12_measures_112 ?_
      refine ab_iadd dX12_measures_113 ?_
      obtain ⟨hc23, ht⟩ := ht
      refine ab_iald (sh_k hs20 84 14 (by decide) rfl) hc23 dX12_measures_114 ?_
      refine ab_iadd dX12_measures_115 ?_
      refine ab_iconst (v := 1) dX12_measures_116 (by decide) ?_
      obtain ⟨hc24, ht⟩ := ht
      refine ab_iast hk21 hc24 dX12_measures_117 ?_
      refine Wp.nm fun h25 e26 => ?_
      have ht := ht h25 e26
      have hs27 : Sh h25 := by rw [e26]; exact sh_si hs20
      have hk28 : ah_k h25 a1 = 14 := by rw [e26]; exact hk21
      refine ab_iinc (i := 3) (x := x3) (v := (x3 + 1)) (L' := [some (.ref 82), some (.ref a1), some (.int x2), some (.int (x3 + 1)), none, none]) dX12_measures_118 rfl rfl (by exact (Nat.le_of_ble_eq_true rfl)) rfl rfl ?_
      refine ab_goto (tgt := 37) dX12_measures_121 (by decide) ?_
      exact Wp.fewer (L' := [some (.ref 82), some (.ref a1), some (.int x2), some (.int (x3 + 1)), none, none]) (show ab_leL _ _ from ⟨rfl, ⟨rfl, ⟨rfl, ⟨rfl, trivial⟩⟩⟩⟩) ht
    · have ht := ht.2 c14
      refine ab_goto (tgt := 118) dX12_measures_57 (by decide) ?_
      refine ab_iinc (i := 3) (x := x3) (v := (x3 + 1)) (L' := [some (.ref 82), some (.ref a1), some (.int x2), some (.int (x3 + 1)), none, none]) dX12_measures_118 rfl rfl (by exact (Nat.le_of_ble_eq_true rfl)) rfl rfl ?_
      refine ab_goto (tgt := 37) dX12_measures_121 (by decide) ?_
      exact Wp.fewer (L' := [some (.ref 82), some (.ref a1), some (.int x2), some (.int (x3 + 1)), none, none]) (show ab_leL _ _ from ⟨rfl, ⟨rfl, ⟨rfl, ⟨rfl, trivial⟩⟩⟩⟩) ht
set_option maxRecDepth 20000 in
theorem T_X12_measures_126 {Q : Option Value → ah_T → Prop} {h : ah_T} (hs : Sh h) (a1 : Nat) (x3 : Int32) (hk_a1 : ah_k h a1 = 14) (ht : ((12 ≤ x3 → Wp mX12_measures Q 0 0 214 [none, some (.ref a1), none, some (.int 0), none, none] [] h) ∧ (¬ 12 ≤ x3 → Wp mX12_measures Q 0 0 135 [none, some (.ref a1), none, some (.int x3), some (.int 0), none] [] h))) : Wp mX12_measures Q 0 0 126 [none, some (.ref a1), none, some (.int x3), none, none] [] h := by
  refine ab_iload_n (i := 3) dX12_measures_126 rfl rfl ?_
  refine ab_bipush (v := 12) dX12_measures_127 (by decide) ?_
  refine ab_icmp_ge (tgt := 212) dX12_measures_129 (by decide) (fun c29 => ?_) (fun c29 => ?_)
  · have ht := ht.1 c29
    refine ab_iconst (v := 0) dX12_measures_212 (by decide) ?_
    refine ab_istore_n (i := 3) (L' := [none, some (.ref a1), none, some (.int 0), none, none]) dX12_measures_213 rfl (by exact (Nat.le_of_ble_eq_true rfl)) rfl rfl ?_
    exact Wp.fewer (L' := [none, some (.ref a1), none, some (.int 0), none, none]) (show ab_leL _ _ from ⟨rfl, ⟨rfl, trivial⟩⟩) ht
  · have ht := ht.2 c29
    refine ab_iconst (v := 0) dX12_measures_132 (by decide) ?_
    refine ab_istore (i := 4) (L' := [none, some (.ref a1), none, some (.int x3), some (.int 0), none]) dX12_measures_133 (by exact (Nat.le_of_ble_eq_true rfl)) rfl rfl ?_
    exact Wp.fewer (L' := [none, some (.ref a1), none, some (.int x3), some (.int 0), none]) (show ab_leL _ _ from ⟨rfl, ⟨rfl, ⟨rfl, trivial⟩⟩⟩) ht
set_option maxRecDepth 20000 in
theorem T_X12_measures_214 {Q : Option Value → ah_T → Prop} {h : ah_T} (hs : Sh h) (a1 : Nat) (x3 : Int32) (hk_a1 : ah_k h a1 = 14) (ht : ((144 ≤ x3 → Q none h) ∧ (¬ 144 ≤ x3 → (vp_in x3 (ah_n h a1)) ∧ (((ah_i h a1 (Int32.toNatClampNeg x3)) < 1000000 → (vp_in x3 (ah_n h a1)) ∧ (vp_in x3 (ah_n h a1)) ∧ (∀ h35, h35 = ah_si h a1 (Int32.toNatClampNeg x3) (ah_i h a1 (Int32.toNatClampNeg x3)) → Wp mX12_measures Q 0 0 214 [none, some (.ref a1), none, some (.int (x3 + 1)), none, none] [] h35)) ∧ (¬ (ah_i h a1 (Int32.toNatClampNeg x3)) < 1000000 → (vp_in x3 (ah_n h a1)) ∧ (∀ h40, h40 = ah_si h a1 (Int32.toNatClampNeg x3) (-1) → Wp mX12_measures Q 0 0 214 [none, some (.ref a1), none, some (.int (x3 + 1)), none, none] [] h40)))))) : Wp mX12_measures Q 0 0 214 [none, some (.ref a1), none, some (.int x3), none, none] [] h := by
  refine ab_iload_n (i := 3) dX12_measures_214 rfl rfl ?_
  refine ab_sipush (v := 144) dX12_measures_215 (by decide) ?_
  refine ab_icmp_ge (tgt := 245) dX12_measures_218 (by decide) (fun c30 => ?_) (fun c30 => ?_)
  · have ht := ht.1 c30
    exact ab_vret rfl dX12_measures_245 (Nat.le_of_ble_eq_true rfl) (Nat.le_of_ble_eq_true rfl) ht
  · have ht := ht.2 c30
    refine ab_aload_n (i := 1) dX12_measures_221 rfl rfl ?_
    refine ab_iload_n (i := 3) dX12_measures_222 rfl rfl ?_
    refine ab_aload_n (i := 1) dX12_measures_223 rfl rfl ?_
    refine ab_iload_n (i := 3) dX12_measures_224 rfl rfl ?_
    obtain ⟨hc31, ht⟩ := ht
    refine ab_iald hk_a1 hc31 dX12_measures_225 ?_
    refine ab_ldc (v := 1000000) (tb_8 (List.mem_of_getElem? (i := 138) (by decide +kernel)) rfl) dX12_measures_226 ?_
    refine ab_icmp_lt (tgt := 235) dX12_measures_228 (by decide) (fun c32 => ?_) (fun c32 => ?_)
    · have ht := ht.1 c32
      refine ab_aload_n (i := 1) dX12_measures_235 rfl rfl ?_
      refine ab_iload_n (i := 3) dX12_measures_236 rfl rfl ?_
      obtain ⟨hc33, ht⟩ := ht
      refine ab_iald hk_a1 hc33 dX12_measures_237 ?_
      obtain ⟨hc34, ht⟩ := ht
      refine ab_iast hk_a1 hc34 dX12_measures_238 ?_
      refine Wp.nm fun h35 e36 => ?_
      have ht := ht h35 e36
      have hs37 : Sh h35 := by rw [e36]; exact sh_si hs
      have hk38 : ah_k h35 a1 = 14 := by rw [e36]; exact hk_a1
      refine ab_iinc (i := 3) (x := x3) (v := (x3 + 1)) (L' := [none, some (.ref a1), none, some (.int (x3 + 1)), none, none]) dX12_measures_239 rfl rfl (by exact (Nat.le_of_ble_eq_true rfl)) rfl rfl ?_
      refine ab_goto (tgt := 214) dX12_measures_242 (by decide) ?_
      exact Wp.fewer (L' := [none, some (.ref a1), none, some (.int (x3 + 1)), none, none]) (show ab_leL _ _ from ⟨rfl, ⟨rfl, trivial⟩⟩) ht
    · have ht := ht.2 c32
      refine ab_iconst (v := (-1)) dX12_measures_231 (by decide) ?_
      refine ab_goto (tgt := 238) dX12_measures_232 (by decide) ?_
      obtain ⟨hc39, ht⟩ := ht
      refine ab_iast hk_a1 hc39 dX12_measures_238 ?_
      refine Wp.nm fun h40 e41 => ?_
      have ht := ht h40 e41
      have hs42 : Sh h40 := by rw [e41]; exact sh_si hs
      have hk43 : ah_k h40 a1 = 14 := by rw [e41]; exact hk_a1
      refine ab_iinc (i := 3) (x := x3) (v := (x3 + 1)) (L' := [none, some (.ref a1), none, some (.int (x3 + 1)), none, none]) dX12_measures_239 rfl rfl (by exact (Nat.le_of_ble_eq_true rfl)) rfl rfl ?_
      refine ab_goto (tgt := 214) dX12_measures_242 (by decide) ?_
      exact Wp.fewer (L' := [none, some (.ref a1), none, some (.int (x3 + 1)), none, none]) (show ab_leL _ _ from ⟨rfl, ⟨rfl, trivial⟩⟩) ht
set_option maxRecDepth 20000 in
theorem T_X12_measures_135 {Q : Option Value → ah_T → Prop} {h : ah_T} (hs : Sh h) (a1 : Nat) (x3 : Int32) (x4 : Int32) (hk_a1 : ah_k h a1 = 14) (ht : ((12 ≤ x4 → Wp mX12_measures Q 0 0 126 [none, some (.ref a1), none, some (.int (x3 + 1)), none, none] [] h) ∧ (¬ 12 ≤ x4 → Wp mX12_measures Q 0 0 145 [none, some (.ref a1), none, some (.int x3), some (.int x4), some (.int 0)] [] h))) : Wp mX12_measures Q 0 0 135 [none, some (.ref a1), none, some (.int x3), some (.int x4), none] [] h := by
  refine ab_iload (i := 4) dX12_measures_135 rfl ?_
  refine ab_bipush (v := 12) dX12_measures_137 (by decide) ?_
  refine ab_icmp_ge (tgt := 206) dX12_measures_139 (by decide) (fun c44 => ?_) (fun c44 => ?_)
  · have ht := ht.1 c44
    refine ab_iinc (i := 3) (x := x3) (v := (x3 + 1)) (L' := [none, some (.ref a1), none, some (.int (x3 + 1)), some (.int x4), none]) dX12_measures_206 rfl rfl (by exact (Nat.le_of_ble_eq_true rfl)) rfl rfl ?_
    refine ab_goto (tgt := 126) dX12_measures_209 (by decide) ?_
    exact Wp.fewer (L' := [none, some (.ref a1), none, some (.int (x3 + 1)), none, none]) (show ab_leL _ _ from ⟨rfl, ⟨rfl, trivial⟩⟩) ht
  · have ht := ht.2 c44
    refine ab_iconst (v := 0) dX12_measures_142 (by decide) ?_
    refine ab_istore (i := 5) (L' := [none, some (.ref a1), none, some (.int x3), some (.int x4), some (.int 0)]) dX12_measures_143 (by exact (Nat.le_of_ble_eq_true rfl)) rfl rfl ?_
    exact Wp.fewer (L' := [none, some (.ref a1), none, some (.int x3), some (.int x4), some (.int 0)]) (show ab_leL _ _ from ⟨rfl, ⟨rfl, ⟨rfl, ⟨rfl, trivial⟩⟩⟩⟩) ht
set_option maxRecDepth 20000 in
theorem T_X12_measures_145 {Q : Option Value → ah_T → Prop} {h : ah_T} (hs : Sh h) (a1 : Nat) (x3 : Int32) (x4 : Int32) (x5 : Int32) (hk_a1 : ah_k h a1 = 14) (ht : ((12 ≤ x5 → Wp mX12_measures Q 0 0 135 [none, some (.ref a1), none, some (.int x3), some (.int (x4 + 1)), none] [] h) ∧ (¬ 12 ≤ x5 → (vp_in ((12 * x4) + x5) (ah_n h a1)) ∧ (vp_in ((12 * x4) + x3) (ah_n h a1)) ∧ (vp_in ((12 * x3) + x5) (ah_n h a1)) ∧ (vp_in ((12 * x4) + x5) (ah_n h a1)) ∧ (∀ h50, h50 = ah_si h a1 (Int32.toNatClampNeg ((12 * x4) + x5)) (f_X12_lesser (ah_i h a1 (Int32.toNatClampNeg ((12 * x4) + x5))) ((ah_i h a1 (Int32.toNatClampNeg ((12 * x4) + x3))) + (ah_i h a1 (Int32.toNatClampNeg ((12 * x3) + x5))))) → Wp mX12_measures Q 0 0 145 [none, some (.ref a1), none, some (.int x3), some (.int x4), some (.int (x5 + 1))] [] h50)))) : Wp mX12_measures Q 0 0 145 [none, some (.ref a1), none, some (.int x3), some (.int x4), some (.int x5)] [] h := by
  refine ab_iload (i := 5) dX12_measures_145 rfl ?_
  refine ab_bipush (v := 12) dX12_measures_147 (by decide) ?_
  refine ab_icmp_ge (tgt := 200) dX12_measures_149 (by decide) (fun c45 => ?_) (fun c45 => ?_)
  · have ht := ht.1 c45
    refine ab_iinc (i := 4) (x := x4) (v := (x4 + 1)) (L' := [none, some (.ref a1), none, some (.int x3), some (.int (x4 + 1)), some (.int x5)]) dX12_measures_200 rfl rfl (by exact (Nat.le_of_ble_eq_true rfl)) rfl rfl ?_
    refine ab_goto (tgt := 135) dX12_measures_203 (by decide) ?_
    exact Wp.fewer (L' := [none, some (.ref a1), none, some (.int x3), some (.int (x4 + 1)), none]) (show ab_leL _ _ from ⟨rfl, ⟨rfl, ⟨rfl, trivial⟩⟩⟩) ht
  · have ht := ht.2 c45
    refine ab_aload_n (i := 1) dX12_measures_152 rfl rfl ?_
    refine ab_bipush (v := 12) dX12_measures_153 (by decide) ?_
    refine ab_iload (i := 4) dX12_measures_155 rfl ?_
    refine ab_imul dX12_measures_157 ?_
    refine ab_iload (i := 5) dX12_measures_158 rfl ?_
    refine ab_iadd dX12_measures_160 ?_
    refine ab_aload_n (i := 1) dX12_measures_161 rfl rfl ?_
    refine ab_bipush (v := 12) dX12_measures_162 (by decide) ?_
    refine ab_iload (i := 4) dX12_measures_164 rfl ?_
    refine ab_imul dX12_measures_166 ?_
    refine ab_iload (i := 5) dX12_measures_167 rfl ?_
    refine ab_iadd dX12_measures_169 ?_
    obtain ⟨hc46, ht⟩ := ht
    refine ab_iald hk_a1 hc46 dX12_measures_170 ?_
    refine ab_aload_n (i := 1) dX12_measures_171 rfl rfl ?_
    refine ab_bipush (v := 12) dX12_measures_172 (by decide) ?_
    refine ab_iload (i := 4) dX12_measures_174 rfl ?_
    refine ab_imul dX12_measures_176 ?_
    refine ab_iload_n (i := 3) dX12_measures_177 rfl rfl ?_
    refine ab_iadd dX12_measures_178 ?_
    obtain ⟨hc47, ht⟩ := ht
    refine ab_iald hk_a1 hc47 dX12_measures_179 ?_
    refine ab_aload_n (i := 1) dX12_measures_180 rfl rfl ?_
    refine ab_bipush (v := 12) dX12_measures_181 (by decide) ?_
    refine ab_iload_n (i := 3) dX12_measures_183 rfl rfl ?_
    refine ab_imul dX12_measures_184 ?_
    refine ab_iload (i := 5) dX12_measures_185 rfl ?_
    refine ab_iadd dX12_measures_187 ?_
    obtain ⟨hc48, ht⟩ := ht
    refine ab_iald hk_a1 hc48 dX12_measures_188 ?_
    refine ab_iadd dX12_measures_189 ?_
    refine ab_callS (Q' := fun r h' => r = some (.int (f_X12_lesser (ah_i h a1 (Int32.toNatClampNeg ((12 * x4) + x5))) ((ah_i h a1 (Int32.toNatClampNeg ((12 * x4) + x3))) + (ah_i h a1 (Int32.toNatClampNeg ((12 * x3) + x5)))))) ∧ h = h') (As := [.int (ah_i h a1 (Int32.toNatClampNeg ((12 * x4) + x5))), .int ((ah_i h a1 (Int32.toNatClampNeg ((12 * x4) + x3))) + (ah_i h a1 (Int32.toNatClampNeg ((12 * x3) + x5))))]) (c_X12_lesser hs (ah_i h a1 (Int32.toNatClampNeg ((12 * x4) + x5))) ((ah_i h a1 (Int32.toNatClampNeg ((12 * x4) + x3))) + (ah_i h a1 (Int32.toNatClampNeg ((12 * x3) + x5)))) ⟨rfl, rfl⟩) (Y_X12_lesser) l_X12_167 st_X12_lesser rfl ⟨(Nat.le_of_ble_eq_true rfl), (Nat.le_of_ble_eq_true rfl), (Nat.le_of_ble_eq_true rfl), (Nat.le_of_ble_eq_true rfl)⟩ dX12_measures_190 ?_
    rintro _ _ ⟨rfl, rfl⟩
    obtain ⟨hc49, ht⟩ := ht
    refine ab_iast hk_a1 hc49 dX12_measures_193 ?_
    refine Wp.nm fun h50 e51 => ?_
    have ht := ht h50 e51
    have hs52 : Sh h50 := by rw [e51]; exact sh_si hs
    have hk53 : ah_k h50 a1 = 14 := by rw [e51]; exact hk_a1
    refine ab_iinc (i := 5) (x := x5) (v := (x5 + 1)) (L' := [none, some (.ref a1), none, some (.int x3), some (.int x4), some (.int (x5 + 1))]) dX12_measures_194 rfl rfl (by exact (Nat.le_of_ble_eq_true rfl)) rfl rfl ?_
    refine ab_goto (tgt := 145) dX12_measures_197 (by decide) ?_
    exact Wp.fewer (L' := [none, some (.ref a1), none, some (.int x3), some (.int x4), some (.int (x5 + 1))]) (show ab_leL _ _ from ⟨rfl, ⟨rfl, ⟨rfl, ⟨rfl, trivial⟩⟩⟩⟩) ht
set_option maxRecDepth 20000 in
theorem T_X12_measures {Q : Option Value → ah_T → Prop} {h : ah_T} (hs : Sh h) (a1 : Nat) (x2 : Int32) (hk_a1 : ah_k h a1 = 14) (ht : Wp mX12_measures Q 0 0 2 [some (.ref 82), some (.ref a1), some (.int x2), some (.int 0), none, none] [] h) : Mt mX12_measures [.ref 82, .ref a1, .int x2] h Q := by
  refine Mt.ofWp rfl (by exact (Nat.le_of_ble_eq_true rfl)) (Wp.fewer (L' := [some (.ref 82), some (.ref a1), some (.int x2), none, none, none]) (show ab_leL _ _ from ⟨rfl, ⟨rfl, ⟨rfl, trivial⟩⟩⟩) ?_)
  refine ab_iconst (v := 0) dX12_measures_0 (by decide) ?_
  refine ab_istore_n (i := 3) (L' := [some (.ref 82), some (.ref a1), some (.int x2), some (.int 0), none, none]) dX12_measures_1 rfl (by exact (Nat.le_of_ble_eq_true rfl)) rfl rfl ?_
  exact Wp.fewer (L' := [some (.ref 82), some (.ref a1), some (.int x2), some (.int 0), none, none]) (show ab_leL _ _ from ⟨rfl, ⟨rfl, ⟨rfl, ⟨rfl, trivial⟩⟩⟩⟩) ht
theorem dX12_shutNow_0 : decode cX12_shutNow 0 = .ok (.iconst 0, 1) := by decide +kernel
theorem dX12_shutNow_1 : decode cX12_shutNow 1 = .ok (.istore_n 1, 1) := by decide +kernel
theorem dX12_shutNow_2 : decode cX12_shutNow 2 = .ok (.iconst 0, 1) := by decide +kernel
theorem dX12_shutNow_3 : decode cX12_shutNow 3 = .ok (.istore_n 2, 1) := by decide +kernel
theorem dX12_shutNow_4 : decode cX12_shutNow 4 = .ok (.iload_n 2, 1) := by decide +kernel
theorem dX12_shutNow_5 : decode cX12_shutNow 5 = .ok (.aload_n 0, 1) := by decide +kernel
theorem dX12_shutNow_6 : decode cX12_shutNow 6 = .ok (.getfield 20, 3) := by decide +kernel
theorem dX12_shutNow_9 : decode cX12_shutNow 9 = .ok (.sipush 245, 3) := by decide +kernel
theorem dX12_shutNow_12 : decode cX12_shutNow 12 = .ok (.iaload, 1) := by decide +kernel
theorem dX12_shutNow_13 : decode cX12_shutNow 13 = .ok (.if_icmp .ge 26, 3) := by decide +kernel
theorem dX12_shutNow_16 : decode cX12_shutNow 16 = .ok (.iload_n 1, 1) := by decide +kernel
theorem dX12_shutNow_17 : decode cX12_shutNow 17 = .ok (.aload_n 0, 1) := by decide +kernel
theorem dX12_shutNow_18 : decode cX12_shutNow 18 = .ok (.getfield 20, 3) := by decide +kernel
theorem dX12_shutNow_21 : decode cX12_shutNow 21 = .ok (.iconst 0, 1) := by decide +kernel
theorem dX12_shutNow_22 : decode cX12_shutNow 22 = .ok (.iconst 3, 1) := by decide +kernel
theorem dX12_shutNow_23 : decode cX12_shutNow 23 = .ok (.iload_n 2, 1) := by decide +kernel
theorem dX12_shutNow_24 : decode cX12_shutNow 24 = .ok (.imul, 1) := by decide +kernel
theorem dX12_shutNow_25 : decode cX12_shutNow 25 = .ok (.iadd, 1) := by decide +kernel
theorem dX12_shutNow_26 : decode cX12_shutNow 26 = .ok (.iconst 2, 1) := by decide +kernel
theorem dX12_shutNow_27 : decode cX12_shutNow 27 = .ok (.iadd, 1) := by decide +kernel
theorem dX12_shutNow_28 : decode cX12_shutNow 28 = .ok (.iaload, 1) := by decide +kernel
theorem dX12_shutNow_29 : decode cX12_shutNow 29 = .ok (.iload_n 2, 1) := by decide +kernel
theorem dX12_shutNow_30 : decode cX12_shutNow 30 = .ok (.ishl, 1) := by decide +kernel
theorem dX12_shutNow_31 : decode cX12_shutNow 31 = .ok (.ior, 1) := by decide +kernel
theorem dX12_shutNow_32 : decode cX12_shutNow 32 = .ok (.istore_n 1, 1) := by decide +kernel
theorem dX12_shutNow_33 : decode cX12_shutNow 33 = .ok (.iinc 2 1, 3) := by decide +kernel
theorem dX12_shutNow_36 : decode cX12_shutNow 36 = .ok (.goto (-32), 3) := by decide +kernel
theorem dX12_shutNow_39 : decode cX12_shutNow 39 = .ok (.iload_n 1, 1) := by decide +kernel
theorem dX12_shutNow_40 : decode cX12_shutNow 40 = .ok (.ireturn, 1) := by decide +kernel
set_option maxRecDepth 20000 in
theorem T_X12_shutNow_4 {Q : Option Value → ah_T → Prop} {h : ah_T} (hs : Sh h) (x1 : Int32) (x2 : Int32) (ht : (((ah_i h 84 (Int32.toNatClampNeg 245)) ≤ x2 → Q (some (.int x1)) h) ∧ (¬ (ah_i h 84 (Int32.toNatClampNeg 245)) ≤ x2 → (vp_in ((0 + (3 * x2)) + 2) (ah_n h 84)) ∧ Wp mX12_shutNow Q 0 0 4 [some (.ref 82), some (.int (x1 ||| ((ah_i h 84 (Int32.toNatClampNeg ((0 + (3 * x2)) + 2))) <<< (x2 &&& 31)))), some (.int (x2 + 1))] [] h))) : Wp mX12_shutNow Q 0 0 4 [some (.ref 82), some (.int x1), some (.int x2)] [] h := by
  refine ab_iload_n (i := 2) dX12_shutNow_4 rfl rfl ?_
  refine ab_aload_n (i := 0) dX12_shutNow_5 rfl rfl ?_
  refine ab_getR (b := 84) f_X12_20 rfl (sh_k hs 82 12 (by decide) rfl) (sh_r hs 100 rfl) dX12_shutNow_6 ?_
  refine ab_sipush (v := 245) dX12_shutNow_9 (by decide) ?_
  refine ab_iald (sh_k hs 84 14 (by decide) rfl) (sh_in hs 84 5860 (by decide) (by decide) rfl (by unfold vp_in; decide)) dX12_shutNow_12 ?_
  refine ab_icmp_ge (tgt := 39) dX12_shutNow_13 (by decide) (fun c1 => ?_) (fun c1 => ?_)
  · have ht := ht.1 c1
    refine ab_iload_n (i := 1) dX12_shutNow_39 rfl rfl ?_
    exact ab_iret rfl dX12_shutNow_40 (Nat.le_of_ble_eq_true rfl) (Nat.le_of_ble_eq_true rfl) ht
  · have ht := ht.2 c1
    refine ab_iload_n (i := 1) dX12_shutNow_16 rfl rfl ?_
    refine ab_aload_n (i := 0) dX12_shutNow_17 rfl rfl ?_
    refine ab_getR (b := 84) f_X12_20 rfl (sh_k hs 82 12 (by decide) rfl) (sh_r hs 100 rfl) dX12_shutNow_18 ?_
    refine ab_iconst (v := 0) dX12_shutNow_21 (by decide) ?_
    refine ab_iconst (v := 3) dX12_shutNow_22 (by decide) ?_
    refine ab_iload_n (i := 2) dX12_shutNow_23 rfl rfl ?_
    refine ab_imul dX12_shutNow_24 ?_
    refine ab_iadd dX12_shutNow_25 ?_
    refine ab_iconst (v := 2) dX12_shutNow_26 (by decide) ?_
    refine ab_iadd dX12_shutNow_27 ?_
    obtain ⟨hc2, ht⟩ := ht
    refine ab_iald (sh_k hs 84 14 (by decide) rfl) hc2 dX12_shutNow_28 ?_
    refine ab_iload_n (i := 2) dX12_shutNow_29 rfl rfl ?_
    refine ab_ishl dX12_shutNow_30 ?_
    refine ab_ior dX12_shutNow_31 ?_
    refine ab_istore_n (i := 1) (L' := [some (.ref 82), some (.int (x1 ||| ((ah_i h 84 (Int32.toNatClampNeg ((0 + (3 * x2)) + 2))) <<< (x2 &&& 31)))), some (.int x2)]) dX12_shutNow_32 rfl (by exact (Nat.le_of_ble_eq_true rfl)) rfl rfl ?_
    refine ab_iinc (i := 2) (x := x2) (v := (x2 + 1)) (L' := [some (.ref 82), some (.int (x1 ||| ((ah_i h 84 (Int32.toNatClampNeg ((0 + (3 * x2)) + 2))) <<< (x2 &&& 31)))), some (.int (x2 + 1))]) dX12_shutNow_33 rfl rfl (by exact (Nat.le_of_ble_eq_true rfl)) rfl rfl ?_
    refine ab_goto (tgt := 4) dX12_shutNow_36 (by decide) ?_
    exact Wp.fewer (L' := [some (.ref 82), some (.int (x1 ||| ((ah_i h 84 (Int32.toNatClampNeg ((0 + (3 * x2)) + 2))) <<< (x2 &&& 31)))), some (.int (x2 + 1))]) (show ab_leL _ _ from ⟨rfl, ⟨rfl, ⟨rfl, trivial⟩⟩⟩) ht
set_option maxRecDepth 20000 in
theorem T_X12_shutNow {Q : Option Value → ah_T → Prop} {h : ah_T} (hs : Sh h)  (ht : Wp mX12_shutNow Q 0 0 4 [some (.ref 82), some (.int 0), some (.int 0)] [] h) : Mt mX12_shutNow [.ref 82] h Q := by
  refine Mt.ofWp rfl (by exact (Nat.le_of_ble_eq_true rfl)) (Wp.fewer (L' := [some (.ref 82), none, none]) (show ab_leL _ _ from ⟨rfl, trivial⟩) ?_)
  refine ab_iconst (v := 0) dX12_shutNow_0 (by decide) ?_
  refine ab_istore_n (i := 1) (L' := [some (.ref 82), some (.int 0), none]) dX12_shutNow_1 rfl (by exact (Nat.le_of_ble_eq_true rfl)) rfl rfl ?_
  refine ab_iconst (v := 0) dX12_shutNow_2 (by decide) ?_
  refine ab_istore_n (i := 2) (L' := [some (.ref 82), some (.int 0), some (.int 0)]) dX12_shutNow_3 rfl (by exact (Nat.le_of_ble_eq_true rfl)) rfl rfl ?_
  exact Wp.fewer (L' := [some (.ref 82), some (.int 0), some (.int 0)]) (show ab_leL _ _ from ⟨rfl, ⟨rfl, ⟨rfl, trivial⟩⟩⟩) ht
theorem dX12_far_0 : decode cX12_far 0 = .ok (.iload_n 1, 1) := by decide +kernel
theorem dX12_far_1 : decode cX12_far 1 = .ok (.invokestatic 174, 3) := by decide +kernel
theorem dX12_far_4 : decode cX12_far 4 = .ok (.ifCond .eq 19, 3) := by decide +kernel
theorem dX12_far_7 : decode cX12_far 7 = .ok (.iload_n 2, 1) := by decide +kernel
theorem dX12_far_8 : decode cX12_far 8 = .ok (.invokestatic 174, 3) := by decide +kernel
theorem dX12_far_11 : decode cX12_far 11 = .ok (.ifCond .eq 12, 3) := by decide +kernel
theorem dX12_far_14 : decode cX12_far 14 = .ok (.iload_n 3, 1) := by decide +kernel
theorem dX12_far_15 : decode cX12_far 15 = .ok (.iconst 0, 1) := by decide +kernel
theorem dX12_far_16 : decode cX12_far 16 = .ok (.iconst 1, 1) := by decide +kernel
theorem dX12_far_17 : decode cX12_far 17 = .ok (.invokestatic 156, 3) := by decide +kernel
theorem dX12_far_20 : decode cX12_far 20 = .ok (.ifCond .ne 5, 3) := by decide +kernel
theorem dX12_far_23 : decode cX12_far 23 = .ok (.iconst (-1), 1) := by decide +kernel
theorem dX12_far_24 : decode cX12_far 24 = .ok (.ireturn, 1) := by decide +kernel
theorem dX12_far_25 : decode cX12_far 25 = .ok (.iload_n 3, 1) := by decide +kernel
theorem dX12_far_26 : decode cX12_far 26 = .ok (.ifCond .ne 10, 3) := by decide +kernel
theorem dX12_far_29 : decode cX12_far 29 = .ok (.aload_n 0, 1) := by decide +kernel
theorem dX12_far_30 : decode cX12_far 30 = .ok (.getfield 71, 3) := by decide +kernel
theorem dX12_far_33 : decode cX12_far 33 = .ok (.goto 7, 3) := by decide +kernel
theorem dX12_far_36 : decode cX12_far 36 = .ok (.aload_n 0, 1) := by decide +kernel
theorem dX12_far_37 : decode cX12_far 37 = .ok (.getfield 74, 3) := by decide +kernel
theorem dX12_far_40 : decode cX12_far 40 = .ok (.astore 4, 2) := by decide +kernel
theorem dX12_far_42 : decode cX12_far 42 = .ok (.aload_n 0, 1) := by decide +kernel
theorem dX12_far_43 : decode cX12_far 43 = .ok (.aload 4, 2) := by decide +kernel
theorem dX12_far_45 : decode cX12_far 45 = .ok (.iload_n 3, 1) := by decide +kernel
theorem dX12_far_46 : decode cX12_far 46 = .ok (.ifCond .ne 7, 3) := by decide +kernel
theorem dX12_far_49 : decode cX12_far 49 = .ok (.iconst 0, 1) := by decide +kernel
theorem dX12_far_50 : decode cX12_far 50 = .ok (.goto 7, 3) := by decide +kernel
theorem dX12_far_53 : decode cX12_far 53 = .ok (.aload_n 0, 1) := by decide +kernel
theorem dX12_far_54 : decode cX12_far 54 = .ok (.invokevirtual 370, 3) := by decide +kernel
theorem dX12_far_57 : decode cX12_far 57 = .ok (.invokevirtual 374, 3) := by decide +kernel
theorem dX12_far_60 : decode cX12_far 60 = .ok (.aload 4, 2) := by decide +kernel
theorem dX12_far_62 : decode cX12_far 62 = .ok (.bipush 12, 2) := by decide +kernel
theorem dX12_far_64 : decode cX12_far 64 = .ok (.iload_n 1, 1) := by decide +kernel
theorem dX12_far_65 : decode cX12_far 65 = .ok (.imul, 1) := by decide +kernel
theorem dX12_far_66 : decode cX12_far 66 = .ok (.iload_n 2, 1) := by decide +kernel
theorem dX12_far_67 : decode cX12_far 67 = .ok (.iadd, 1) := by decide +kernel
theorem dX12_far_68 : decode cX12_far 68 = .ok (.iaload, 1) := by decide +kernel
theorem dX12_far_69 : decode cX12_far 69 = .ok (.ireturn, 1) := by decide +kernel
set_option maxRecDepth 20000 in
theorem T_X12_far {Q : Option Value → ah_T → Prop} {h : ah_T} (hs : Sh h) (x1 : Int32) (x2 : Int32) (x3 : Int32) (ht : (((f_X12_isCorner x1) = 0 → Q (some (.int (-1))) h) ∧ (¬ (f_X12_isCorner x1) = 0 → (((f_X12_isCorner x2) = 0 → Q (some (.int (-1))) h) ∧ (¬ (f_X12_isCorner x2) = 0 → ((¬ (f_X12_lies x3 0 1) = 0 → ((¬ x3 = 0 → ((¬ x3 = 0 → (Mt mX12_shutNow [.ref 82] h (ab_qi fun v8 h6 => Sh h6 ∧ (Mt mX12_measures [.ref 82, .ref 99, .int v8] h6 (ab_qv fun h9 => Sh h9 ∧ (vp_in ((12 * x1) + x2) (ah_n h9 99)) ∧ Q (some (.int (ah_i h9 99 (Int32.toNatClampNeg ((12 * x1) + x2))))) h9))))) ∧ (x3 = 0 → (Mt mX12_measures [.ref 82, .ref 99, .int 0] h (ab_qv fun h13 => Sh h13 ∧ (vp_in ((12 * x1) + x2) (ah_n h13 99)) ∧ Q (some (.int (ah_i h13 99 (Int32.toNatClampNeg ((12 * x1) + x2))))) h13))))) ∧ (x3 = 0 → ((¬ x3 = 0 → (Mt mX12_shutNow [.ref 82] h (ab_qi fun v20 h18 => Sh h18 ∧ (Mt mX12_measures [.ref 82, .ref 98, .int v20] h18 (ab_qv fun h21 => Sh h21 ∧ (vp_in ((12 * x1) + x2) (ah_n h21 98)) ∧ Q (some (.int (ah_i h21 98 (Int32.toNatClampNeg ((12 * x1) + x2))))) h21))))) ∧ (x3 = 0 → (Mt mX12_measures [.ref 82, .ref 98, .int 0] h (ab_qv fun h25 => Sh h25 ∧ (vp_in ((12 * x1) + x2) (ah_n h25 98)) ∧ Q (some (.int (ah_i h25 98 (Int32.toNatClampNeg ((12 * x1) + x2))))) h25))))))) ∧ ((f_X12_lies x3 0 1) = 0 → Q (some (.int (-1))) h))))))) : Mt mX12_far [.ref 82, .int x1, .int x2, .int x3] h Q := by
  refine Mt.ofWp rfl (by exact (Nat.le_of_ble_eq_true rfl)) (Wp.fewer (L' := [some (.ref 82), some (.int x1), some (.int x2), some (.int x3), none]) (show ab_leL _ _ from ⟨rfl, ⟨rfl, ⟨rfl, ⟨rfl, trivial⟩⟩⟩⟩) ?_)
  refine ab_iload_n (i := 1) dX12_far_0 rfl rfl ?_
  refine ab_callS (Q' := fun r h' => r = some (.int (f_X12_isCorner x1)) ∧ h = h') (As := [.int x1]) (c_X12_isCorner hs x1 ⟨rfl, rfl⟩) (Y_X12_isCorner) l_X12_174 st_X12_isCorner rfl ⟨(Nat.le_of_ble_eq_true rfl), (Nat.le_of_ble_eq_true rfl), (Nat.le_of_ble_eq_true rfl), (Nat.le_of_ble_eq_true rfl)⟩ dX12_far_1 ?_
  rintro _ _ ⟨rfl, rfl⟩
  refine ab_if_eq (tgt := 23) dX12_far_4 (by decide) (fun c1 => ?_) (fun c1 => ?_)
  · have ht := ht.1 c1
    refine ab_iconst (v := (-1)) dX12_far_23 (by decide) ?_
    exact ab_iret rfl dX12_far_24 (Nat.le_of_ble_eq_true rfl) (Nat.le_of_ble_eq_true rfl) ht
  · have ht := ht.2 c1
    refine ab_iload_n (i := 2) dX12_far_7 rfl rfl ?_
    refine ab_callS (Q' := fun r h' => r = some (.int (f_X12_isCorner x2)) ∧ h = h') (As := [.int x2]) (c_X12_isCorner hs x2 ⟨rfl, rfl⟩) (Y_X12_isCorner) l_X12_174 st_X12_isCorner rfl ⟨(Nat.le_of_ble_eq_true rfl), (Nat.le_of_ble_eq_true rfl), (Nat.le_of_ble_eq_true rfl), (Nat.le_of_ble_eq_true rfl)⟩ dX12_far_8 ?_
    rintro _ _ ⟨rfl, rfl⟩
    refine ab_if_eq (tgt := 23) dX12_far_11 (by decide) (fun c2 => ?_) (fun c2 => ?_)
    · have ht := ht.1 c2
      refine ab_iconst (v := (-1)) dX12_far_23 (by decide) ?_
      exact ab_iret rfl dX12_far_24 (Nat.le_of_ble_eq_true rfl) (Nat.le_of_ble_eq_true rfl) ht
    · have ht := ht.2 c2
      refine ab_iload_n (i := 3) dX12_far_14 rfl rfl ?_
      refine ab_iconst (v := 0) dX12_far_15 (by decide) ?_
      refine ab_iconst (v := 1) dX12_far_16 (by decide) ?_
      refine ab_callS (Q' := fun r h' => r = some (.int (f_X12_lies x3 0 1)) ∧ h = h') (As := [.int x3, .int 0, .int 1]) (c_X12_lies hs x3 0 1 ⟨rfl, rfl⟩) (Y_X12_lies) l_X12_156 st_X12_lies rfl ⟨(Nat.le_of_ble_eq_true rfl), (Nat.le_of_ble_eq_true rfl), (Nat.le_of_ble_eq_true rfl), (Nat.le_of_ble_eq_true rfl)⟩ dX12_far_17 ?_
      rintro _ _ ⟨rfl, rfl⟩
      refine ab_if_ne (tgt := 25) dX12_far_20 (by decide) (fun c3 => ?_) (fun c3 => ?_)
      · have ht := ht.1 c3
        refine ab_iload_n (i := 3) dX12_far_25 rfl rfl ?_
        refine ab_if_ne (tgt := 36) dX12_far_26 (by decide) (fun c4 => ?_) (fun c4 => ?_)
        · have ht := ht.1 c4
          refine ab_aload_n (i := 0) dX12_far_36 rfl rfl ?_
          refine ab_getR (b := 99) f_X12_74 rfl (sh_k hs 82 12 (by decide) rfl) (sh_r hs 115 rfl) dX12_far_37 ?_
          refine ab_astore (i := 4) (L' := [some (.ref 82), some (.int x1), some (.int x2), some (.int x3), some (.ref 99)]) dX12_far_40 (by exact (Nat.le_of_ble_eq_true rfl)) rfl rfl ?_
          refine ab_aload_n (i := 0) dX12_far_42 rfl rfl ?_
          refine ab_aload (i := 4) dX12_far_43 rfl ?_
          refine ab_iload_n (i := 3) dX12_far_45 rfl rfl ?_
          refine ab_if_ne (tgt := 53) dX12_far_46 (by decide) (fun c5 => ?_) (fun c5 => ?_)
          · have ht := ht.1 c5
            refine ab_aload_n (i := 0) dX12_far_53 rfl rfl ?_
            refine ab_callV (b := 82) (As := []) ht (Y_X12_shutNow) l_X12_370 in_X12_shutNow se_X12_shutNow (sh_k hs 82 12 (by decide) rfl) (by decide) rfl rfl ⟨(Nat.le_of_ble_eq_true rfl), (Nat.le_of_ble_eq_true rfl), (Nat.le_of_ble_eq_true rfl), (Nat.le_of_ble_eq_true rfl)⟩ dX12_far_54 ?_
            rintro _ h6 ⟨v8, rfl, hs7, ht⟩
            refine ab_callV (b := 82) (As := [.ref 99, .int v8]) ht (Y_X12_measures) l_X12_374 in_X12_measures se_X12_measures (sh_k hs7 82 12 (by decide) rfl) (by decide) rfl rfl ⟨(Nat.le_of_ble_eq_true rfl), (Nat.le_of_ble_eq_true rfl), (Nat.le_of_ble_eq_true rfl), (Nat.le_of_ble_eq_true rfl)⟩ dX12_far_57 ?_
            rintro _ h9 ⟨rfl, hs10, ht⟩
            refine ab_aload (i := 4) dX12_far_60 rfl ?_
            refine ab_bipush (v := 12) dX12_far_62 (by decide) ?_
            refine ab_iload_n (i := 1) dX12_far_64 rfl rfl ?_
            refine ab_imul dX12_far_65 ?_
            refine ab_iload_n (i := 2) dX12_far_66 rfl rfl ?_
            refine ab_iadd dX12_far_67 ?_
            obtain ⟨hc12, ht⟩ := ht
            refine ab_iald (sh_k hs10 99 14 (by decide) rfl) hc12 dX12_far_68 ?_
            exact ab_iret rfl dX12_far_69 (Nat.le_of_ble_eq_true rfl) (Nat.le_of_ble_eq_true rfl) ht
          · have ht := ht.2 c5
            refine ab_iconst (v := 0) dX12_far_49 (by decide) ?_
            refine ab_goto (tgt := 57) dX12_far_50 (by decide) ?_
            refine ab_callV (b := 82) (As := [.ref 99, .int 0]) ht (Y_X12_measures) l_X12_374 in_X12_measures se_X12_measures (sh_k hs 82 12 (by decide) rfl) (by decide) rfl rfl ⟨(Nat.le_of_ble_eq_true rfl), (Nat.le_of_ble_eq_true rfl), (Nat.le_of_ble_eq_true rfl), (Nat.le_of_ble_eq_true rfl)⟩ dX12_far_57 ?_
            rintro _ h13 ⟨rfl, hs14, ht⟩
            refine ab_aload (i := 4) dX12_far_60 rfl ?_
            refine ab_bipush (v := 12) dX12_far_62 (by decide) ?_
            refine ab_iload_n (i := 1) dX12_far_64 rfl rfl ?_
            refine ab_imul dX12_far_65 ?_
            refine ab_iload_n (i := 2) dX12_far_66 rfl rfl ?_
            refine ab_iadd dX12_far_67 ?_
            obtain ⟨hc16, ht⟩ := ht
            refine ab_iald (sh_k hs14 99 14 (by decide) rfl) hc16 dX12_far_68 ?_
            exact ab_iret rfl dX12_far_69 (Nat.le_of_ble_eq_true rfl) (Nat.le_of_ble_eq_true rfl) ht
        · have ht := ht.2 c4
          refine ab_aload_n (i := 0) dX12_far_29 rfl rfl ?_
          refine ab_getR (b := 98) f_X12_71 rfl (sh_k hs 82 12 (by decide) rfl) (sh_r hs 114 rfl) dX12_far_30 ?_
          refine ab_goto (tgt := 40) dX12_far_33 (by decide) ?_
          refine ab_astore (i := 4) (L' := [some (.ref 82), some (.int x1), some (.int x2), some (.int x3), some (.ref 98)]) dX12_far_40 (by exact (Nat.le_of_ble_eq_true rfl)) rfl rfl ?_
          refine ab_aload_n (i := 0) dX12_far_42 rfl rfl ?_
          refine ab_aload (i := 4) dX12_far_43 rfl ?_
          refine ab_iload_n (i := 3) dX12_far_45 rfl rfl ?_
          refine ab_if_ne (tgt := 53) dX12_far_46 (by decide) (fun c17 => ?_) (fun c17 => ?_)
          · have ht := ht.1 c17
            refine ab_aload_n (i := 0) dX12_far_53 rfl rfl ?_
            refine ab_callV (b := 82) (As := []) ht (Y_X12_shutNow) l_X12_370 in_X12_shutNow se_X12_shutNow (sh_k hs 82 12 (by decide) rfl) (by decide) rfl rfl ⟨(Nat.le_of_ble_eq_true rfl), (Nat.le_of_ble_eq_true rfl), (Nat.le_of_ble_eq_true rfl), (Nat.le_of_ble_eq_true rfl)⟩ dX12_far_54 ?_
            rintro _ h18 ⟨v20, rfl, hs19, ht⟩
            refine ab_callV (b := 82) (As := [.ref 98, .int v20]) ht (Y_X12_measures) l_X12_374 in_X12_measures se_X12_measures (sh_k hs19 82 12 (by decide) rfl) (by decide) rfl rfl ⟨(Nat.le_of_ble_eq_true rfl), (Nat.le_of_ble_eq_true rfl), (Nat.le_of_ble_eq_true rfl), (Nat.le_of_ble_eq_true rfl)⟩ dX12_far_57 ?_
            rintro _ h21 ⟨rfl, hs22, ht⟩
            refine ab_aload (i := 4) dX12_far_60 rfl ?_
            refine ab_bipush (v := 12) dX12_far_62 (by decide) ?_
            refine ab_iload_n (i := 1) dX12_far_64 rfl rfl ?_
            refine ab_imul dX12_far_65 ?_
            refine ab_iload_n (i := 2) dX12_far_66 rfl rfl ?_
            refine ab_iadd dX12_far_67 ?_
            obtain ⟨hc24, ht⟩ := ht
            refine ab_iald (sh_k hs22 98 14 (by decide) rfl) hc24 dX12_far_68 ?_
            exact ab_iret rfl dX12_far_69 (Nat.le_of_ble_eq_true rfl) (Nat.le_of_ble_eq_true rfl) ht
          · have ht := ht.2 c17
            refine ab_iconst (v := 0) dX12_far_49 (by decide) ?_
            refine ab_goto (tgt := 57) dX12_far_50 (by decide) ?_
            refine ab_callV (b := 82) (As := [.ref 98, .int 0]) ht (Y_X12_measures) l_X12_374 in_X12_measures se_X12_measures (sh_k hs 82 12 (by decide) rfl) (by decide) rfl rfl ⟨(Nat.le_of_ble_eq_true rfl), (Nat.le_of_ble_eq_true rfl), (Nat.le_of_ble_eq_true rfl), (Nat.le_of_ble_eq_true rfl)⟩ dX12_far_57 ?_
            rintro _ h25 ⟨rfl, hs26, ht⟩
            refine ab_aload (i := 4) dX12_far_60 rfl ?_
            refine ab_bipush (v := 12) dX12_far_62 (by decide) ?_
            refine ab_iload_n (i := 1) dX12_far_64 rfl rfl ?_
            refine ab_imul dX12_far_65 ?_
            refine ab_iload_n (i := 2) dX12_far_66 rfl rfl ?_
            refine ab_iadd dX12_far_67 ?_
            obtain ⟨hc28, ht⟩ := ht
            refine ab_iald (sh_k hs26 98 14 (by decide) rfl) hc28 dX12_far_68 ?_
            exact ab_iret rfl dX12_far_69 (Nat.le_of_ble_eq_true rfl) (Nat.le_of_ble_eq_true rfl) ht
      · have ht := ht.2 c3
        refine ab_iconst (v := (-1)) dX12_far_23 (by decide) ?_
        exact ab_iret rfl dX12_far_24 (Nat.le_of_ble_eq_true rfl) (Nat.le_of_ble_eq_true rfl) ht
theorem dX12_looks_0 : decode cX12_looks 0 = .ok (.aload_n 0, 1) := by decide +kernel
theorem dX12_looks_1 : decode cX12_looks 1 = .ok (.aload_n 0, 1) := by decide +kernel
theorem dX12_looks_2 : decode cX12_looks 2 = .ok (.getfield 20, 3) := by decide +kernel
theorem dX12_looks_5 : decode cX12_looks 5 = .ok (.sipush 246, 3) := by decide +kernel
theorem dX12_looks_8 : decode cX12_looks 8 = .ok (.iaload, 1) := by decide +kernel
theorem dX12_looks_9 : decode cX12_looks 9 = .ok (.putfield 378, 3) := by decide +kernel
theorem dX12_looks_12 : decode cX12_looks 12 = .ok (.aload_n 0, 1) := by decide +kernel
theorem dX12_looks_13 : decode cX12_looks 13 = .ok (.aload_n 0, 1) := by decide +kernel
theorem dX12_looks_14 : decode cX12_looks 14 = .ok (.getfield 20, 3) := by decide +kernel
theorem dX12_looks_17 : decode cX12_looks 17 = .ok (.sipush 248, 3) := by decide +kernel
theorem dX12_looks_20 : decode cX12_looks 20 = .ok (.iaload, 1) := by decide +kernel
theorem dX12_looks_21 : decode cX12_looks 21 = .ok (.putfield 381, 3) := by decide +kernel
theorem dX12_looks_24 : decode cX12_looks 24 = .ok (.aload_n 0, 1) := by decide +kernel
theorem dX12_looks_25 : decode cX12_looks 25 = .ok (.iconst 0, 1) := by decide +kernel
theorem dX12_looks_26 : decode cX12_looks 26 = .ok (.putfield 384, 3) := by decide +kernel
theorem dX12_looks_29 : decode cX12_looks 29 = .ok (.iconst 0, 1) := by decide +kernel
theorem dX12_looks_30 : decode cX12_looks 30 = .ok (.istore_n 1, 1) := by decide +kernel
theorem dX12_looks_31 : decode cX12_looks 31 = .ok (.iload_n 1, 1) := by decide +kernel
theorem dX12_looks_32 : decode cX12_looks 32 = .ok (.aload_n 0, 1) := by decide +kernel
theorem dX12_looks_33 : decode cX12_looks 33 = .ok (.getfield 378, 3) := by decide +kernel
theorem dX12_looks_36 : decode cX12_looks 36 = .ok (.if_icmp .ge 45, 3) := by decide +kernel
theorem dX12_looks_39 : decode cX12_looks 39 = .ok (.aload_n 0, 1) := by decide +kernel
theorem dX12_looks_40 : decode cX12_looks 40 = .ok (.getfield 77, 3) := by decide +kernel
theorem dX12_looks_43 : decode cX12_looks 43 = .ok (.iload_n 1, 1) := by decide +kernel
theorem dX12_looks_44 : decode cX12_looks 44 = .ok (.aload_n 0, 1) := by decide +kernel
theorem dX12_looks_45 : decode cX12_looks 45 = .ok (.getfield 20, 3) := by decide +kernel
theorem dX12_looks_48 : decode cX12_looks 48 = .ok (.bipush 60, 2) := by decide +kernel
theorem dX12_looks_50 : decode cX12_looks 50 = .ok (.iconst 3, 1) := by decide +kernel
theorem dX12_looks_51 : decode cX12_looks 51 = .ok (.iload_n 1, 1) := by decide +kernel
theorem dX12_looks_52 : decode cX12_looks 52 = .ok (.imul, 1) := by decide +kernel
theorem dX12_looks_53 : decode cX12_looks 53 = .ok (.iadd, 1) := by decide +kernel
theorem dX12_looks_54 : decode cX12_looks 54 = .ok (.iaload, 1) := by decide +kernel
theorem dX12_looks_55 : decode cX12_looks 55 = .ok (.iastore, 1) := by decide +kernel
theorem dX12_looks_56 : decode cX12_looks 56 = .ok (.aload_n 0, 1) := by decide +kernel
theorem dX12_looks_57 : decode cX12_looks 57 = .ok (.getfield 80, 3) := by decide +kernel
theorem dX12_looks_60 : decode cX12_looks 60 = .ok (.iload_n 1, 1) := by decide +kernel
theorem dX12_looks_61 : decode cX12_looks 61 = .ok (.aload_n 0, 1) := by decide +kernel
theorem dX12_looks_62 : decode cX12_looks 62 = .ok (.getfield 20, 3) := by decide +kernel
theorem dX12_looks_65 : decode cX12_looks 65 = .ok (.bipush 60, 2) := by decide +kernel
theorem dX12_looks_67 : decode cX12_looks 67 = .ok (.iconst 3, 1) := by decide +kernel
theorem dX12_looks_68 : decode cX12_looks 68 = .ok (.iload_n 1, 1) := by decide +kernel
theorem dX12_looks_69 : decode cX12_looks 69 = .ok (.imul, 1) := by decide +kernel
theorem dX12_looks_70 : decode cX12_looks 70 = .ok (.iadd, 1) := by decide +kernel
theorem dX12_looks_71 : decode cX12_looks 71 = .ok (.iconst 1, 1) := by decide +kernel
theorem dX12_looks_72 : decode cX12_looks 72 = .ok (.iadd, 1) := by decide +kernel
theorem dX12_looks_73 : decode cX12_looks 73 = .ok (.iaload, 1) := by decide +kernel
theorem dX12_looks_74 : decode cX12_looks 74 = .ok (.iastore, 1) := by decide +kernel
theorem dX12_looks_75 : decode cX12_looks 75 = .ok (.iinc 1 1, 3) := by decide +kernel
theorem dX12_looks_78 : decode cX12_looks 78 = .ok (.goto (-47), 3) := by decide +kernel
theorem dX12_looks_81 : decode cX12_looks 81 = .ok (.iconst 0, 1) := by decide +kernel
theorem dX12_looks_82 : decode cX12_looks 82 = .ok (.istore_n 1, 1) := by decide +kernel
theorem dX12_looks_83 : decode cX12_looks 83 = .ok (.iload_n 1, 1) := by decide +kernel
theorem dX12_looks_84 : decode cX12_looks 84 = .ok (.aload_n 0, 1) := by decide +kernel
theorem dX12_looks_85 : decode cX12_looks 85 = .ok (.getfield 381, 3) := by decide +kernel
theorem dX12_looks_88 : decode cX12_looks 88 = .ok (.if_icmp .ge 103, 3) := by decide +kernel
theorem dX12_looks_91 : decode cX12_looks 91 = .ok (.sipush 162, 3) := by decide +kernel
theorem dX12_looks_94 : decode cX12_looks 94 = .ok (.bipush 19, 2) := by decide +kernel
theorem dX12_looks_96 : decode cX12_looks 96 = .ok (.iload_n 1, 1) := by decide +kernel
theorem dX12_looks_97 : decode cX12_looks 97 = .ok (.imul, 1) := by decide +kernel
theorem dX12_looks_98 : decode cX12_looks 98 = .ok (.iadd, 1) := by decide +kernel
theorem dX12_looks_99 : decode cX12_looks 99 = .ok (.istore_n 2, 1) := by decide +kernel
theorem dX12_looks_100 : decode cX12_looks 100 = .ok (.aload_n 0, 1) := by decide +kernel
theorem dX12_looks_101 : decode cX12_looks 101 = .ok (.getfield 101, 3) := by decide +kernel
theorem dX12_looks_104 : decode cX12_looks 104 = .ok (.iload_n 1, 1) := by decide +kernel
theorem dX12_looks_105 : decode cX12_looks 105 = .ok (.aload_n 0, 1) := by decide +kernel
theorem dX12_looks_106 : decode cX12_looks 106 = .ok (.getfield 20, 3) := by decide +kernel
theorem dX12_looks_109 : decode cX12_looks 109 = .ok (.iload_n 2, 1) := by decide +kernel
theorem dX12_looks_110 : decode cX12_looks 110 = .ok (.iaload, 1) := by decide +kernel
theorem dX12_looks_111 : decode cX12_looks 111 = .ok (.iastore, 1) := by decide +kernel
theorem dX12_looks_112 : decode cX12_looks 112 = .ok (.iconst 0, 1) := by decide +kernel
theorem dX12_looks_113 : decode cX12_looks 113 = .ok (.istore_n 3, 1) := by decide +kernel
theorem dX12_looks_114 : decode cX12_looks 114 = .ok (.iload_n 3, 1) := by decide +kernel
theorem dX12_looks_115 : decode cX12_looks 115 = .ok (.bipush 120, 2) := by decide +kernel
theorem dX12_looks_117 : decode cX12_looks 117 = .ok (.if_icmp .ge 68, 3) := by decide +kernel
theorem dX12_looks_120 : decode cX12_looks 120 = .ok (.aload_n 0, 1) := by decide +kernel
theorem dX12_looks_121 : decode cX12_looks 121 = .ok (.getfield 98, 3) := by decide +kernel
theorem dX12_looks_124 : decode cX12_looks 124 = .ok (.bipush 120, 2) := by decide +kernel
theorem dX12_looks_126 : decode cX12_looks 126 = .ok (.iload_n 1, 1) := by decide +kernel
theorem dX12_looks_127 : decode cX12_looks 127 = .ok (.imul, 1) := by decide +kernel
theorem dX12_looks_128 : decode cX12_looks 128 = .ok (.iload_n 3, 1) := by decide +kernel
theorem dX12_looks_129 : decode cX12_looks 129 = .ok (.iadd, 1) := by decide +kernel
theorem dX12_looks_130 : decode cX12_looks 130 = .ok (.iload_n 3, 1) := by decide +kernel
theorem dX12_looks_131 : decode cX12_looks 131 = .ok (.aload_n 0, 1) := by decide +kernel
theorem dX12_looks_132 : decode cX12_looks 132 = .ok (.getfield 20, 3) := by decide +kernel
theorem dX12_looks_135 : decode cX12_looks 135 = .ok (.iload_n 2, 1) := by decide +kernel
theorem dX12_looks_136 : decode cX12_looks 136 = .ok (.iconst 1, 1) := by decide +kernel
theorem dX12_looks_137 : decode cX12_looks 137 = .ok (.iadd, 1) := by decide +kernel
theorem dX12_looks_138 : decode cX12_looks 138 = .ok (.iaload, 1) := by decide +kernel
theorem dX12_looks_139 : decode cX12_looks 139 = .ok (.if_icmp .ge 7, 3) := by decide +kernel
theorem dX12_looks_142 : decode cX12_looks 142 = .ok (.iconst (-1), 1) := by decide +kernel
theorem dX12_looks_143 : decode cX12_looks 143 = .ok (.goto 35, 3) := by decide +kernel
theorem dX12_looks_146 : decode cX12_looks 146 = .ok (.aload_n 0, 1) := by decide +kernel
theorem dX12_looks_147 : decode cX12_looks 147 = .ok (.getfield 20, 3) := by decide +kernel
theorem dX12_looks_150 : decode cX12_looks 150 = .ok (.iload_n 2, 1) := by decide +kernel
theorem dX12_looks_151 : decode cX12_looks 151 = .ok (.iconst 3, 1) := by decide +kernel
theorem dX12_looks_152 : decode cX12_looks 152 = .ok (.iadd, 1) := by decide +kernel
theorem dX12_looks_153 : decode cX12_looks 153 = .ok (.iload_n 3, 1) := by decide +kernel
theorem dX12_looks_154 : decode cX12_looks 154 = .ok (.aload_n 0, 1) := by decide +kernel
theorem dX12_looks_155 : decode cX12_looks 155 = .ok (.getfield 20, 3) := by decide +kernel
theorem dX12_looks_158 : decode cX12_looks 158 = .ok (.iload_n 2, 1) := by decide +kernel
theorem dX12_looks_159 : decode cX12_looks 159 = .ok (.iconst 1, 1) := by decide +kernel
theorem dX12_looks_160 : decode cX12_looks 160 = .ok (.iadd, 1) := by decide +kernel
theorem dX12_looks_161 : decode cX12_looks 161 = .ok (.iaload, 1) := by decide +kernel
theorem dX12_looks_162 : decode cX12_looks 162 = .ok (.isub, 1) := by decide +kernel
theorem dX12_looks_163 : decode cX12_looks 163 = .ok (.aload_n 0, 1) := by decide +kernel
theorem dX12_looks_164 : decode cX12_looks 164 = .ok (.getfield 20, 3) := by decide +kernel
theorem dX12_looks_167 : decode cX12_looks 167 = .ok (.iload_n 2, 1) := by decide +kernel
theorem dX12_looks_168 : decode cX12_looks 168 = .ok (.iconst 2, 1) := by decide +kernel
theorem dX12_looks_169 : decode cX12_looks 169 = .ok (.iadd, 1) := by decide +kernel
theorem dX12_looks_170 : decode cX12_looks 170 = .ok (.iaload, 1) := by decide +kernel
theorem dX12_looks_171 : decode cX12_looks 171 = .ok (.iconst 1, 1) := by decide +kernel
theorem dX12_looks_172 : decode cX12_looks 172 = .ok (.isub, 1) := by decide +kernel
theorem dX12_looks_173 : decode cX12_looks 173 = .ok (.invokestatic 167, 3) := by decide +kernel
theorem dX12_looks_176 : decode cX12_looks 176 = .ok (.iadd, 1) := by decide +kernel
theorem dX12_looks_177 : decode cX12_looks 177 = .ok (.iaload, 1) := by decide +kernel
theorem dX12_looks_178 : decode cX12_looks 178 = .ok (.iastore, 1) := by decide +kernel
theorem dX12_looks_179 : decode cX12_looks 179 = .ok (.iinc 3 1, 3) := by decide +kernel
theorem dX12_looks_182 : decode cX12_looks 182 = .ok (.goto (-68), 3) := by decide +kernel
theorem dX12_looks_185 : decode cX12_looks 185 = .ok (.iinc 1 1, 3) := by decide +kernel
theorem dX12_looks_188 : decode cX12_looks 188 = .ok (.goto (-105), 3) := by decide +kernel
theorem dX12_looks_191 : decode cX12_looks 191 = .ok (.aload_n 0, 1) := by decide +kernel
theorem dX12_looks_192 : decode cX12_looks 192 = .ok (.aload_n 0, 1) := by decide +kernel
theorem dX12_looks_193 : decode cX12_looks 193 = .ok (.getfield 74, 3) := by decide +kernel
theorem dX12_looks_196 : decode cX12_looks 196 = .ok (.aload_n 0, 1) := by decide +kernel
theorem dX12_looks_197 : decode cX12_looks 197 = .ok (.invokevirtual 370, 3) := by decide +kernel
theorem dX12_looks_200 : decode cX12_looks 200 = .ok (.invokevirtual 374, 3) := by decide +kernel
theorem dX12_looks_203 : decode cX12_looks 203 = .ok (.return_, 1) := by decide +kernel
set_option maxRecDepth 20000 in
theorem T_X12_looks_31 {Q : Option Value → ah_T → Prop} {h : ah_T} (hs : Sh h) (x1 : Int32) (ht : (((ah_i h 82 41) ≤ x1 → Wp mX12_looks Q 0 0 83 [some (.ref 82), some (.int 0), none, none] [] h) ∧ (¬ (ah_i h 82 41) ≤ x1 → (vp_in (60 + (3 * x1)) (ah_n h 84)) ∧ (vp_in x1 (ah_n h 100)) ∧ (∀ h13, h13 = ah_si h 100 (Int32.toNatClampNeg x1) (ah_i h 84 (Int32.toNatClampNeg (60 + (3 * x1)))) → (vp_in ((60 + (3 * x1)) + 1) (ah_n h13 84)) ∧ (vp_in x1 (ah_n h13 101)) ∧ (∀ h18, h18 = ah_si h13 101 (Int32.toNatClampNeg x1) (ah_i h13 84 (Int32.toNatClampNeg ((60 + (3 * x1)) + 1))) → Wp mX12_looks Q 0 0 31 [some (.ref 82), some (.int (x1 + 1)), none, none] [] h18))))) : Wp mX12_looks Q 0 0 31 [some (.ref 82), some (.int x1), none, none] [] h := by
  refine ab_iload_n (i := 1) dX12_looks_31 rfl rfl ?_
  refine ab_aload_n (i := 0) dX12_looks_32 rfl rfl ?_
  refine ab_getI f_X12_378 rfl (sh_k hs 82 12 (by decide) rfl) dX12_looks_33 ?_
  refine ab_icmp_ge (tgt := 81) dX12_looks_36 (by decide) (fun c10 => ?_) (fun c10 => ?_)
  · have ht := ht.1 c10
    refine ab_iconst (v := 0) dX12_looks_81 (by decide) ?_
    refine ab_istore_n (i := 1) (L' := [some (.ref 82), some (.int 0), none, none]) dX12_looks_82 rfl (by exact (Nat.le_of_ble_eq_true rfl)) rfl rfl ?_
    exact Wp.fewer (L' := [some (.ref 82), some (.int 0), none, none]) (show ab_leL _ _ from ⟨rfl, ⟨rfl, trivial⟩⟩) ht
  · have ht := ht.2 c10
    refine ab_aload_n (i := 0) dX12_looks_39 rfl rfl ?_
    refine ab_getR (b := 100) f_X12_77 rfl (sh_k hs 82 12 (by decide) rfl) (sh_r hs 116 rfl) dX12_looks_40 ?_
    refine ab_iload_n (i := 1) dX12_looks_43 rfl rfl ?_
    refine ab_aload_n (i := 0) dX12_looks_44 rfl rfl ?_
    refine ab_getR (b := 84) f_X12_20 rfl (sh_k hs 82 12 (by decide) rfl) (sh_r hs 100 rfl) dX12_looks_45 ?_
    refine ab_bipush (v := 60) dX12_looks_48 (by decide) ?_
    refine ab_iconst (v := 3) dX12_looks_50 (by decide) ?_
    refine ab_iload_n (i := 1) dX12_looks_51 rfl rfl ?_
    refine ab_imul dX12_looks_52 ?_
    refine ab_iadd dX12_looks_53 ?_
    obtain ⟨hc11, ht⟩ := ht
    refine ab_iald (sh_k hs 84 14 (by decide) rfl) hc11 dX12_looks_54 ?_
    obtain ⟨hc12, ht⟩ := ht
    refine ab_iast (sh_k hs 100 14 (by decide) rfl) hc12 dX12_looks_55 ?_
    refine Wp.nm fun h13 e14 => ?_
    have ht := ht h13 e14
    have hs15 : Sh h13 := by rw [e14]; exact sh_si hs
    refine ab_aload_n (i := 0) dX12_looks_56 rfl rfl ?_
    refine ab_getR (b := 101) f_X12_80 rfl (sh_k hs15 82 12 (by decide) rfl) (sh_r hs15 117 rfl) dX12_looks_57 ?_
    refine ab_iload_n (i := 1) dX12_looks_60 rfl rfl ?_
    refine ab_aload_n (i := 0) dX12_looks_61 rfl rfl ?_
    refine ab_getR (b := 84) f_X12_20 rfl (sh_k hs15 82 12 (by decide) rfl) (sh_r hs15 100 rfl) dX12_looks_62 ?_
    refine ab_bipush (v := 60) dX12_looks_65 (by decide) ?_
    refine ab_iconst (v := 3) dX12_looks_67 (by decide) ?_
    refine ab_iload_n (i := 1) dX12_looks_68 rfl rfl ?_
    refine ab_imul dX12_looks_69 ?_
    refine ab_iadd dX12_looks_70 ?_
    refine ab_iconst (v := 1) dX12_looks_71 (by decide) ?_
    refine ab_iadd dX12_looks_72 ?_
    obtain ⟨hc16, ht⟩ := ht
    refine ab_iald (sh_k hs15 84 14 (by decide) rfl) hc16 dX12_looks_73 ?_
    obtain ⟨hc17, ht⟩ := ht
    refine ab_iast (sh_k hs15 101 14 (by decide) rfl) hc17 dX12_looks_74 ?_
    refine Wp.nm fun h18 e19 => ?_
    have ht := ht h18 e19
    have hs20 : Sh h18 := by rw [e19]; exact sh_si hs15
    refine ab_iinc (i := 1) (x := x1) (v := (x1 + 1)) (L' := [some (.ref 82), some (.int (x1 + 1)), none, none]) dX12_looks_75 rfl rfl (by exact (Nat.le_of_ble_eq_true rfl)) rfl rfl ?_
    refine ab_goto (tgt := 31) dX12_looks_78 (by decide) ?_
    exact Wp.fewer (L' := [some (.ref 82), some (.int (x1 + 1)), none, none]) (show ab_leL _ _ from ⟨rfl, ⟨rfl, trivial⟩⟩) ht
set_option maxRecDepth 20000 in
theorem T_X12_looks_83 {Q : Option Value → ah_T → Prop} {h : ah_T} (hs : Sh h) (x1 : Int32) (ht : (((ah_i h 82 42) ≤ x1 → (Mt mX12_shutNow [.ref 82] h (ab_qi fun v24 h22 => Sh h22 ∧ (Mt mX12_measures [.ref 82, .ref 99, .int v24] h22 (ab_qv fun h25 => Sh h25 ∧ Q none h25))))) ∧ (¬ (ah_i h 82 42) ≤ x1 → (vp_in (162 + (19 * x1)) (ah_n h 84)) ∧ (vp_in x1 (ah_n h 108)) ∧ (∀ h30, h30 = ah_si h 108 (Int32.toNatClampNeg x1) (ah_i h 84 (Int32.toNatClampNeg (162 + (19 * x1)))) → Wp mX12_looks Q 0 0 114 [some (.ref 82), some (.int x1), some (.int (162 + (19 * x1))), some (.int 0)] [] h30)))) : Wp mX12_looks Q 0 0 83 [some (.ref 82), some (.int x1), none, none] [] h := by
  refine ab_iload_n (i := 1) dX12_looks_83 rfl rfl ?_
  refine ab_aload_n (i := 0) dX12_looks_84 rfl rfl ?_
  refine ab_getI f_X12_381 rfl (sh_k hs 82 12 (by decide) rfl) dX12_looks_85 ?_
  refine ab_icmp_ge (tgt := 191) dX12_looks_88 (by decide) (fun c21 => ?_) (fun c21 => ?_)
  · have ht := ht.1 c21
    refine ab_aload_n (i := 0) dX12_looks_191 rfl rfl ?_
    refine ab_aload_n (i := 0) dX12_looks_192 rfl rfl ?_
    refine ab_getR (b := 99) f_X12_74 rfl (sh_k hs 82 12 (by decide) rfl) (sh_r hs 115 rfl) dX12_looks_193 ?_
    refine ab_aload_n (i := 0) dX12_looks_196 rfl rfl ?_
    refine ab_callV (b := 82) (As := []) ht (Y_X12_shutNow) l_X12_370 in_X12_shutNow se_X12_shutNow (sh_k hs 82 12 (by decide) rfl) (by decide) rfl rfl ⟨(Nat.le_of_ble_eq_true rfl), (Nat.le_of_ble_eq_true rfl), (Nat.le_of_ble_eq_true rfl), (Nat.le_of_ble_eq_true rfl)⟩ dX12_looks_197 ?_
    rintro _ h22 ⟨v24, rfl, hs23, ht⟩
    refine ab_callV (b := 82) (As := [.ref 99, .int v24]) ht (Y_X12_measures) l_X12_374 in_X12_measures se_X12_measures (sh_k hs23 82 12 (by decide) rfl) (by decide) rfl rfl ⟨(Nat.le_of_ble_eq_true rfl), (Nat.le_of_ble_eq_true rfl), (Nat.le_of_ble_eq_true rfl), (Nat.le_of_ble_eq_true rfl)⟩ dX12_looks_200 ?_
    rintro _ h25 ⟨rfl, hs26, ht⟩
    exact ab_vret rfl dX12_looks_203 (Nat.le_of_ble_eq_true rfl) (Nat.le_of_ble_eq_true rfl) ht
  · have ht := ht.2 c21
    refine ab_sipush (v := 162) dX12_looks_91 (by decide) ?_
    refine ab_bipush (v := 19) dX12_looks_94 (by decide) ?_
    refine ab_iload_n (i := 1) dX12_looks_96 rfl rfl ?_
    refine ab_imul dX12_looks_97 ?_
    refine ab_iadd dX12_looks_98 ?_
    refine ab_istore_n (i := 2) (L' := [some (.ref 82), some (.int x1), some (.int (162 + (19 * x1))), none]) dX12_looks_99 rfl (by exact (Nat.le_of_ble_eq_true rfl)) rfl rfl ?_
    refine ab_aload_n (i := 0) dX12_looks_100 rfl rfl ?_
    refine ab_getR (b := 108) f_X12_101 rfl (sh_k hs 82 12 (by decide) rfl) (sh_r hs 124 rfl) dX12_looks_101 ?_
    refine ab_iload_n (i := 1) dX12_looks_104 rfl rfl ?_
    refine ab_aload_n (i := 0) dX12_looks_105 rfl rfl ?_
    refine ab_getR (b := 84) f_X12_20 rfl (sh_k hs 82 12 (by decide) rfl) (sh_r hs 100 rfl) dX12_looks_106 ?_
    refine ab_iload_n (i := 2) dX12_looks_109 rfl rfl ?_
    obtain ⟨hc28, ht⟩ := ht
    refine ab_iald (sh_k hs 84 14 (by decide) rfl) hc28 dX12_looks_110 ?_
    obtain ⟨hc29, ht⟩ := ht
    refine ab_iast (sh_k hs 108 14 (by decide) rfl) hc29 dX12_looks_111 ?_
    refine Wp.nm fun h30 e31 => ?_
    have ht := ht h30 e31
    have hs32 : Sh h30 := by rw [e31]; exact sh_si hs
    refine ab_iconst (v := 0) dX12_looks_112 (by decide) ?_
    refine ab_istore_n (i := 3) (L' := [some (.ref 82), some (.int x1), some (.int (162 + (19 * x1))), some (.int 0)]) dX12_looks_113 rfl (by exact (Nat.le_of_ble_eq_true rfl)) rfl rfl ?_
    exact Wp.fewer (L' := [some (.ref 82), some (.int x1), some (.int (162 + (19 * x1))), some (.int 0)]) (show ab_leL _ _ from ⟨rfl, ⟨rfl, ⟨rfl, ⟨rfl, trivial⟩⟩⟩⟩) ht
set_option maxRecDepth 20000 in
theorem T_X12_looks_114 {Q : Option Value → ah_T → Prop} {h : ah_T} (hs : Sh h) (x1 : Int32) (x2 : Int32) (x3 : Int32) (ht : ((120 ≤ x3 → Wp mX12_looks Q 0 0 83 [some (.ref 82), some (.int (x1 + 1)), none, none] [] h) ∧ (¬ 120 ≤ x3 → (vp_in (x2 + 1) (ah_n h 84)) ∧ (((ah_i h 84 (Int32.toNatClampNeg (x2 + 1))) ≤ x3 → (vp_in (x2 + 1) (ah_n h 84)) ∧ (vp_in (x2 + 2) (ah_n h 84)) ∧ (vp_in ((x2 + 3) + (f_X12_lesser (x3 - (ah_i h 84 (Int32.toNatClampNeg (x2 + 1)))) ((ah_i h 84 (Int32.toNatClampNeg (x2 + 2))) - 1))) (ah_n h 84)) ∧ (vp_in ((120 * x1) + x3) (ah_n h 107)) ∧ (∀ h40, h40 = ah_si h 107 (Int32.toNatClampNeg ((120 * x1) + x3)) (ah_i h 84 (Int32.toNatClampNeg ((x2 + 3) + (f_X12_lesser (x3 - (ah_i h 84 (Int32.toNatClampNeg (x2 + 1)))) ((ah_i h 84 (Int32.toNatClampNeg (x2 + 2))) - 1))))) → Wp mX12_looks Q 0 0 114 [some (.ref 82), some (.int x1), some (.int x2), some (.int (x3 + 1))] [] h40)) ∧ (¬ (ah_i h 84 (Int32.toNatClampNeg (x2 + 1))) ≤ x3 → (vp_in ((120 * x1) + x3) (ah_n h 107)) ∧ (∀ h44, h44 = ah_si h 107 (Int32.toNatClampNeg ((120 * x1) + x3)) (-1) → Wp mX12_looks Q 0 0 114 [some (.ref 82), some (.int x1), some (.int x2), some (.int (x3 + 1))] [] h44)))))) : Wp mX12_looks Q 0 0 114 [some (.ref 82), some (.int x1), some (.int x2), some (.int x3)] [] h := by
  refine ab_iload_n (i := 3) dX12_looks_114 rfl rfl ?_
  refine ab_bipush (v := 120) dX12_looks_115 (by decide) ?_
  refine ab_icmp_ge (tgt := 185) dX12_looks_117 (by decide) (fun c33 => ?_) (fun c33 => ?_)
  · have ht := ht.1 c33
    refine ab_iinc (i := 1) (x := x1) (v := (x1 + 1)) (L' := [some (.ref 82), some (.int (x1 + 1)), some (.int x2), some (.int x3)]) dX12_looks_185 rfl rfl (by exact (Nat.le_of_ble_eq_true rfl)) rfl rfl ?_
    refine ab_goto (tgt := 83) dX12_looks_188 (by decide) ?_
    exact Wp.fewer (L' := [some (.ref 82), some (.int (x1 + 1)), none, none]) (show ab_leL _ _ from ⟨rfl, ⟨rfl, trivial⟩⟩) ht
  · have ht := ht.2 c33
    refine ab_aload_n (i := 0) dX12_looks_120 rfl rfl ?_
    refine ab_getR (b := 107) f_X12_98 rfl (sh_k hs 82 12 (by decide) rfl) (sh_r hs 123 rfl) dX12_looks_121 ?_
    refine ab_bipush (v := 120) dX12_looks_124 (by decide) ?_
    refine ab_iload_n (i := 1) dX12_looks_126 rfl rfl ?_
    refine ab_imul dX12_looks_127 ?_
    refine ab_iload_n (i := 3) dX12_looks_128 rfl rfl ?_
    refine ab_iadd dX12_looks_129 ?_
    refine ab_iload_n (i := 3) dX12_looks_130 rfl rfl ?_
    refine ab_aload_n (i := 0) dX12_looks_131 rfl rfl ?_
    refine ab_getR (b := 84) f_X12_20 rfl (sh_k hs 82 12 (by decide) rfl) (sh_r hs 100 rfl) dX12_looks_132 ?_
    refine ab_iload_n (i := 2) dX12_looks_135 rfl rfl ?_
    refine ab_iconst (v := 1) dX12_looks_136 (by decide) ?_
    refine ab_iadd dX12_looks_137 ?_
    obtain ⟨hc34, ht⟩ := ht
    refine ab_iald (sh_k hs 84 14 (by decide) rfl) hc34 dX12_looks_138 ?_
    refine ab_icmp_ge (tgt := 146) dX12_looks_139 (by decide) (fun c35 => ?_) (fun c35 => ?_)
    · have ht := ht.1 c35
      refine ab_aload_n (i := 0) dX12_looks_146 rfl rfl ?_
      refine ab_getR (b := 84) f_X12_20 rfl (sh_k hs 82 12 (by decide) rfl) (sh_r hs 100 rfl) dX12_looks_147 ?_
      refine ab_iload_n (i := 2) dX12_looks_150 rfl rfl ?_
      refine ab_iconst (v := 3) dX12_looks_151 (by decide) ?_
      refine ab_iadd dX12_looks_152 ?_
      refine ab_iload_n (i := 3) dX12_looks_153 rfl rfl ?_
      refine ab_aload_n (i := 0) dX12_looks_154 rfl rfl ?_
      refine ab_getR (b := 84) f_X12_20 rfl (sh_k hs 82 12 (by decide) rfl) (sh_r hs 100 rfl) dX12_looks_155 ?_
      refine ab_iload_n (i := 2) dX12_looks_158 rfl rfl ?_
      refine ab_iconst (v := 1) dX12_looks_159 (by decide) ?_
      refine ab_iadd dX12_looks_160 ?_
      obtain ⟨hc36, ht⟩ := ht
      refine ab_iald (sh_k hs 84 14 (by decide) rfl) hc36 dX12_looks_161 ?_
      refine ab_isub dX12_looks_162 ?_
      refine ab_aload_n (i := 0) dX12_looks_163 rfl rfl ?_
      refine ab_getR (b := 84) f_X12_20 rfl (sh_k hs 82 12 (by decide) rfl) (sh_r hs 100 rfl) dX12_looks_164 ?_
      refine ab_iload_n (i := 2) dX12_looks_167 rfl rfl ?_
      refine ab_iconst (v := 2) dX12_looks_168 (by decide) ?_
      refine ab_iadd dX12_looks_169 ?_
      obtain ⟨hc37, ht⟩ := ht
      refine ab_iald (sh_k hs 84 14 (by decide) rfl) hc37 dX12_looks_170 ?_
      refine ab_iconst (v := 1) dX12_looks_171 (by decide) ?_
      refine ab_isub dX12_looks_172 ?_
      refine ab_callS (Q' := fun r h' => r = some (.int (f_X12_lesser (x3 - (ah_i h 84 (Int32.toNatClampNeg (x2 + 1)))) ((ah_i h 84 (Int32.toNatClampNeg (x2 + 2))) - 1))) ∧ h = h') (As := [.int (x3 - (ah_i h 84 (Int32.toNatClampNeg (x2 + 1)))), .int ((ah_i h 84 (Int32.toNatClampNeg (x2 + 2))) - 1)]) (c_X12_lesser hs (x3 - (ah_i h 84 (Int32.toNatClampNeg (x2 + 1)))) ((ah_i h 84 (Int32.toNatClampNeg (x2 + 2))) - 1) ⟨rfl, rfl⟩) (Y_X12_lesser) l_X12_167 st_X12_lesser rfl ⟨(Nat.le_of_ble_eq_true rfl), (Nat.le_of_ble_eq_true rfl), (Nat.le_of_ble_eq_true rfl), (Nat.le_of_ble_eq_true rfl)⟩ dX12_looks_173 ?_
      rintro _ _ ⟨rfl, rfl⟩
      refine ab_iadd dX12_looks_176 ?_
      obtain ⟨hc38, ht⟩ := ht
      refine ab_iald (sh_k hs 84 14 (by decide) rfl) hc38 dX12_looks_177 ?_
      obtain ⟨hc39, ht⟩ := ht
      refine ab_iast (sh_k hs 107 14 (by decide) rfl) hc39 dX12_looks_178 ?_
      refine Wp.nm fun h40 e41 => ?_
      have ht := ht h40 e41
      have hs42 : Sh h40 := by rw [e41]; exact sh_si hs
      refine ab_iinc (i := 3) (x := x3) (v := (x3 + 1)) (L' := [some (.ref 82), some (.int x1), some (.int x2), some (.int (x3 + 1))]) dX12_looks_179 rfl rfl (by exact (Nat.le_of_ble_eq_true rfl)) rfl rfl ?_
      refine ab_goto (tgt := 114) dX12_looks_182 (by decide) ?_
      exact Wp.fewer (L' := [some (.ref 82), some (.int x1), some (.int x2), some (.int (x3 + 1))]) (show ab_leL _ _ from ⟨rfl, ⟨rfl, ⟨rfl, ⟨rfl, trivial⟩⟩⟩⟩) ht
    · have ht := ht.2 c35
      refine ab_iconst (v := (-1)) dX12_looks_142 (by decide) ?_
      refine ab_goto (tgt := 178) dX12_looks_143 (by decide) ?_
      obtain ⟨hc43, ht⟩ := ht
      refine ab_iast (sh_k hs 107 14 (by decide) rfl) hc43 dX12_looks_178 ?_
      refine Wp.nm fun h44 e45 => ?_
      have ht := ht h44 e45
      have hs46 : Sh h44 := by rw [e45]; exact sh_si hs
      refine ab_iinc (i := 3) (x := x3) (v := (x3 + 1)) (L' := [some (.ref 82), some (.int x1), some (.int x2), some (.int (x3 + 1))]) dX12_looks_179 rfl rfl (by exact (Nat.le_of_ble_eq_true rfl)) rfl rfl ?_
      refine ab_goto (tgt := 114) dX12_looks_182 (by decide) ?_
      exact Wp.fewer (L' := [some (.ref 82), some (.int x1), some (.int x2), some (.int (x3 + 1))]) (show ab_leL _ _ from ⟨rfl, ⟨rfl, ⟨rfl, ⟨rfl, trivial⟩⟩⟩⟩) ht
set_option maxRecDepth 20000 in
theorem T_X12_looks {Q : Option Value → ah_T → Prop} {h : ah_T} (hs : Sh h)  (ht : (∀ h1, h1 = ah_si h 82 41 (ah_i h 84 (Int32.toNatClampNeg 246)) → (∀ h4, h4 = ah_si h1 82 42 (ah_i h1 84 (Int32.toNatClampNeg 248)) → (∀ h7, h7 = ah_si h4 82 43 0 → Wp mX12_looks Q 0 0 31 [some (.ref 82), some (.int 0), none, none] [] h7)))) : Mt mX12_looks [.ref 82] h Q := by
  refine Mt.ofWp rfl (by exact (Nat.le_of_ble_eq_true rfl)) (Wp.fewer (L' := [some (.ref 82), none, none, none]) (show ab_leL _ _ from ⟨rfl, trivial⟩) ?_)
  refine ab_aload_n (i := 0) dX12_looks_0 rfl rfl ?_
  refine ab_aload_n (i := 0) dX12_looks_1 rfl rfl ?_
  refine ab_getR (b := 84) f_X12_20 rfl (sh_k hs 82 12 (by decide) rfl) (sh_r hs 100 rfl) dX12_looks_2 ?_
  refine ab_sipush (v := 246) dX12_looks_5 (by decide) ?_
  refine ab_iald (sh_k hs 84 14 (by decide) rfl) (sh_in hs 84 5860 (by decide) (by decide) rfl (by unfold vp_in; decide)) dX12_looks_8 ?_
  refine ab_putI f_X12_378 (Or.inl rfl) rfl (sh_k hs 82 12 (by decide) rfl) rfl rfl dX12_looks_9 ?_
  refine Wp.nm fun h1 e2 => ?_
  have ht := ht h1 e2
  have hs3 : Sh h1 := by rw [e2]; exact sh_si hs
  refine ab_aload_n (i := 0) dX12_looks_12 rfl rfl ?_
  refine ab_aload_n (i := 0) dX12_looks_13 rfl rfl ?_
  refine ab_getR (b := 84) f_X12_20 rfl (sh_k hs3 82 12 (by decide) rfl) (sh_r hs3 100 rfl) dX12_looks_14 ?_
  refine ab_sipush (v := 248) dX12_looks_17 (by decide) ?_
  refine ab_iald (sh_k hs3 84 14 (by decide) rfl) (sh_in hs3 84 5860 (by decide) (by decide) rfl (by unfold vp_in; decide)) dX12_looks_20 ?_
  refine ab_putI f_X12_381 (Or.inl rfl) rfl (sh_k hs3 82 12 (by decide) rfl) rfl rfl dX12_looks_21 ?_
  refine Wp.nm fun h4 e5 => ?_
  have ht := ht h4 e5
  have hs6 : Sh h4 := by rw [e5]; exact sh_si hs3
  refine ab_aload_n (i := 0) dX12_looks_24 rfl rfl ?_
  refine ab_iconst (v := 0) dX12_looks_25 (by decide) ?_
  refine ab_putI f_X12_384 (Or.inl rfl) rfl (sh_k hs6 82 12 (by decide) rfl) rfl rfl dX12_looks_26 ?_
  refine Wp.nm fun h7 e8 => ?_
  have ht := ht h7 e8
  have hs9 : Sh h7 := by rw [e8]; exact sh_si hs6
  refine ab_iconst (v := 0) dX12_looks_29 (by decide) ?_
  refine ab_istore_n (i := 1) (L' := [some (.ref 82), some (.int 0), none, none]) dX12_looks_30 rfl (by exact (Nat.le_of_ble_eq_true rfl)) rfl rfl ?_
  exact Wp.fewer (L' := [some (.ref 82), some (.int 0), none, none]) (show ab_leL _ _ from ⟨rfl, ⟨rfl, trivial⟩⟩) ht
theorem dX12_nights_0 : decode cX12_nights 0 = .ok (.aload_n 0, 1) := by decide +kernel
theorem dX12_nights_1 : decode cX12_nights 1 = .ok (.iconst 0, 1) := by decide +kernel
theorem dX12_nights_2 : decode cX12_nights 2 = .ok (.putfield 387, 3) := by decide +kernel
theorem dX12_nights_5 : decode cX12_nights 5 = .ok (.aload_n 0, 1) := by decide +kernel
theorem dX12_nights_6 : decode cX12_nights 6 = .ok (.iconst 0, 1) := by decide +kernel
theorem dX12_nights_7 : decode cX12_nights 7 = .ok (.putfield 390, 3) := by decide +kernel
theorem dX12_nights_10 : decode cX12_nights 10 = .ok (.iconst 0, 1) := by decide +kernel
theorem dX12_nights_11 : decode cX12_nights 11 = .ok (.istore_n 2, 1) := by decide +kernel
theorem dX12_nights_12 : decode cX12_nights 12 = .ok (.iload_n 2, 1) := by decide +kernel
theorem dX12_nights_13 : decode cX12_nights 13 = .ok (.aload_n 0, 1) := by decide +kernel
theorem dX12_nights_14 : decode cX12_nights 14 = .ok (.getfield 378, 3) := by decide +kernel
theorem dX12_nights_17 : decode cX12_nights 17 = .ok (.if_icmp .ge 62, 3) := by decide +kernel
theorem dX12_nights_20 : decode cX12_nights 20 = .ok (.aload_n 0, 1) := by decide +kernel
theorem dX12_nights_21 : decode cX12_nights 21 = .ok (.getfield 92, 3) := by decide +kernel
theorem dX12_nights_24 : decode cX12_nights 24 = .ok (.iload_n 2, 1) := by decide +kernel
theorem dX12_nights_25 : decode cX12_nights 25 = .ok (.aload_n 0, 1) := by decide +kernel
theorem dX12_nights_26 : decode cX12_nights 26 = .ok (.getfield 384, 3) := by decide +kernel
theorem dX12_nights_29 : decode cX12_nights 29 = .ok (.ifCond .eq 17, 3) := by decide +kernel
theorem dX12_nights_32 : decode cX12_nights 32 = .ok (.iload_n 2, 1) := by decide +kernel
theorem dX12_nights_33 : decode cX12_nights 33 = .ok (.aload_n 0, 1) := by decide +kernel
theorem dX12_nights_34 : decode cX12_nights 34 = .ok (.getfield 378, 3) := by decide +kernel
theorem dX12_nights_37 : decode cX12_nights 37 = .ok (.iconst 1, 1) := by decide +kernel
theorem dX12_nights_38 : decode cX12_nights 38 = .ok (.isub, 1) := by decide +kernel
theorem dX12_nights_39 : decode cX12_nights 39 = .ok (.if_icmp .ne 7, 3) := by decide +kernel
theorem dX12_nights_42 : decode cX12_nights 42 = .ok (.iconst 1, 1) := by decide +kernel
theorem dX12_nights_43 : decode cX12_nights 43 = .ok (.goto 4, 3) := by decide +kernel
theorem dX12_nights_46 : decode cX12_nights 46 = .ok (.iconst 0, 1) := by decide +kernel
theorem dX12_nights_47 : decode cX12_nights 47 = .ok (.bastore, 1) := by decide +kernel
theorem dX12_nights_48 : decode cX12_nights 48 = .ok (.aload_n 0, 1) := by decide +kernel
theorem dX12_nights_49 : decode cX12_nights 49 = .ok (.getfield 86, 3) := by decide +kernel
theorem dX12_nights_52 : decode cX12_nights 52 = .ok (.iload_n 2, 1) := by decide +kernel
theorem dX12_nights_53 : decode cX12_nights 53 = .ok (.iconst 0, 1) := by decide +kernel
theorem dX12_nights_54 : decode cX12_nights 54 = .ok (.iastore, 1) := by decide +kernel
theorem dX12_nights_55 : decode cX12_nights 55 = .ok (.aload_n 0, 1) := by decide +kernel
theorem dX12_nights_56 : decode cX12_nights 56 = .ok (.getfield 89, 3) := by decide +kernel
theorem dX12_nights_59 : decode cX12_nights 59 = .ok (.iload_n 2, 1) := by decide +kernel
theorem dX12_nights_60 : decode cX12_nights 60 = .ok (.iconst (-1), 1) := by decide +kernel
theorem dX12_nights_61 : decode cX12_nights 61 = .ok (.iastore, 1) := by decide +kernel
theorem dX12_nights_62 : decode cX12_nights 62 = .ok (.aload_n 0, 1) := by decide +kernel
theorem dX12_nights_63 : decode cX12_nights 63 = .ok (.getfield 83, 3) := by decide +kernel
theorem dX12_nights_66 : decode cX12_nights 66 = .ok (.iload_n 2, 1) := by decide +kernel
theorem dX12_nights_67 : decode cX12_nights 67 = .ok (.aload_n 0, 1) := by decide +kernel
theorem dX12_nights_68 : decode cX12_nights 68 = .ok (.iload_n 2, 1) := by decide +kernel
theorem dX12_nights_69 : decode cX12_nights 69 = .ok (.invokevirtual 393, 3) := by decide +kernel
theorem dX12_nights_72 : decode cX12_nights 72 = .ok (.iastore, 1) := by decide +kernel
theorem dX12_nights_73 : decode cX12_nights 73 = .ok (.iinc 2 1, 3) := by decide +kernel
theorem dX12_nights_76 : decode cX12_nights 76 = .ok (.goto (-64), 3) := by decide +kernel
theorem dX12_nights_79 : decode cX12_nights 79 = .ok (.iconst 0, 1) := by decide +kernel
theorem dX12_nights_80 : decode cX12_nights 80 = .ok (.istore_n 2, 1) := by decide +kernel
theorem dX12_nights_81 : decode cX12_nights 81 = .ok (.iload_n 2, 1) := by decide +kernel
theorem dX12_nights_82 : decode cX12_nights 82 = .ok (.bipush 120, 2) := by decide +kernel
theorem dX12_nights_84 : decode cX12_nights 84 = .ok (.if_icmp .ge 26, 3) := by decide +kernel
theorem dX12_nights_87 : decode cX12_nights 87 = .ok (.aload_n 0, 1) := by decide +kernel
theorem dX12_nights_88 : decode cX12_nights 88 = .ok (.iload_n 2, 1) := by decide +kernel
theorem dX12_nights_89 : decode cX12_nights 89 = .ok (.invokevirtual 396, 3) := by decide +kernel
theorem dX12_nights_92 : decode cX12_nights 92 = .ok (.iload_n 1, 1) := by decide +kernel
theorem dX12_nights_93 : decode cX12_nights 93 = .ok (.ifCond .eq 11, 3) := by decide +kernel
theorem dX12_nights_96 : decode cX12_nights 96 = .ok (.aload_n 0, 1) := by decide +kernel
theorem dX12_nights_97 : decode cX12_nights 97 = .ok (.getfield 390, 3) := by decide +kernel
theorem dX12_nights_100 : decode cX12_nights 100 = .ok (.ifCond .le 4, 3) := by decide +kernel
theorem dX12_nights_103 : decode cX12_nights 103 = .ok (.return_, 1) := by decide +kernel
theorem dX12_nights_104 : decode cX12_nights 104 = .ok (.iinc 2 1, 3) := by decide +kernel
theorem dX12_nights_107 : decode cX12_nights 107 = .ok (.goto (-26), 3) := by decide +kernel
theorem dX12_nights_110 : decode cX12_nights 110 = .ok (.return_, 1) := by decide +kernel
set_option maxRecDepth 20000 in
theorem T_X12_nights_12 {Q : Option Value → ah_T → Prop} {h : ah_T} (hs : Sh h) (x1 : Int32) (x2 : Int32) (ht : (((ah_i h 82 41) ≤ x2 → Wp mX12_nights Q 0 0 81 [some (.ref 82), some (.int x1), some (.int 0)] [] h) ∧ (¬ (ah_i h 82 41) ≤ x2 → (((ah_i h 82 43) = 0 → (vp_in x2 (ah_n h 105)) ∧ (∀ h10, h10 = ah_si h 105 (Int32.toNatClampNeg x2) (vp_nar .boolean 0) → (vp_in x2 (ah_n h10 103)) ∧ (∀ h14, h14 = ah_si h10 103 (Int32.toNatClampNeg x2) 0 → (vp_in x2 (ah_n h14 104)) ∧ (∀ h18, h18 = ah_si h14 104 (Int32.toNatClampNeg x2) (-1) → ((¬ (ah_i h18 84 (Int32.toNatClampNeg 246)) ≤ x2 → vp_in ((60 + (3 * x2)) + 2) (ah_n h18 84))) ∧ (vp_in x2 (ah_n h18 102)) ∧ (∀ h23, h23 = ah_si h18 102 (Int32.toNatClampNeg x2) (f_X12_oilOf h18 x2) → Wp mX12_nights Q 0 0 12 [some (.ref 82), some (.int x1), some (.int (x2 + 1))] [] h23))))) ∧ (¬ (ah_i h 82 43) = 0 → ((¬ x2 = ((ah_i h 82 41) - 1) → (vp_in x2 (ah_n h 105)) ∧ (∀ h28, h28 = ah_si h 105 (Int32.toNatClampNeg x2) (vp_nar .boolean 0) → (vp_in x2 (ah_n h28 103)) ∧ (∀ h32, h32 = ah_si h28 103 (Int32.toNatClampNeg x2) 0 → (vp_in x2 (ah_n h32 104)) ∧ (∀ h36, h36 = ah_si h32 104 (Int32.toNatClampNeg x2) (-1) → ((¬ (ah_i h36 84 (Int32.toNatClampNeg 246)) ≤ x2 → vp_in ((60 + (3 * x2)) + 2) (ah_n h36 84))) ∧ (vp_in x2 (ah_n h36 102)) ∧ (∀ h41, h41 = ah_si h36 102 (Int32.toNatClampNeg x2) (f_X12_oilOf h36 x2) → Wp mX12_nights Q 0 0 12 [some (.ref 82), some (.int x1), some (.int (x2 + 1))] [] h41))))) ∧ (x2 = ((ah_i h 82 41) - 1) → (vp_in x2 (ah_n h 105)) ∧ (∀ h45, h45 = ah_si h 105 (Int32.toNatClampNeg x2) (vp_nar .boolean 1) → (vp_in x2 (ah_n h45 103)) ∧ (∀ h49, h49 = ah_si h45 103 (Int32.toNatClampNeg x2) 0 → (vp_in x2 (ah_n h49 104)) ∧ (∀ h53, h53 = ah_si h49 104 (Int32.toNatClampNeg x2) (-1) → ((¬ (ah_i h53 84 (Int32.toNatClampNeg 246)) ≤ x2 → vp_in ((60 + (3 * x2)) + 2) (ah_n h53 84))) ∧ (vp_in x2 (ah_n h53 102)) ∧ (∀ h58, h58 = ah_si h53 102 (Int32.toNatClampNeg x2) (f_X12_oilOf h53 x2) → Wp mX12_nights Q 0 0 12 [some (.ref 82), some (.int x1), some (.int (x2 + 1))] [] h58))))))))))) : Wp mX12_nights Q 0 0 12 [some (.ref 82), some (.int x1), some (.int x2)] [] h := by
  refine ab_iload_n (i := 2) dX12_nights_12 rfl rfl ?_
  refine ab_aload_n (i := 0) dX12_nights_13 rfl rfl ?_
  refine ab_getI f_X12_378 rfl (sh_k hs 82 12 (by decide) rfl) dX12_nights_14 ?_
  refine ab_icmp_ge (tgt := 79) dX12_nights_17 (by decide) (fun c7 => ?_) (fun c7 => ?_)
  · have ht := ht.1 c7
    refine ab_iconst (v := 0) dX12_nights_79 (by decide) ?_
    refine ab_istore_n (i := 2) (L' := [some (.ref 82), some (.int x1), some (.int 0)]) dX12_nights_80 rfl (by exact (Nat.le_of_ble_eq_true rfl)) rfl rfl ?_
    exact Wp.fewer (L' := [some (.ref 82), some (.int x1), some (.int 0)]) (show ab_leL _ _ from ⟨rfl, ⟨rfl, ⟨rfl, trivial⟩⟩⟩) ht
  · have ht := ht.2 c7
    refine ab_aload_n (i := 0) dX12_nights_20 rfl rfl ?_
    refine ab_getR (b := 105) f_X12_92 rfl (sh_k hs 82 12 (by decide) rfl) (sh_r hs 121 rfl) dX12_nights_21 ?_
    refine ab_iload_n (i := 2) dX12_nights_24 rfl rfl ?_
    refine ab_aload_n (i := 0) dX12_nights_25 rfl rfl ?_
    refine ab_getI f_X12_384 rfl (sh_k hs 82 12 (by decide) rfl) dX12_nights_26 ?_
    refine ab_if_eq (tgt := 46) dX12_nights_29 (by decide) (fun c8 => ?_) (fun c8 => ?_)
    · have ht := ht.1 c8
      refine ab_iconst (v := 0) dX12_nights_46 (by decide) ?_
      obtain ⟨hc9, ht⟩ := ht
      refine ab_zast (sh_k hs 105 16 (by decide) rfl) hc9 dX12_nights_47 ?_
      refine Wp.nm fun h10 e11 => ?_
      have ht := ht h10 e11
      have hs12 : Sh h10 := by rw [e11]; exact sh_si hs
      refine ab_aload_n (i := 0) dX12_nights_48 rfl rfl ?_
      refine ab_getR (b := 103) f_X12_86 rfl (sh_k hs12 82 12 (by decide) rfl) (sh_r hs12 119 rfl) dX12_nights_49 ?_
      refine ab_iload_n (i := 2) dX12_nights_52 rfl rfl ?_
      refine ab_iconst (v := 0) dX12_nights_53 (by decide) ?_
      obtain ⟨hc13, ht⟩ := ht
      refine ab_iast (sh_k hs12 103 14 (by decide) rfl) hc13 dX12_nights_54 ?_
      refine Wp.nm fun h14 e15 => ?_
      have ht := ht h14 e15
      have hs16 : Sh h14 := by rw [e15]; exact sh_si hs12
      refine ab_aload_n (i := 0) dX12_nights_55 rfl rfl ?_
      refine ab_getR (b := 104) f_X12_89 rfl (sh_k hs16 82 12 (by decide) rfl) (sh_r hs16 120 rfl) dX12_nights_56 ?_
      refine ab_iload_n (i := 2) dX12_nights_59 rfl rfl ?_
      refine ab_iconst (v := (-1)) dX12_nights_60 (by decide) ?_
      obtain ⟨hc17, ht⟩ := ht
      refine ab_iast (sh_k hs16 104 14 (by decide) rfl) hc17 dX12_nights_61 ?_
      refine Wp.nm fun h18 e19 => ?_
      have ht := ht h18 e19
      have hs20 : Sh h18 := by rw [e19]; exact sh_si hs16
      refine ab_aload_n (i := 0) dX12_nights_62 rfl rfl ?_
      refine ab_getR (b := 102) f_X12_83 rfl (sh_k hs20 82 12 (by decide) rfl) (sh_r hs20 118 rfl) dX12_nights_63 ?_
      refine ab_iload_n (i := 2) dX12_nights_66 rfl rfl ?_
      refine ab_aload_n (i := 0) dX12_nights_67 rfl rfl ?_
      refine ab_iload_n (i := 2) dX12_nights_68 rfl rfl ?_
      obtain ⟨hc21, ht⟩ := ht
      refine ab_callV (b := 82) (Q' := fun r h' => r = some (.int (f_X12_oilOf h18 x2)) ∧ h18 = h') (As := [.int x2]) (c_X12_oilOf hs20 x2  hc21 ⟨rfl, rfl⟩) (Y_X12_oilOf) l_X12_393 in_X12_oilOf se_X12_oilOf (sh_k hs20 82 12 (by decide) rfl) (by decide) rfl rfl ⟨(Nat.le_of_ble_eq_true rfl), (Nat.le_of_ble_eq_true rfl), (Nat.le_of_ble_eq_true rfl), (Nat.le_of_ble_eq_true rfl)⟩ dX12_nights_69 ?_
      rintro _ _ ⟨rfl, rfl⟩
      obtain ⟨hc22, ht⟩ := ht
      refine ab_iast (sh_k hs20 102 14 (by decide) rfl) hc22 dX12_nights_72 ?_
      refine Wp.nm fun h23 e24 => ?_
      have ht := ht h23 e24
      have hs25 : Sh h23 := by rw [e24]; exact sh_si hs20
      refine ab_iinc (i := 2) (x := x2) (v := (x2 + 1)) (L' := [some (.ref 82), some (.int x1), some (.int (x2 + 1))]) dX12_nights_73 rfl rfl (by exact (Nat.le_of_ble_eq_true rfl)) rfl rfl ?_
      refine ab_goto (tgt := 12) dX12_nights_76 (by decide) ?_
      exact Wp.fewer (L' := [some (.ref 82), some (.int x1), some (.int (x2 + 1))]) (show ab_leL _ _ from ⟨rfl, ⟨rfl, ⟨rfl, trivial⟩⟩⟩) ht
    · have ht := ht.2 c8
      refine ab_iload_n (i := 2) dX12_nights_32 rfl rfl ?_
      refine ab_aload_n (i := 0) dX12_nights_33 rfl rfl ?_
      refine ab_getI f_X12_378 rfl (sh_k hs 82 12 (by decide) rfl) dX12_nights_34 ?_
      refine ab_iconst (v := 1) dX12_nights_37 (by decide) ?_
      refine ab_isub dX12_nights_38 ?_
      refine ab_icmp_ne (tgt := 46) dX12_nights_39 (by decide) (fun c26 => ?_) (fun c26 => ?_)
      · have ht := ht.1 c26
        refine ab_iconst (v := 0) dX12_nights_46 (by decide) ?_
        obtain ⟨hc27, ht⟩ := ht
        refine ab_zast (sh_k hs 105 16 (by decide) rfl) hc27 dX12_nights_47 ?_
        refine Wp.nm fun h28 e29 => ?_
        have ht := ht h28 e29
        have hs30 : Sh h28 := by rw [e29]; exact sh_si hs
        refine ab_aload_n (i := 0) dX12_nights_48 rfl rfl ?_
        refine ab_getR (b := 103) f_X12_86 rfl (sh_k hs30 82 12 (by decide) rfl) (sh_r hs30 119 rfl) dX12_nights_49 ?_
        refine ab_iload_n (i := 2) dX12_nights_52 rfl rfl ?_
        refine ab_iconst (v := 0) dX12_nights_53 (by decide) ?_
        obtain ⟨hc31, ht⟩ := ht
        refine ab_iast (sh_k hs30 103 14 (by decide) rfl) hc31 dX12_nights_54 ?_
        refine Wp.nm fun h32 e33 => ?_
        have ht := ht h32 e33
        have hs34 : Sh h32 := by rw [e33]; exact sh_si hs30
        refine ab_aload_n (i := 0) dX12_nights_55 rfl rfl ?_
        refine ab_getR (b := 104) f_X12_89 rfl (sh_k hs34 82 12 (by decide) rfl) (sh_r hs34 120 rfl) dX12_nights_56 ?_
        refine ab_iload_n (i := 2) dX12_nights_59 rfl rfl ?_
        refine ab_iconst (v := (-1)) dX12_nights_60 (by decide) ?_
        obtain ⟨hc35, ht⟩ := ht
        refine ab_iast (sh_k hs34 104 14 (by decide) rfl) hc35 dX12_nights_61 ?_
        refine Wp.nm fun h36 e37 => ?_
        have ht := ht h36 e37
        have hs38 : Sh h36 := by rw [e37]; exact sh_si hs34
        refine ab_aload_n (i := 0) dX12_nights_62 rfl rfl ?_
        refine ab_getR (b := 102) f_X12_83 rfl (sh_k hs38 82 12 (by decide) rfl) (sh_r hs38 118 rfl) dX12_nights_63 ?_
        refine ab_iload_n (i := 2) dX12_nights_66 rfl rfl ?_
        refine ab_aload_n (i := 0) dX12_nights_67 rfl rfl ?_
        refine ab_iload_n (i := 2) dX12_nights_68 rfl rfl ?_
        obtain ⟨hc39, ht⟩ := ht
        refine ab_callV (b := 82) (Q' := fun r h' => r = some (.int (f_X12_oilOf h36 x2)) ∧ h36 = h') (As := [.int x2]) (c_X12_oilOf hs38 x2  hc39 ⟨rfl, rfl⟩) (Y_X12_oilOf) l_X12_393 in_X12_oilOf se_X12_oilOf (sh_k hs38 82 12 (by decide) rfl) (by decide) rfl rfl ⟨(Nat.le_of_ble_eq_true rfl), (Nat.le_of_ble_eq_true rfl), (Nat.le_of_ble_eq_true rfl), (Nat.le_of_ble_eq_true rfl)⟩ dX12_nights_69 ?_
        rintro _ _ ⟨rfl, rfl⟩
        obtain ⟨hc40, ht⟩ := ht
        refine ab_iast (sh_k hs38 102 14 (by decide) rfl) hc40 dX12_nights_72 ?_
        refine Wp.nm fun h41 e42 => ?_
        have ht := ht h41 e42
        have hs43 : Sh h41 := by rw [e42]; exact sh_si hs38
        refine ab_iinc (i := 2) (x := x2) (v := (x2 + 1)) (L' := [some (.ref 82), some (.int x1), some (.int (x2 + 1))]) dX12_nights_73 rfl rfl (by exact (Nat.le_of_ble_eq_true rfl)) rfl rfl ?_
        refine ab_goto (tgt := 12) dX12_nights_76 (by decide) ?_
        exact Wp.fewer (L' := [some (.ref 82), some (.int x1), some (.int (x2 + 1))]) (show ab_leL _ _ from ⟨rfl, ⟨rfl, ⟨rfl, trivial⟩⟩⟩) ht
      · have ht := ht.2 c26
        refine ab_iconst (v := 1) dX12_nights_42 (by decide) ?_
        refine ab_goto (tgt := 47) dX12_nights_43 (by decide) ?_
        obtain ⟨hc44, ht⟩ := ht
        refine ab_zast (sh_k hs 105 16 (by decide) rfl) hc44 dX12_nights_47 ?_
        refine Wp.nm fun h45 e46 => ?_
        have ht := ht h45 e46
        have hs47 : Sh h45 := by rw [e46]; exact sh_si hs
        refine ab_aload_n (i := 0) dX12_nights_48 rfl rfl ?_
        refine ab_getR (b := 103) f_X12_86 rfl (sh_k hs47 82 12 (by decide) rfl) (sh_r hs47 119 rfl) dX12_nights_49 ?_
        refine ab_iload_n (i := 2) dX12_nights_52 rfl rfl ?_
        refine ab_iconst (v := 0) dX12_nights_53 (by decide) ?_
        obtain ⟨hc48, ht⟩ := ht
        refine ab_iast (sh_k hs47 103 14 (by decide) rfl) hc48 dX12_nights_54 ?_
        refine Wp.nm fun h49 e50 => ?_
        have ht := ht h49 e50
        have hs51 : Sh h49 := by rw [e50]; exact sh_si hs47
        refine ab_aload_n (i := 0) dX12_nights_55 rfl rfl ?_
        refine ab_getR (b := 104) f_X12_89 rfl (sh_k hs51 82 12 (by decide) rfl) (sh_r hs51 120 rfl) dX12_nights_56 ?_
        refine ab_iload_n (i := 2) dX12_nights_59 rfl rfl ?_
        refine ab_iconst (v := (-1)) dX12_nights_60 (by decide) ?_
        obtain ⟨hc52, ht⟩ := ht
        refine ab_iast (sh_k hs51 104 14 (by decide) rfl) hc52 dX12_nights_61 ?_
        refine Wp.nm fun h53 e54 => ?_
        have ht := ht h53 e54
        have hs55 : Sh h53 := by rw [e54]; exact sh_si hs51
        refine ab_aload_n (i := 0) dX12_nights_62 rfl rfl ?_
        refine ab_getR (b := 102) f_X12_83 rfl (sh_k hs55 82 12 (by decide) rfl) (sh_r hs55 118 rfl) dX12_nights_63 ?_
        refine ab_iload_n (i := 2) dX12_nights_66 rfl rfl ?_
        refine ab_aload_n (i := 0) dX12_nights_67 rfl rfl ?_
        refine ab_iload_n (i := 2) dX12_nights_68 rfl rfl ?_
        obtain ⟨hc56, ht⟩ := ht
        refine ab_callV (b := 82) (Q' := fun r h' => r = some (.int (f_X12_oilOf h53 x2)) ∧ h53 = h') (As := [.int x2]) (c_X12_oilOf hs55 x2  hc56 ⟨rfl, rfl⟩) (Y_X12_oilOf) l_X12_393 in_X12_oilOf se_X12_oilOf (sh_k hs55 82 12 (by decide) rfl) (by decide) rfl rfl ⟨(Nat.le_of_ble_eq_true rfl), (Nat.le_of_ble_eq_true rfl), (Nat.le_of_ble_eq_true rfl), (Nat.le_of_ble_eq_true rfl)⟩ dX12_nights_69 ?_
        rintro _ _ ⟨rfl, rfl⟩
        obtain ⟨hc57, ht⟩ := ht
        refine ab_iast (sh_k hs55 102 14 (by decide) rfl) hc57 dX12_nights_72 ?_
        refine Wp.nm fun h58 e59 => ?_
        have ht := ht h58 e59
        have hs60 : Sh h58 := by rw [e59]; exact sh_si hs55
        refine ab_iinc (i := 2) (x := x2) (v := (x2 + 1)) (L' := [some (.ref 82), some (.int x1), some (.int (x2 + 1))]) dX12_nights_73 rfl rfl (by exact (Nat.le_of_ble_eq_true rfl)) rfl rfl ?_
        refine ab_goto (tgt := 12) dX12_nights_76 (by decide) ?_
        exact Wp.fewer (L' := [some (.ref 82), some (.int x1), some (.int (x2 + 1))]) (show ab_leL _ _ from ⟨rfl, ⟨rfl, ⟨rfl, trivial⟩⟩⟩) ht
set_option maxRecDepth 20000 in
theorem T_X12_nights_81 {Q : Option Value → ah_T → Prop} {h : ah_T} (hs : Sh h) (x1 : Int32) (x2 : Int32) (ht : ((120 ≤ x2 → Q none h) ∧ (¬ 120 ≤ x2 → (Mt mX12_minuteOf [.ref 82, .int x2] h (ab_qv fun h62 => Sh h62 ∧ ((x1 = 0 → Wp mX12_nights Q 0 0 81 [some (.ref 82), some (.int x1), some (.int (x2 + 1))] [] h62) ∧ (¬ x1 = 0 → (((ah_i h62 82 48) ≤ 0 → Wp mX12_nights Q 0 0 81 [some (.ref 82), some (.int x1), some (.int (x2 + 1))] [] h62) ∧ (¬ (ah_i h62 82 48) ≤ 0 → Q none h62))))))))) : Wp mX12_nights Q 0 0 81 [some (.ref 82), some (.int x1), some (.int x2)] [] h := by
  refine ab_iload_n (i := 2) dX12_nights_81 rfl rfl ?_
  refine ab_bipush (v := 120) dX12_nights_82 (by decide) ?_
  refine ab_icmp_ge (tgt := 110) dX12_nights_84 (by decide) (fun c61 => ?_) (fun c61 => ?_)
  · have ht := ht.1 c61
    exact ab_vret rfl dX12_nights_110 (Nat.le_of_ble_eq_true rfl) (Nat.le_of_ble_eq_true rfl) ht
  · have ht := ht.2 c61
    refine ab_aload_n (i := 0) dX12_nights_87 rfl rfl ?_
    refine ab_iload_n (i := 2) dX12_nights_88 rfl rfl ?_
    refine ab_callV (b := 82) (As := [.int x2]) ht (Y_X12_minuteOf) l_X12_396 in_X12_minuteOf se_X12_minuteOf (sh_k hs 82 12 (by decide) rfl) (by decide) rfl rfl ⟨(Nat.le_of_ble_eq_true rfl), (Nat.le_of_ble_eq_true rfl), (Nat.le_of_ble_eq_true rfl), (Nat.le_of_ble_eq_true rfl)⟩ dX12_nights_89 ?_
    rintro _ h62 ⟨rfl, hs63, ht⟩
    refine ab_iload_n (i := 1) dX12_nights_92 rfl rfl ?_
    refine ab_if_eq (tgt := 104) dX12_nights_93 (by decide) (fun c65 => ?_) (fun c65 => ?_)
    · have ht := ht.1 c65
      refine ab_iinc (i := 2) (x := x2) (v := (x2 + 1)) (L' := [some (.ref 82), some (.int x1), some (.int (x2 + 1))]) dX12_nights_104 rfl rfl (by exact (Nat.le_of_ble_eq_true rfl)) rfl rfl ?_
      refine ab_goto (tgt := 81) dX12_nights_107 (by decide) ?_
      exact Wp.fewer (L' := [some (.ref 82), some (.int x1), some (.int (x2 + 1))]) (show ab_leL _ _ from ⟨rfl, ⟨rfl, ⟨rfl, trivial⟩⟩⟩) ht
    · have ht := ht.2 c65
      refine ab_aload_n (i := 0) dX12_nights_96 rfl rfl ?_
      refine ab_getI f_X12_390 rfl (sh_k hs63 82 12 (by decide) rfl) dX12_nights_97 ?_
      refine ab_if_le (tgt := 104) dX12_nights_100 (by decide) (fun c66 => ?_) (fun c66 => ?_)
      · have ht := ht.1 c66
        refine ab_iinc (i := 2) (x := x2) (v := (x2 + 1)) (L' := [some (.ref 82), some (.int x1), some (.int (x2 + 1))]) dX12_nights_104 rfl rfl (by exact (Nat.le_of_ble_eq_true rfl)) rfl rfl ?_
        refine ab_goto (tgt := 81) dX12_nights_107 (by decide) ?_
        exact Wp.fewer (L' := [some (.ref 82), some (.int x1), some (.int (x2 + 1))]) (show ab_leL _ _ from ⟨rfl, ⟨rfl, ⟨rfl, trivial⟩⟩⟩) ht
      · have ht := ht.2 c66
        exact ab_vret rfl dX12_nights_103 (Nat.le_of_ble_eq_true rfl) (Nat.le_of_ble_eq_true rfl) ht
set_option maxRecDepth 20000 in
theorem T_X12_nights {Q : Option Value → ah_T → Prop} {h : ah_T} (hs : Sh h) (x1 : Int32) (ht : (∀ h1, h1 = ah_si h 82 47 0 → (∀ h4, h4 = ah_si h1 82 48 0 → Wp mX12_nights Q 0 0 12 [some (.ref 82), some (.int x1), some (.int 0)] [] h4))) : Mt mX12_nights [.ref 82, .int x1] h Q := by
  refine Mt.ofWp rfl (by exact (Nat.le_of_ble_eq_true rfl)) (Wp.fewer (L' := [some (.ref 82), some (.int x1), none]) (show ab_leL _ _ from ⟨rfl, ⟨rfl, trivial⟩⟩) ?_)
  refine ab_aload_n (i := 0) dX12_nights_0 rfl rfl ?_
  refine ab_iconst (v := 0) dX12_nights_1 (by decide) ?_
  refine ab_putI f_X12_387 (Or.inl rfl) rfl (sh_k hs 82 12 (by decide) rfl) rfl rfl dX12_nights_2 ?_
  refine Wp.nm fun h1 e2 => ?_
  have ht := ht h1 e2
  have hs3 : Sh h1 := by rw [e2]; exact sh_si hs
  refine ab_aload_n (i := 0) dX12_nights_5 rfl rfl ?_
  refine ab_iconst (v := 0) dX12_nights_6 (by decide) ?_
  refine ab_putI f_X12_390 (Or.inl rfl) rfl (sh_k hs3 82 12 (by decide) rfl) rfl rfl dX12_nights_7 ?_
  refine Wp.nm fun h4 e5 => ?_
  have ht := ht h4 e5
  have hs6 : Sh h4 := by rw [e5]; exact sh_si hs3
  refine ab_iconst (v := 0) dX12_nights_10 (by decide) ?_
  refine ab_istore_n (i := 2) (L' := [some (.ref 82), some (.int x1), some (.int 0)]) dX12_nights_11 rfl (by exact (Nat.le_of_ble_eq_true rfl)) rfl rfl ?_
  exact Wp.fewer (L' := [some (.ref 82), some (.int x1), some (.int 0)]) (show ab_leL _ _ from ⟨rfl, ⟨rfl, ⟨rfl, trivial⟩⟩⟩) ht
theorem dX12_burns0_0 : decode cX12_burns0 0 = .ok (.aload_n 0, 1) := by decide +kernel
theorem dX12_burns0_1 : decode cX12_burns0 1 = .ok (.getfield 92, 3) := by decide +kernel
theorem dX12_burns0_4 : decode cX12_burns0 4 = .ok (.iload_n 1, 1) := by decide +kernel
theorem dX12_burns0_5 : decode cX12_burns0 5 = .ok (.aload_n 0, 1) := by decide +kernel
theorem dX12_burns0_6 : decode cX12_burns0 6 = .ok (.getfield 83, 3) := by decide +kernel
theorem dX12_burns0_9 : decode cX12_burns0 9 = .ok (.iload_n 1, 1) := by decide +kernel
theorem dX12_burns0_10 : decode cX12_burns0 10 = .ok (.iaload, 1) := by decide +kernel
theorem dX12_burns0_11 : decode cX12_burns0 11 = .ok (.ifCond .le 7, 3) := by decide +kernel
theorem dX12_burns0_14 : decode cX12_burns0 14 = .ok (.iconst 1, 1) := by decide +kernel
theorem dX12_burns0_15 : decode cX12_burns0 15 = .ok (.goto 4, 3) := by decide +kernel
theorem dX12_burns0_18 : decode cX12_burns0 18 = .ok (.iconst 0, 1) := by decide +kernel
theorem dX12_burns0_19 : decode cX12_burns0 19 = .ok (.bastore, 1) := by decide +kernel
theorem dX12_burns0_20 : decode cX12_burns0 20 = .ok (.aload_n 0, 1) := by decide +kernel
theorem dX12_burns0_21 : decode cX12_burns0 21 = .ok (.getfield 86, 3) := by decide +kernel
theorem dX12_burns0_24 : decode cX12_burns0 24 = .ok (.iload_n 1, 1) := by decide +kernel
theorem dX12_burns0_25 : decode cX12_burns0 25 = .ok (.iload_n 2, 1) := by decide +kernel
theorem dX12_burns0_26 : decode cX12_burns0 26 = .ok (.iastore, 1) := by decide +kernel
theorem dX12_burns0_27 : decode cX12_burns0 27 = .ok (.aload_n 0, 1) := by decide +kernel
theorem dX12_burns0_28 : decode cX12_burns0 28 = .ok (.getfield 89, 3) := by decide +kernel
theorem dX12_burns0_31 : decode cX12_burns0 31 = .ok (.iload_n 1, 1) := by decide +kernel
theorem dX12_burns0_32 : decode cX12_burns0 32 = .ok (.iconst (-1), 1) := by decide +kernel
theorem dX12_burns0_33 : decode cX12_burns0 33 = .ok (.iastore, 1) := by decide +kernel
theorem dX12_burns0_34 : decode cX12_burns0 34 = .ok (.return_, 1) := by decide +kernel
set_option maxRecDepth 20000 in
theorem T_X12_burns0 {Q : Option Value → ah_T → Prop} {h : ah_T} (hs : Sh h) (x1 : Int32) (x2 : Int32) (ht : (vp_in x1 (ah_n h 102)) ∧ (((ah_i h 102 (Int32.toNatClampNeg x1)) ≤ 0 → (vp_in x1 (ah_n h 105)) ∧ (∀ h4, h4 = ah_si h 105 (Int32.toNatClampNeg x1) (vp_nar .boolean 0) → (vp_in x1 (ah_n h4 103)) ∧ (∀ h8, h8 = ah_si h4 103 (Int32.toNatClampNeg x1) x2 → (vp_in x1 (ah_n h8 104)) ∧ (∀ h12, h12 = ah_si h8 104 (Int32.toNatClampNeg x1) (-1) → Q none h12)))) ∧ (¬ (ah_i h 102 (Int32.toNatClampNeg x1)) ≤ 0 → (vp_in x1 (ah_n h 105)) ∧ (∀ h16, h16 = ah_si h 105 (Int32.toNatClampNeg x1) (vp_nar .boolean 1) → (vp_in x1 (ah_n h16 103)) ∧ (∀ h20, h20 = ah_si h16 103 (Int32.toNatClampNeg x1) x2 → (vp_in x1 (ah_n h20 104)) ∧ (∀ h24, h24 = ah_si h20 104 (Int32.toNatClampNeg x1) (-1) → Q none h24)))))) : Mt mX12_burns0 [.ref 82, .int x1, .int x2] h Q := by
  refine Mt.ofWp rfl (by exact (Nat.le_of_ble_eq_true rfl)) (Wp.fewer (L' := [some (.ref 82), some (.int x1), some (.int x2)]) (show ab_leL _ _ from ⟨rfl, ⟨rfl, ⟨rfl, trivial⟩⟩⟩) ?_)
  refine ab_aload_n (i := 0) dX12_burns0_0 rfl rfl ?_
  refine ab_getR (b := 105) f_X12_92 rfl (sh_k hs 82 12 (by decide) rfl) (sh_r hs 121 rfl) dX12_burns0_1 ?_
  refine ab_iload_n (i := 1) dX12_burns0_4 rfl rfl ?_
  refine ab_aload_n (i := 0) dX12_burns0_5 rfl rfl ?_
  refine ab_getR (b := 102) f_X12_83 rfl (sh_k hs 82 12 (by decide) rfl) (sh_r hs 118 rfl) dX12_burns0_6 ?_
  refine ab_iload_n (i := 1) dX12_burns0_9 rfl rfl ?_
  obtain ⟨hc1, ht⟩ := ht
  refine ab_iald (sh_k hs 102 14 (by decide) rfl) hc1 dX12_burns0_10 ?_
  refine ab_if_le (tgt := 18) dX12_burns0_11 (by decide) (fun c2 => ?_) (fun c2 => ?_)
  · have ht := ht.1 c2
    refine ab_iconst (v := 0) dX12_burns0_18 (by decide) ?_
    obtain ⟨hc3, ht⟩ := ht
    refine ab_zast (sh_k hs 105 16 (by decide) rfl) hc3 dX12_burns0_19 ?_
    refine Wp.nm fun h4 e5 => ?_
    have ht := ht h4 e5
    have hs6 : Sh h4 := by rw [e5]; exact sh_si hs
    refine ab_aload_n (i := 0) dX12_burns0_20 rfl rfl ?_
    refine ab_getR (b := 103) f_X12_86 rfl (sh_k hs6 82 12 (by decide) rfl) (sh_r hs6 119 rfl) dX12_burns0_21 ?_
    refine ab_iload_n (i := 1) dX12_burns0_24 rfl rfl ?_
    refine ab_iload_n (i := 2) dX12_burns0_25 rfl rfl ?_
    obtain ⟨hc7, ht⟩ := ht
    refine ab_iast (sh_k hs6 103 14 (by decide) rfl) hc7 dX12_burns0_26 ?_
    refine Wp.nm fun h8 e9 => ?_
    have ht := ht h8 e9
    have hs10 : Sh h8 := by rw [e9]; exact sh_si hs6
    refine ab_aload_n (i := 0) dX12_burns0_27 rfl rfl ?_
    refine ab_getR (b := 104) f_X12_89 rfl (sh_k hs10 82 12 (by decide) rfl) (sh_r hs10 120 rfl) dX12_burns0_28 ?_
    refine ab_iload_n (i := 1) dX12_burns0_31 rfl rfl ?_
    refine ab_iconst (v := (-1)) dX12_burns0_32 (by decide) ?_
    obtain ⟨hc11, ht⟩ := ht
    refine ab_iast (sh_k hs10 104 14 (by decide) rfl) hc11 dX12_burns0_33 ?_
    refine Wp.nm fun h12 e13 => ?_
    have ht := ht h12 e13
    have hs14 : Sh h12 := by rw [e13]; exact sh_si hs10
    exact ab_vret rfl dX12_burns0_34 (Nat.le_of_ble_eq_true rfl) (Nat.le_of_ble_eq_true rfl) ht
  · have ht := ht.2 c2
    refine ab_iconst (v := 1) dX12_burns0_14 (by decide) ?_
    refine ab_goto (tgt := 19) dX12_burns0_15 (by decide) ?_
    obtain ⟨hc15, ht⟩ := ht
    refine ab_zast (sh_k hs 105 16 (by decide) rfl) hc15 dX12_burns0_19 ?_
    refine Wp.nm fun h16 e17 => ?_
    have ht := ht h16 e17
    have hs18 : Sh h16 := by rw [e17]; exact sh_si hs
    refine ab_aload_n (i := 0) dX12_burns0_20 rfl rfl ?_
    refine ab_getR (b := 103) f_X12_86 rfl (sh_k hs18 82 12 (by decide) rfl) (sh_r hs18 119 rfl) dX12_burns0_21 ?_
    refine ab_iload_n (i := 1) dX12_burns0_24 rfl rfl ?_
    refine ab_iload_n (i := 2) dX12_burns0_25 rfl rfl ?_
    obtain ⟨hc19, ht⟩ := ht
    refine ab_iast (sh_k hs18 103 14 (by decide) rfl) hc19 dX12_burns0_26 ?_
    refine Wp.nm fun h20 e21 => ?_
    have ht := ht h20 e21
    have hs22 : Sh h20 := by rw [e21]; exact sh_si hs18
    refine ab_aload_n (i := 0) dX12_burns0_27 rfl rfl ?_
    refine ab_getR (b := 104) f_X12_89 rfl (sh_k hs22 82 12 (by decide) rfl) (sh_r hs22 120 rfl) dX12_burns0_28 ?_
    refine ab_iload_n (i := 1) dX12_burns0_31 rfl rfl ?_
    refine ab_iconst (v := (-1)) dX12_burns0_32 (by decide) ?_
    obtain ⟨hc23, ht⟩ := ht
    refine ab_iast (sh_k hs22 104 14 (by decide) rfl) hc23 dX12_burns0_33 ?_
    refine Wp.nm fun h24 e25 => ?_
    have ht := ht h24 e25
    have hs26 : Sh h24 := by rw [e25]; exact sh_si hs22
    exact ab_vret rfl dX12_burns0_34 (Nat.le_of_ble_eq_true rfl) (Nat.le_of_ble_eq_true rfl) ht
theorem dX12_minuteOf_0 : decode cX12_minuteOf 0 = .ok (.iconst 0, 1) := by decide +kernel
theorem dX12_minuteOf_1 : decode cX12_minuteOf 1 = .ok (.istore_n 2, 1) := by decide +kernel
theorem dX12_minuteOf_2 : decode cX12_minuteOf 2 = .ok (.iload_n 2, 1) := by decide +kernel
theorem dX12_minuteOf_3 : decode cX12_minuteOf 3 = .ok (.aload_n 0, 1) := by decide +kernel
theorem dX12_minuteOf_4 : decode cX12_minuteOf 4 = .ok (.getfield 20, 3) := by decide +kernel
theorem dX12_minuteOf_7 : decode cX12_minuteOf 7 = .ok (.sipush 247, 3) := by decide +kernel
theorem dX12_minuteOf_10 : decode cX12_minuteOf 10 = .ok (.iaload, 1) := by decide +kernel
theorem dX12_minuteOf_11 : decode cX12_minuteOf 11 = .ok (.if_icmp .ge 78, 3) := by decide +kernel
theorem dX12_minuteOf_14 : decode cX12_minuteOf 14 = .ok (.bipush 90, 2) := by decide +kernel
theorem dX12_minuteOf_16 : decode cX12_minuteOf 16 = .ok (.iconst 3, 1) := by decide +kernel
theorem dX12_minuteOf_17 : decode cX12_minuteOf 17 = .ok (.iload_n 2, 1) := by decide +kernel
theorem dX12_minuteOf_18 : decode cX12_minuteOf 18 = .ok (.imul, 1) := by decide +kernel
theorem dX12_minuteOf_19 : decode cX12_minuteOf 19 = .ok (.iadd, 1) := by decide +kernel
theorem dX12_minuteOf_20 : decode cX12_minuteOf 20 = .ok (.istore_n 3, 1) := by decide +kernel
theorem dX12_minuteOf_21 : decode cX12_minuteOf 21 = .ok (.aload_n 0, 1) := by decide +kernel
theorem dX12_minuteOf_22 : decode cX12_minuteOf 22 = .ok (.getfield 20, 3) := by decide +kernel
theorem dX12_minuteOf_25 : decode cX12_minuteOf 25 = .ok (.iload_n 3, 1) := by decide +kernel
theorem dX12_minuteOf_26 : decode cX12_minuteOf 26 = .ok (.iconst 1, 1) := by decide +kernel
theorem dX12_minuteOf_27 : decode cX12_minuteOf 27 = .ok (.iadd, 1) := by decide +kernel
theorem dX12_minuteOf_28 : decode cX12_minuteOf 28 = .ok (.iaload, 1) := by decide +kernel
theorem dX12_minuteOf_29 : decode cX12_minuteOf 29 = .ok (.iload_n 1, 1) := by decide +kernel
theorem dX12_minuteOf_30 : decode cX12_minuteOf 30 = .ok (.if_icmp .eq 6, 3) := by decide +kernel
theorem dX12_minuteOf_33 : decode cX12_minuteOf 33 = .ok (.goto 50, 3) := by decide +kernel
theorem dX12_minuteOf_36 : decode cX12_minuteOf 36 = .ok (.aload_n 0, 1) := by decide +kernel
theorem dX12_minuteOf_37 : decode cX12_minuteOf 37 = .ok (.getfield 89, 3) := by decide +kernel
theorem dX12_minuteOf_40 : decode cX12_minuteOf 40 = .ok (.aload_n 0, 1) := by decide +kernel
theorem dX12_minuteOf_41 : decode cX12_minuteOf 41 = .ok (.getfield 20, 3) := by decide +kernel
theorem dX12_minuteOf_44 : decode cX12_minuteOf 44 = .ok (.iload_n 3, 1) := by decide +kernel
theorem dX12_minuteOf_45 : decode cX12_minuteOf 45 = .ok (.iaload, 1) := by decide +kernel
theorem dX12_minuteOf_46 : decode cX12_minuteOf 46 = .ok (.iconst (-1), 1) := by decide +kernel
theorem dX12_minuteOf_47 : decode cX12_minuteOf 47 = .ok (.iastore, 1) := by decide +kernel
theorem dX12_minuteOf_48 : decode cX12_minuteOf 48 = .ok (.aload_n 0, 1) := by decide +kernel
theorem dX12_minuteOf_49 : decode cX12_minuteOf 49 = .ok (.getfield 92, 3) := by decide +kernel
theorem dX12_minuteOf_52 : decode cX12_minuteOf 52 = .ok (.aload_n 0, 1) := by decide +kernel
theorem dX12_minuteOf_53 : decode cX12_minuteOf 53 = .ok (.getfield 20, 3) := by decide +kernel
theorem dX12_minuteOf_56 : decode cX12_minuteOf 56 = .ok (.iload_n 3, 1) := by decide +kernel
theorem dX12_minuteOf_57 : decode cX12_minuteOf 57 = .ok (.iaload, 1) := by decide +kernel
theorem dX12_minuteOf_58 : decode cX12_minuteOf 58 = .ok (.iconst 0, 1) := by decide +kernel
theorem dX12_minuteOf_59 : decode cX12_minuteOf 59 = .ok (.bastore, 1) := by decide +kernel
theorem dX12_minuteOf_60 : decode cX12_minuteOf 60 = .ok (.aload_n 0, 1) := by decide +kernel
theorem dX12_minuteOf_61 : decode cX12_minuteOf 61 = .ok (.getfield 20, 3) := by decide +kernel
theorem dX12_minuteOf_64 : decode cX12_minuteOf 64 = .ok (.iload_n 3, 1) := by decide +kernel
theorem dX12_minuteOf_65 : decode cX12_minuteOf 65 = .ok (.iconst 2, 1) := by decide +kernel
theorem dX12_minuteOf_66 : decode cX12_minuteOf 66 = .ok (.iadd, 1) := by decide +kernel
theorem dX12_minuteOf_67 : decode cX12_minuteOf 67 = .ok (.iaload, 1) := by decide +kernel
theorem dX12_minuteOf_68 : decode cX12_minuteOf 68 = .ok (.iconst 1, 1) := by decide +kernel
theorem dX12_minuteOf_69 : decode cX12_minuteOf 69 = .ok (.if_icmp .ne 14, 3) := by decide +kernel
theorem dX12_minuteOf_72 : decode cX12_minuteOf 72 = .ok (.aload_n 0, 1) := by decide +kernel
theorem dX12_minuteOf_73 : decode cX12_minuteOf 73 = .ok (.aload_n 0, 1) := by decide +kernel
theorem dX12_minuteOf_74 : decode cX12_minuteOf 74 = .ok (.getfield 20, 3) := by decide +kernel
theorem dX12_minuteOf_77 : decode cX12_minuteOf 77 = .ok (.iload_n 3, 1) := by decide +kernel
theorem dX12_minuteOf_78 : decode cX12_minuteOf 78 = .ok (.iaload, 1) := by decide +kernel
theorem dX12_minuteOf_79 : decode cX12_minuteOf 79 = .ok (.iload_n 1, 1) := by decide +kernel
theorem dX12_minuteOf_80 : decode cX12_minuteOf 80 = .ok (.invokevirtual 399, 3) := by decide +kernel
theorem dX12_minuteOf_83 : decode cX12_minuteOf 83 = .ok (.iinc 2 1, 3) := by decide +kernel
theorem dX12_minuteOf_86 : decode cX12_minuteOf 86 = .ok (.goto (-84), 3) := by decide +kernel
theorem dX12_minuteOf_89 : decode cX12_minuteOf 89 = .ok (.iconst 0, 1) := by decide +kernel
theorem dX12_minuteOf_90 : decode cX12_minuteOf 90 = .ok (.istore_n 2, 1) := by decide +kernel
theorem dX12_minuteOf_91 : decode cX12_minuteOf 91 = .ok (.iload_n 2, 1) := by decide +kernel
theorem dX12_minuteOf_92 : decode cX12_minuteOf 92 = .ok (.aload_n 0, 1) := by decide +kernel
theorem dX12_minuteOf_93 : decode cX12_minuteOf 93 = .ok (.getfield 378, 3) := by decide +kernel
theorem dX12_minuteOf_96 : decode cX12_minuteOf 96 = .ok (.if_icmp .ge 44, 3) := by decide +kernel
theorem dX12_minuteOf_99 : decode cX12_minuteOf 99 = .ok (.aload_n 0, 1) := by decide +kernel
theorem dX12_minuteOf_100 : decode cX12_minuteOf 100 = .ok (.getfield 89, 3) := by decide +kernel
theorem dX12_minuteOf_103 : decode cX12_minuteOf 103 = .ok (.iload_n 2, 1) := by decide +kernel
theorem dX12_minuteOf_104 : decode cX12_minuteOf 104 = .ok (.iaload, 1) := by decide +kernel
theorem dX12_minuteOf_105 : decode cX12_minuteOf 105 = .ok (.iconst (-1), 1) := by decide +kernel
theorem dX12_minuteOf_106 : decode cX12_minuteOf 106 = .ok (.if_icmp .eq 28, 3) := by decide +kernel
theorem dX12_minuteOf_109 : decode cX12_minuteOf 109 = .ok (.aload_n 0, 1) := by decide +kernel
theorem dX12_minuteOf_110 : decode cX12_minuteOf 110 = .ok (.getfield 89, 3) := by decide +kernel
theorem dX12_minuteOf_113 : decode cX12_minuteOf 113 = .ok (.iload_n 2, 1) := by decide +kernel
theorem dX12_minuteOf_114 : decode cX12_minuteOf 114 = .ok (.iaload, 1) := by decide +kernel
theorem dX12_minuteOf_115 : decode cX12_minuteOf 115 = .ok (.aload_n 0, 1) := by decide +kernel
theorem dX12_minuteOf_116 : decode cX12_minuteOf 116 = .ok (.getfield 20, 3) := by decide +kernel
theorem dX12_minuteOf_119 : decode cX12_minuteOf 119 = .ok (.sipush 243, 3) := by decide +kernel
theorem dX12_minuteOf_122 : decode cX12_minuteOf 122 = .ok (.iaload, 1) := by decide +kernel
theorem dX12_minuteOf_123 : decode cX12_minuteOf 123 = .ok (.iadd, 1) := by decide +kernel
theorem dX12_minuteOf_124 : decode cX12_minuteOf 124 = .ok (.iload_n 1, 1) := by decide +kernel
theorem dX12_minuteOf_125 : decode cX12_minuteOf 125 = .ok (.if_icmp .ne 9, 3) := by decide +kernel
theorem dX12_minuteOf_128 : decode cX12_minuteOf 128 = .ok (.aload_n 0, 1) := by decide +kernel
theorem dX12_minuteOf_129 : decode cX12_minuteOf 129 = .ok (.iload_n 2, 1) := by decide +kernel
theorem dX12_minuteOf_130 : decode cX12_minuteOf 130 = .ok (.iload_n 1, 1) := by decide +kernel
theorem dX12_minuteOf_131 : decode cX12_minuteOf 131 = .ok (.invokevirtual 399, 3) := by decide +kernel
theorem dX12_minuteOf_134 : decode cX12_minuteOf 134 = .ok (.iinc 2 1, 3) := by decide +kernel
theorem dX12_minuteOf_137 : decode cX12_minuteOf 137 = .ok (.goto (-46), 3) := by decide +kernel
theorem dX12_minuteOf_140 : decode cX12_minuteOf 140 = .ok (.iconst 0, 1) := by decide +kernel
theorem dX12_minuteOf_141 : decode cX12_minuteOf 141 = .ok (.istore_n 2, 1) := by decide +kernel
theorem dX12_minuteOf_142 : decode cX12_minuteOf 142 = .ok (.iload_n 2, 1) := by decide +kernel
theorem dX12_minuteOf_143 : decode cX12_minuteOf 143 = .ok (.aload_n 0, 1) := by decide +kernel
theorem dX12_minuteOf_144 : decode cX12_minuteOf 144 = .ok (.getfield 378, 3) := by decide +kernel
theorem dX12_minuteOf_147 : decode cX12_minuteOf 147 = .ok (.if_icmp .ge 38, 3) := by decide +kernel
theorem dX12_minuteOf_150 : decode cX12_minuteOf 150 = .ok (.aload_n 0, 1) := by decide +kernel
theorem dX12_minuteOf_151 : decode cX12_minuteOf 151 = .ok (.getfield 95, 3) := by decide +kernel
theorem dX12_minuteOf_154 : decode cX12_minuteOf 154 = .ok (.iload_n 2, 1) := by decide +kernel
theorem dX12_minuteOf_155 : decode cX12_minuteOf 155 = .ok (.aload_n 0, 1) := by decide +kernel
theorem dX12_minuteOf_156 : decode cX12_minuteOf 156 = .ok (.getfield 92, 3) := by decide +kernel
theorem dX12_minuteOf_159 : decode cX12_minuteOf 159 = .ok (.iload_n 2, 1) := by decide +kernel
theorem dX12_minuteOf_160 : decode cX12_minuteOf 160 = .ok (.baload, 1) := by decide +kernel
theorem dX12_minuteOf_161 : decode cX12_minuteOf 161 = .ok (.ifCond .eq 16, 3) := by decide +kernel
theorem dX12_minuteOf_164 : decode cX12_minuteOf 164 = .ok (.aload_n 0, 1) := by decide +kernel
theorem dX12_minuteOf_165 : decode cX12_minuteOf 165 = .ok (.iload_n 2, 1) := by decide +kernel
theorem dX12_minuteOf_166 : decode cX12_minuteOf 166 = .ok (.iload_n 1, 1) := by decide +kernel
theorem dX12_minuteOf_167 : decode cX12_minuteOf 167 = .ok (.invokevirtual 403, 3) := by decide +kernel
theorem dX12_minuteOf_170 : decode cX12_minuteOf 170 = .ok (.ifCond .eq 7, 3) := by decide +kernel
theorem dX12_minuteOf_173 : decode cX12_minuteOf 173 = .ok (.iconst 1, 1) := by decide +kernel
theorem dX12_minuteOf_174 : decode cX12_minuteOf 174 = .ok (.goto 4, 3) := by decide +kernel
theorem dX12_minuteOf_177 : decode cX12_minuteOf 177 = .ok (.iconst 0, 1) := by decide +kernel
theorem dX12_minuteOf_178 : decode cX12_minuteOf 178 = .ok (.bastore, 1) := by decide +kernel
theorem dX12_minuteOf_179 : decode cX12_minuteOf 179 = .ok (.iinc 2 1, 3) := by decide +kernel
theorem dX12_minuteOf_182 : decode cX12_minuteOf 182 = .ok (.goto (-40), 3) := by decide +kernel
theorem dX12_minuteOf_185 : decode cX12_minuteOf 185 = .ok (.iconst 0, 1) := by decide +kernel
theorem dX12_minuteOf_186 : decode cX12_minuteOf 186 = .ok (.istore_n 2, 1) := by decide +kernel
theorem dX12_minuteOf_187 : decode cX12_minuteOf 187 = .ok (.iload_n 2, 1) := by decide +kernel
theorem dX12_minuteOf_188 : decode cX12_minuteOf 188 = .ok (.aload_n 0, 1) := by decide +kernel
theorem dX12_minuteOf_189 : decode cX12_minuteOf 189 = .ok (.getfield 378, 3) := by decide +kernel
theorem dX12_minuteOf_192 : decode cX12_minuteOf 192 = .ok (.if_icmp .ge 199, 3) := by decide +kernel
theorem dX12_minuteOf_195 : decode cX12_minuteOf 195 = .ok (.bipush 10, 2) := by decide +kernel
theorem dX12_minuteOf_197 : decode cX12_minuteOf 197 = .ok (.iload_n 1, 1) := by decide +kernel
theorem dX12_minuteOf_198 : decode cX12_minuteOf 198 = .ok (.imul, 1) := by decide +kernel
theorem dX12_minuteOf_199 : decode cX12_minuteOf 199 = .ok (.iload_n 2, 1) := by decide +kernel
theorem dX12_minuteOf_200 : decode cX12_minuteOf 200 = .ok (.iadd, 1) := by decide +kernel
theorem dX12_minuteOf_201 : decode cX12_minuteOf 201 = .ok (.istore_n 3, 1) := by decide +kernel
theorem dX12_minuteOf_202 : decode cX12_minuteOf 202 = .ok (.aload_n 0, 1) := by decide +kernel
theorem dX12_minuteOf_203 : decode cX12_minuteOf 203 = .ok (.getfield 104, 3) := by decide +kernel
theorem dX12_minuteOf_206 : decode cX12_minuteOf 206 = .ok (.iload_n 3, 1) := by decide +kernel
theorem dX12_minuteOf_207 : decode cX12_minuteOf 207 = .ok (.aload_n 0, 1) := by decide +kernel
theorem dX12_minuteOf_208 : decode cX12_minuteOf 208 = .ok (.getfield 92, 3) := by decide +kernel
theorem dX12_minuteOf_211 : decode cX12_minuteOf 211 = .ok (.iload_n 2, 1) := by decide +kernel
theorem dX12_minuteOf_212 : decode cX12_minuteOf 212 = .ok (.baload, 1) := by decide +kernel
theorem dX12_minuteOf_213 : decode cX12_minuteOf 213 = .ok (.ifCond .eq 16, 3) := by decide +kernel
theorem dX12_minuteOf_216 : decode cX12_minuteOf 216 = .ok (.aload_n 0, 1) := by decide +kernel
theorem dX12_minuteOf_217 : decode cX12_minuteOf 217 = .ok (.getfield 95, 3) := by decide +kernel
theorem dX12_minuteOf_220 : decode cX12_minuteOf 220 = .ok (.iload_n 2, 1) := by decide +kernel
theorem dX12_minuteOf_221 : decode cX12_minuteOf 221 = .ok (.baload, 1) := by decide +kernel
theorem dX12_minuteOf_222 : decode cX12_minuteOf 222 = .ok (.ifCond .ne 7, 3) := by decide +kernel
theorem dX12_minuteOf_225 : decode cX12_minuteOf 225 = .ok (.iconst 1, 1) := by decide +kernel
theorem dX12_minuteOf_226 : decode cX12_minuteOf 226 = .ok (.goto 4, 3) := by decide +kernel
theorem dX12_minuteOf_229 : decode cX12_minuteOf 229 = .ok (.iconst 0, 1) := by decide +kernel
theorem dX12_minuteOf_230 : decode cX12_minuteOf 230 = .ok (.bastore, 1) := by decide +kernel
theorem dX12_minuteOf_231 : decode cX12_minuteOf 231 = .ok (.aload_n 0, 1) := by decide +kernel
theorem dX12_minuteOf_232 : decode cX12_minuteOf 232 = .ok (.getfield 110, 3) := by decide +kernel
theorem dX12_minuteOf_235 : decode cX12_minuteOf 235 = .ok (.iload_n 3, 1) := by decide +kernel
theorem dX12_minuteOf_236 : decode cX12_minuteOf 236 = .ok (.aload_n 0, 1) := by decide +kernel
theorem dX12_minuteOf_237 : decode cX12_minuteOf 237 = .ok (.getfield 95, 3) := by decide +kernel
theorem dX12_minuteOf_240 : decode cX12_minuteOf 240 = .ok (.iload_n 2, 1) := by decide +kernel
theorem dX12_minuteOf_241 : decode cX12_minuteOf 241 = .ok (.baload, 1) := by decide +kernel
theorem dX12_minuteOf_242 : decode cX12_minuteOf 242 = .ok (.bastore, 1) := by decide +kernel
theorem dX12_minuteOf_243 : decode cX12_minuteOf 243 = .ok (.aload_n 0, 1) := by decide +kernel
theorem dX12_minuteOf_244 : decode cX12_minuteOf 244 = .ok (.getfield 104, 3) := by decide +kernel
theorem dX12_minuteOf_247 : decode cX12_minuteOf 247 = .ok (.iload_n 3, 1) := by decide +kernel
theorem dX12_minuteOf_248 : decode cX12_minuteOf 248 = .ok (.baload, 1) := by decide +kernel
theorem dX12_minuteOf_249 : decode cX12_minuteOf 249 = .ok (.ifCond .eq 33, 3) := by decide +kernel
theorem dX12_minuteOf_252 : decode cX12_minuteOf 252 = .ok (.aload_n 0, 1) := by decide +kernel
theorem dX12_minuteOf_253 : decode cX12_minuteOf 253 = .ok (.getfield 83, 3) := by decide +kernel
theorem dX12_minuteOf_256 : decode cX12_minuteOf 256 = .ok (.iload_n 2, 1) := by decide +kernel
theorem dX12_minuteOf_257 : decode cX12_minuteOf 257 = .ok (.dup2, 1) := by decide +kernel
theorem dX12_minuteOf_258 : decode cX12_minuteOf 258 = .ok (.iaload, 1) := by decide +kernel
theorem dX12_minuteOf_259 : decode cX12_minuteOf 259 = .ok (.aload_n 0, 1) := by decide +kernel
theorem dX12_minuteOf_260 : decode cX12_minuteOf 260 = .ok (.getfield 83, 3) := by decide +kernel
theorem dX12_minuteOf_263 : decode cX12_minuteOf 263 = .ok (.iload_n 2, 1) := by decide +kernel
theorem dX12_minuteOf_264 : decode cX12_minuteOf 264 = .ok (.iaload, 1) := by decide +kernel
theorem dX12_minuteOf_265 : decode cX12_minuteOf 265 = .ok (.aload_n 0, 1) := by decide +kernel
theorem dX12_minuteOf_266 : decode cX12_minuteOf 266 = .ok (.iload_n 2, 1) := by decide +kernel
theorem dX12_minuteOf_267 : decode cX12_minuteOf 267 = .ok (.aload_n 0, 1) := by decide +kernel
theorem dX12_minuteOf_268 : decode cX12_minuteOf 268 = .ok (.getfield 80, 3) := by decide +kernel
theorem dX12_minuteOf_271 : decode cX12_minuteOf 271 = .ok (.iload_n 2, 1) := by decide +kernel
theorem dX12_minuteOf_272 : decode cX12_minuteOf 272 = .ok (.iaload, 1) := by decide +kernel
theorem dX12_minuteOf_273 : decode cX12_minuteOf 273 = .ok (.iload_n 1, 1) := by decide +kernel
theorem dX12_minuteOf_274 : decode cX12_minuteOf 274 = .ok (.invokevirtual 406, 3) := by decide +kernel
theorem dX12_minuteOf_277 : decode cX12_minuteOf 277 = .ok (.invokestatic 167, 3) := by decide +kernel
theorem dX12_minuteOf_280 : decode cX12_minuteOf 280 = .ok (.isub, 1) := by decide +kernel
theorem dX12_minuteOf_281 : decode cX12_minuteOf 281 = .ok (.iastore, 1) := by decide +kernel
theorem dX12_minuteOf_282 : decode cX12_minuteOf 282 = .ok (.aload_n 0, 1) := by decide +kernel
theorem dX12_minuteOf_283 : decode cX12_minuteOf 283 = .ok (.getfield 95, 3) := by decide +kernel
theorem dX12_minuteOf_286 : decode cX12_minuteOf 286 = .ok (.iload_n 2, 1) := by decide +kernel
theorem dX12_minuteOf_287 : decode cX12_minuteOf 287 = .ok (.baload, 1) := by decide +kernel
theorem dX12_minuteOf_288 : decode cX12_minuteOf 288 = .ok (.ifCond .eq 10, 3) := by decide +kernel
theorem dX12_minuteOf_291 : decode cX12_minuteOf 291 = .ok (.aload_n 0, 1) := by decide +kernel
theorem dX12_minuteOf_292 : decode cX12_minuteOf 292 = .ok (.getfield 89, 3) := by decide +kernel
theorem dX12_minuteOf_295 : decode cX12_minuteOf 295 = .ok (.iload_n 2, 1) := by decide +kernel
theorem dX12_minuteOf_296 : decode cX12_minuteOf 296 = .ok (.iload_n 1, 1) := by decide +kernel
theorem dX12_minuteOf_297 : decode cX12_minuteOf 297 = .ok (.iastore, 1) := by decide +kernel
theorem dX12_minuteOf_298 : decode cX12_minuteOf 298 = .ok (.aload_n 0, 1) := by decide +kernel
theorem dX12_minuteOf_299 : decode cX12_minuteOf 299 = .ok (.getfield 92, 3) := by decide +kernel
theorem dX12_minuteOf_302 : decode cX12_minuteOf 302 = .ok (.iload_n 2, 1) := by decide +kernel
theorem dX12_minuteOf_303 : decode cX12_minuteOf 303 = .ok (.aload_n 0, 1) := by decide +kernel
theorem dX12_minuteOf_304 : decode cX12_minuteOf 304 = .ok (.getfield 104, 3) := by decide +kernel
theorem dX12_minuteOf_307 : decode cX12_minuteOf 307 = .ok (.iload_n 3, 1) := by decide +kernel
theorem dX12_minuteOf_308 : decode cX12_minuteOf 308 = .ok (.baload, 1) := by decide +kernel
theorem dX12_minuteOf_309 : decode cX12_minuteOf 309 = .ok (.ifCond .eq 16, 3) := by decide +kernel
theorem dX12_minuteOf_312 : decode cX12_minuteOf 312 = .ok (.aload_n 0, 1) := by decide +kernel
theorem dX12_minuteOf_313 : decode cX12_minuteOf 313 = .ok (.getfield 83, 3) := by decide +kernel
theorem dX12_minuteOf_316 : decode cX12_minuteOf 316 = .ok (.iload_n 2, 1) := by decide +kernel
theorem dX12_minuteOf_317 : decode cX12_minuteOf 317 = .ok (.iaload, 1) := by decide +kernel
theorem dX12_minuteOf_318 : decode cX12_minuteOf 318 = .ok (.ifCond .le 7, 3) := by decide +kernel
theorem dX12_minuteOf_321 : decode cX12_minuteOf 321 = .ok (.iconst 1, 1) := by decide +kernel
theorem dX12_minuteOf_322 : decode cX12_minuteOf 322 = .ok (.goto 4, 3) := by decide +kernel
theorem dX12_minuteOf_325 : decode cX12_minuteOf 325 = .ok (.iconst 0, 1) := by decide +kernel
theorem dX12_minuteOf_326 : decode cX12_minuteOf 326 = .ok (.bastore, 1) := by decide +kernel
theorem dX12_minuteOf_327 : decode cX12_minuteOf 327 = .ok (.aload_n 0, 1) := by decide +kernel
theorem dX12_minuteOf_328 : decode cX12_minuteOf 328 = .ok (.getfield 107, 3) := by decide +kernel
theorem dX12_minuteOf_331 : decode cX12_minuteOf 331 = .ok (.iload_n 3, 1) := by decide +kernel
theorem dX12_minuteOf_332 : decode cX12_minuteOf 332 = .ok (.aload_n 0, 1) := by decide +kernel
theorem dX12_minuteOf_333 : decode cX12_minuteOf 333 = .ok (.getfield 83, 3) := by decide +kernel
theorem dX12_minuteOf_336 : decode cX12_minuteOf 336 = .ok (.iload_n 2, 1) := by decide +kernel
theorem dX12_minuteOf_337 : decode cX12_minuteOf 337 = .ok (.iaload, 1) := by decide +kernel
theorem dX12_minuteOf_338 : decode cX12_minuteOf 338 = .ok (.iastore, 1) := by decide +kernel
theorem dX12_minuteOf_339 : decode cX12_minuteOf 339 = .ok (.aload_n 0, 1) := by decide +kernel
theorem dX12_minuteOf_340 : decode cX12_minuteOf 340 = .ok (.dup, 1) := by decide +kernel
theorem dX12_minuteOf_341 : decode cX12_minuteOf 341 = .ok (.getfield 387, 3) := by decide +kernel
theorem dX12_minuteOf_344 : decode cX12_minuteOf 344 = .ok (.aload_n 0, 1) := by decide +kernel
theorem dX12_minuteOf_345 : decode cX12_minuteOf 345 = .ok (.getfield 104, 3) := by decide +kernel
theorem dX12_minuteOf_348 : decode cX12_minuteOf 348 = .ok (.iload_n 3, 1) := by decide +kernel
theorem dX12_minuteOf_349 : decode cX12_minuteOf 349 = .ok (.baload, 1) := by decide +kernel
theorem dX12_minuteOf_350 : decode cX12_minuteOf 350 = .ok (.ifCond .eq 7, 3) := by decide +kernel
theorem dX12_minuteOf_353 : decode cX12_minuteOf 353 = .ok (.iconst 1, 1) := by decide +kernel
theorem dX12_minuteOf_354 : decode cX12_minuteOf 354 = .ok (.goto 4, 3) := by decide +kernel
theorem dX12_minuteOf_357 : decode cX12_minuteOf 357 = .ok (.iconst 0, 1) := by decide +kernel
theorem dX12_minuteOf_358 : decode cX12_minuteOf 358 = .ok (.iadd, 1) := by decide +kernel
theorem dX12_minuteOf_359 : decode cX12_minuteOf 359 = .ok (.putfield 387, 3) := by decide +kernel
theorem dX12_minuteOf_362 : decode cX12_minuteOf 362 = .ok (.aload_n 0, 1) := by decide +kernel
theorem dX12_minuteOf_363 : decode cX12_minuteOf 363 = .ok (.dup, 1) := by decide +kernel
theorem dX12_minuteOf_364 : decode cX12_minuteOf 364 = .ok (.getfield 390, 3) := by decide +kernel
theorem dX12_minuteOf_367 : decode cX12_minuteOf 367 = .ok (.aload_n 0, 1) := by decide +kernel
theorem dX12_minuteOf_368 : decode cX12_minuteOf 368 = .ok (.getfield 95, 3) := by decide +kernel
theorem dX12_minuteOf_371 : decode cX12_minuteOf 371 = .ok (.iload_n 2, 1) := by decide +kernel
theorem dX12_minuteOf_372 : decode cX12_minuteOf 372 = .ok (.baload, 1) := by decide +kernel
theorem dX12_minuteOf_373 : decode cX12_minuteOf 373 = .ok (.ifCond .eq 7, 3) := by decide +kernel
theorem dX12_minuteOf_376 : decode cX12_minuteOf 376 = .ok (.iconst 1, 1) := by decide +kernel
theorem dX12_minuteOf_377 : decode cX12_minuteOf 377 = .ok (.goto 4, 3) := by decide +kernel
theorem dX12_minuteOf_380 : decode cX12_minuteOf 380 = .ok (.iconst 0, 1) := by decide +kernel
theorem dX12_minuteOf_381 : decode cX12_minuteOf 381 = .ok (.iadd, 1) := by decide +kernel
theorem dX12_minuteOf_382 : decode cX12_minuteOf 382 = .ok (.putfield 390, 3) := by decide +kernel
theorem dX12_minuteOf_385 : decode cX12_minuteOf 385 = .ok (.iinc 2 1, 3) := by decide +kernel
theorem dX12_minuteOf_388 : decode cX12_minuteOf 388 = .ok (.goto (-201), 3) := by decide +kernel
theorem dX12_minuteOf_391 : decode cX12_minuteOf 391 = .ok (.return_, 1) := by decide +kernel
set_option maxRecDepth 20000 in
theorem T_X12_minuteOf_2 {Q : Option Value → ah_T → Prop} {h : ah_T} (hs : Sh h) (x1 : Int32) (x2 : Int32) (ht : (((ah_i h 84 (Int32.toNatClampNeg 247)) ≤ x2 → Wp mX12_minuteOf Q 0 0 91 [some (.ref 82), some (.int x1), some (.int 0), none] [] h) ∧ (¬ (ah_i h 84 (Int32.toNatClampNeg 247)) ≤ x2 → (vp_in ((90 + (3 * x2)) + 1) (ah_n h 84)) ∧ (((ah_i h 84 (Int32.toNatClampNeg ((90 + (3 * x2)) + 1))) = x1 → (vp_in (90 + (3 * x2)) (ah_n h 84)) ∧ (vp_in (ah_i h 84 (Int32.toNatClampNeg (90 + (3 * x2)))) (ah_n h 104)) ∧ (∀ h6, h6 = ah_si h 104 (Int32.toNatClampNeg (ah_i h 84 (Int32.toNatClampNeg (90 + (3 * x2))))) (-1) → (vp_in (90 + (3 * x2)) (ah_n h6 84)) ∧ (vp_in (ah_i h6 84 (Int32.toNatClampNeg (90 + (3 * x2)))) (ah_n h6 105)) ∧ (∀ h11, h11 = ah_si h6 105 (Int32.toNatClampNeg (ah_i h6 84 (Int32.toNatClampNeg (90 + (3 * x2))))) (vp_nar .boolean 0) → (vp_in ((90 + (3 * x2)) + 2) (ah_n h11 84)) ∧ ((¬ (ah_i h11 84 (Int32.toNatClampNeg ((90 + (3 * x2)) + 2))) = 1 → Wp mX12_minuteOf Q 0 0 83 [some (.ref 82), some (.int x1), some (.int x2), none] [] h11) ∧ ((ah_i h11 84 (Int32.toNatClampNeg ((90 + (3 * x2)) + 2))) = 1 → (vp_in (90 + (3 * x2)) (ah_n h11 84)) ∧ (Mt mX12_burns0 [.ref 82, .int (ah_i h11 84 (Int32.toNatClampNeg (90 + (3 * x2)))), .int x1] h11 (ab_qv fun h17 => Sh h17 ∧ Wp mX12_minuteOf Q 0 0 83 [some (.ref 82), some (.int x1), some (.int x2), none] [] h17))))))) ∧ (¬ (ah_i h 84 (Int32.toNatClampNeg ((90 + (3 * x2)) + 1))) = x1 → Wp mX12_minuteOf Q 0 0 83 [some (.ref 82), some (.int x1), some (.int x2), none] [] h))))) : Wp mX12_minuteOf Q 0 0 2 [some (.ref 82), some (.int x1), some (.int x2), none] [] h := by
  refine ab_iload_n (i := 2) dX12_minuteOf_2 rfl rfl ?_
  refine ab_aload_n (i := 0) dX12_minuteOf_3 rfl rfl ?_
  refine ab_getR (b := 84) f_X12_20 rfl (sh_k hs 82 12 (by decide) rfl) (sh_r hs 100 rfl) dX12_minuteOf_4 ?_
  refine ab_sipush (v := 247) dX12_minuteOf_7 (by decide) ?_
  refine ab_iald (sh_k hs 84 14 (by decide) rfl) (sh_in hs 84 5860 (by decide) (by decide) rfl (by unfold vp_in; decide)) dX12_minuteOf_10 ?_
  refine ab_icmp_ge (tgt := 89) dX12_minuteOf_11 (by decide) (fun c1 => ?_) (fun c1 => ?_)
  · have ht := ht.1 c1
    refine ab_iconst (v := 0) dX12_minuteOf_89 (by decide) ?_
    refine ab_istore_n (i := 2) (L' := [some (.ref 82), some (.int x1), some (.int 0), none]) dX12_minuteOf_90 rfl (by exact (Nat.le_of_ble_eq_true rfl)) rfl rfl ?_
    exact Wp.fewer (L' := [some (.ref 82), some (.int x1), some (.int 0), none]) (show ab_leL _ _ from ⟨rfl, ⟨rfl, ⟨rfl, trivial⟩⟩⟩) ht
  · have ht := ht.2 c1
    refine ab_bipush (v := 90) dX12_minuteOf_14 (by decide) ?_
    refine ab_iconst (v := 3) dX12_minuteOf_16 (by decide) ?_
    refine ab_iload_n (i := 2) dX12_minuteOf_17 rfl rfl ?_
    refine ab_imul dX12_minuteOf_18 ?_
    refine ab_iadd dX12_minuteOf_19 ?_
    refine ab_istore_n (i := 3) (L' := [some (.ref 82), some (.int x1), some (.int x2), some (.int (90 + (3 * x2)))]) dX12_minuteOf_20 rfl (by exact (Nat.le_of_ble_eq_true rfl)) rfl rfl ?_
    refine ab_aload_n (i := 0) dX12_minuteOf_21 rfl rfl ?_
    refine ab_getR (b := 84) f_X12_20 rfl (sh_k hs 82 12 (by decide) rfl) (sh_r hs 100 rfl) dX12_minuteOf_22 ?_
    refine ab_iload_n (i := 3) dX12_minuteOf_25 rfl rfl ?_
    refine ab_iconst (v := 1) dX12_minuteOf_26 (by decide) ?_
    refine ab_iadd dX12_minuteOf_27 ?_
    obtain ⟨hc2, ht⟩ := ht
    refine ab_iald (sh_k hs 84 14 (by decide) rfl) hc2 dX12_minuteOf_28 ?_
    refine ab_iload_n (i := 1) dX12_minuteOf_29 rfl rfl ?_
    refine ab_icmp_eq (tgt := 36) dX12_minuteOf_30 (by decide) (fun c3 => ?_) (fun c3 => ?_)
    · have ht := ht.1 c3
      refine ab_aload_n (i := 0) dX12_minuteOf_36 rfl rfl ?_
      refine ab_getR (b := 104) f_X12_89 rfl (sh_k hs 82 12 (by decide) rfl) (sh_r hs 120 rfl) dX12_minuteOf_37 ?_
      refine ab_aload_n (i := 0) dX12_minuteOf_40 rfl rfl ?_
      refine ab_getR (b := 84) f_X12_20 rfl (sh_k hs 82 12 (by decide) rfl) (sh_r hs 100 rfl) dX12_minuteOf_41 ?_
      refine ab_iload_n (i := 3) dX12_minuteOf_44 rfl rfl ?_
      obtain ⟨hc4, ht⟩ := ht
      refine ab_iald (sh_k hs 84 14 (by decide) rfl) hc4 dX12_minuteOf_45 ?_
      refine ab_iconst (v := (-1)) dX12_minuteOf_46 (by decide) ?_
      obtain ⟨hc5, ht⟩ := ht
      refine ab_iast (sh_k hs 104 14 (by decide) rfl) hc5 dX12_minuteOf_47 ?_
      refine Wp.nm fun h6 e7 => ?_
      have ht := ht h6 e7
      have hs8 : Sh h6 := by rw [e7]; exact sh_si hs
      refine ab_aload_n (i := 0) dX12_minuteOf_48 rfl rfl ?_
      refine ab_getR (b := 105) f_X12_92 rfl (sh_k hs8 82 12 (by decide) rfl) (sh_r hs8 121 rfl) dX12_minuteOf_49 ?_
      refine ab_aload_n (i := 0) dX12_minuteOf_52 rfl rfl ?_
      refine ab_getR (b := 84) f_X12_20 rfl (sh_k hs8 82 12 (by decide) rfl) (sh_r hs8 100 rfl) dX12_minuteOf_53 ?_
      refine ab_iload_n (i := 3) dX12_minuteOf_56 rfl rfl ?_
      obtain ⟨hc9, ht⟩ := ht
      refine ab_iald (sh_k hs8 84 14 (by decide) rfl) hc9 dX12_minuteOf_57 ?_
      refine ab_iconst (v := 0) dX12_minuteOf_58 (by decide) ?_
      obtain ⟨hc10, ht⟩ := ht
      refine ab_zast (sh_k hs8 105 16 (by decide) rfl) hc10 dX12_minuteOf_59 ?_
      refine Wp.nm fun h11 e12 => ?_
      have ht := ht h11 e12
      have hs13 : Sh h11 := by rw [e12]; exact sh_si hs8
      refine ab_aload_n (i := 0) dX12_minuteOf_60 rfl rfl ?_
      refine ab_getR (b := 84) f_X12_20 rfl (sh_k hs13 82 12 (by decide) rfl) (sh_r hs13 100 rfl) dX12_minuteOf_61 ?_
      refine ab_iload_n (i := 3) dX12_minuteOf_64 rfl rfl ?_
      refine ab_iconst (v := 2) dX12_minuteOf_65 (by decide) ?_
      refine ab_iadd dX12_minuteOf_66 ?_
      obtain ⟨hc14, ht⟩ := ht
      refine ab_iald (sh_k hs13 84 14 (by decide) rfl) hc14 dX12_minuteOf_67 ?_
      refine ab_iconst (v := 1) dX12_minuteOf_68 (by decide) ?_
      refine ab_icmp_ne (tgt := 83) dX12_minuteOf_69 (by decide) (fun c15 => ?_) (fun c15 => ?_)
      · have ht := ht.1 c15
        exact Wp.fewer (L' := [some (.ref 82), some (.int x1), some (.int x2), none]) (show ab_leL _ _ from ⟨rfl, ⟨rfl, ⟨rfl, trivial⟩⟩⟩) ht
      · have ht := ht.2 c15
        refine ab_aload_n (i := 0) dX12_minuteOf_72 rfl rfl ?_
        refine ab_aload_n (i := 0) dX12_minuteOf_73 rfl rfl ?_
        refine ab_getR (b := 84) f_X12_20 rfl (sh_k hs13 82 12 (by decide) rfl) (sh_r hs13 100 rfl) dX12_minuteOf_74 ?_
        refine ab_iload_n (i := 3) dX12_minuteOf_77 rfl rfl ?_
        obtain ⟨hc16, ht⟩ := ht
        refine ab_iald (sh_k hs13 84 14 (by decide) rfl) hc16 dX12_minuteOf_78 ?_
        refine ab_iload_n (i := 1) dX12_minuteOf_79 rfl rfl ?_
        refine ab_callV (b := 82) (As := [.int (ah_i h11 84 (Int32.toNatClampNeg (90 + (3 * x2)))), .int x1]) ht (Y_X12_burns0) l_X12_399 in_X12_burns0 se_X12_burns0 (sh_k hs13 82 12 (by decide) rfl) (by decide) rfl rfl ⟨(Nat.le_of_ble_eq_true rfl), (Nat.le_of_ble_eq_true rfl), (Nat.le_of_ble_eq_true rfl), (Nat.le_of_ble_eq_true rfl)⟩ dX12_minuteOf_80 ?_
        rintro _ h17 ⟨rfl, hs18, ht⟩
        exact Wp.fewer (L' := [some (.ref 82), some (.int x1), some (.int x2), none]) (show ab_leL _ _ from ⟨rfl, ⟨rfl, ⟨rfl, trivial⟩⟩⟩) ht
    · have ht := ht.2 c3
      refine ab_goto (tgt := 83) dX12_minuteOf_33 (by decide) ?_
      exact Wp.fewer (L' := [some (.ref 82), some (.int x1), some (.int x2), none]) (show ab_leL _ _ from ⟨rfl, ⟨rfl, ⟨rfl, trivial⟩⟩⟩) ht
set_option maxRecDepth 20000 in
theorem T_X12_minuteOf_91 {Q : Option Value → ah_T → Prop} {h : ah_T} (hs : Sh h) (x1 : Int32) (x2 : Int32) (ht : (((ah_i h 82 41) ≤ x2 → Wp mX12_minuteOf Q 0 0 142 [some (.ref 82), some (.int x1), some (.int 0), none] [] h) ∧ (¬ (ah_i h 82 41) ≤ x2 → (vp_in x2 (ah_n h 104)) ∧ (((ah_i h 104 (Int32.toNatClampNeg x2)) = (-1) → Wp mX12_minuteOf Q 0 0 134 [some (.ref 82), some (.int x1), some (.int x2), none] [] h) ∧ (¬ (ah_i h 104 (Int32.toNatClampNeg x2)) = (-1) → (vp_in x2 (ah_n h 104)) ∧ ((¬ ((ah_i h 104 (Int32.toNatClampNeg x2)) + (ah_i h 84 (Int32.toNatClampNeg 243))) = x1 → Wp mX12_minuteOf Q 0 0 134 [some (.ref 82), some (.int x1), some (.int x2), none] [] h) ∧ (((ah_i h 104 (Int32.toNatClampNeg x2)) + (ah_i h 84 (Int32.toNatClampNeg 243))) = x1 → (Mt mX12_burns0 [.ref 82, .int x2, .int x1] h (ab_qv fun h25 => Sh h25 ∧ Wp mX12_minuteOf Q 0 0 134 [some (.ref 82), some (.int x1), some (.int x2), none] [] h25))))))))) : Wp mX12_minuteOf Q 0 0 91 [some (.ref 82), some (.int x1), some (.int x2), none] [] h := by
  refine ab_iload_n (i := 2) dX12_minuteOf_91 rfl rfl ?_
  refine ab_aload_n (i := 0) dX12_minuteOf_92 rfl rfl ?_
  refine ab_getI f_X12_378 rfl (sh_k hs 82 12 (by decide) rfl) dX12_minuteOf_93 ?_
  refine ab_icmp_ge (tgt := 140) dX12_minuteOf_96 (by decide) (fun c20 => ?_) (fun c20 => ?_)
  · have ht := ht.1 c20
    refine ab_iconst (v := 0) dX12_minuteOf_140 (by decide) ?_
    refine ab_istore_n (i := 2) (L' := [some (.ref 82), some (.int x1), some (.int 0), none]) dX12_minuteOf_141 rfl (by exact (Nat.le_of_ble_eq_true rfl)) rfl rfl ?_
    exact Wp.fewer (L' := [some (.ref 82), some (.int x1), some (.int 0), none]) (show ab_leL _ _ from ⟨rfl, ⟨rfl, ⟨rfl, trivial⟩⟩⟩) ht
  · have ht := ht.2 c20
    refine ab_aload_n (i := 0) dX12_minuteOf_99 rfl rfl ?_
    refine ab_getR (b := 104) f_X12_89 rfl (sh_k hs 82 12 (by decide) rfl) (sh_r hs 120 rfl) dX12_minuteOf_100 ?_
    refine ab_iload_n (i := 2) dX12_minuteOf_103 rfl rfl ?_
    obtain ⟨hc21, ht⟩ := ht
    refine ab_iald (sh_k hs 104 14 (by decide) rfl) hc21 dX12_minuteOf_104 ?_
    refine ab_iconst (v := (-1)) dX12_minuteOf_105 (by decide) ?_
    refine ab_icmp_eq (tgt := 134) dX12_minuteOf_106 (by decide) (fun c22 => ?_) (fun c22 => ?_)
    · have ht := ht.1 c22
      exact Wp.fewer (L' := [some (.ref 82), some (.int x1), some (.int x2), none]) (show ab_leL _ _ from ⟨rfl, ⟨rfl, ⟨rfl, trivial⟩⟩⟩) ht
    · have ht := ht.2 c22
      refine ab_aload_n (i := 0) dX12_minuteOf_109 rfl rfl ?_
      refine ab_getR (b := 104) f_X12_89 rfl (sh_k hs 82 12 (by decide) rfl) (sh_r hs 120 rfl) dX12_minuteOf_110 ?_
      refine ab_iload_n (i := 2) dX12_minuteOf_113 rfl rfl ?_
      obtain ⟨hc23, ht⟩ := ht
      refine ab_iald (sh_k hs 104 14 (by decide) rfl) hc23 dX12_minuteOf_114 ?_
      refine ab_aload_n (i := 0) dX12_minuteOf_115 rfl rfl ?_
      refine ab_getR (b := 84) f_X12_20 rfl (sh_k hs 82 12 (by decide) rfl) (sh_r hs 100 rfl) dX12_minuteOf_116 ?_
      refine ab_sipush (v := 243) dX12_minuteOf_119 (by decide) ?_
      refine ab_iald (sh_k hs 84 14 (by decide) rfl) (sh_in hs 84 5860 (by decide) (by decide) rfl (by unfold vp_in; decide)) dX12_minuteOf_122 ?_
      refine ab_iadd dX12_minuteOf_123 ?_
      refine ab_iload_n (i := 1) dX12_minuteOf_124 rfl rfl ?_
      refine ab_icmp_ne (tgt := 134) dX12_minuteOf_125 (by decide) (fun c24 => ?_) (fun c24 => ?_)
      · have ht := ht.1 c24
        exact Wp.fewer (L' := [some (.ref 82), some (.int x1), some (.int x2), none]) (show ab_leL _ _ from ⟨rfl, ⟨rfl, ⟨rfl, trivial⟩⟩⟩) ht
      · have ht := ht.2 c24
        refine ab_aload_n (i := 0) dX12_minuteOf_128 rfl rfl ?_
        refine ab_iload_n (i := 2) dX12_minuteOf_129 rfl rfl ?_
        refine ab_iload_n (i := 1) dX12_minuteOf_130 rfl rfl ?_
        refine ab_callV (b := 82) (As := [.int x2, .int x1]) ht (Y_X12_burns0) l_X12_399 in_X12_burns0 se_X12_burns0 (sh_k hs 82 12 (by decide) rfl) (by decide) rfl rfl ⟨(Nat.le_of_ble_eq_true rfl), (Nat.le_of_ble_eq_true rfl), (Nat.le_of_ble_eq_true rfl), (Nat.le_of_ble_eq_true rfl)⟩ dX12_minuteOf_131 ?_
        rintro _ h25 ⟨rfl, hs26, ht⟩
        exact Wp.fewer (L' := [some (.ref 82), some (.int x1), some (.int x2), none]) (show ab_leL _ _ from ⟨rfl, ⟨rfl, ⟨rfl, trivial⟩⟩⟩) ht
set_option maxRecDepth 20000 in
theorem T_X12_minuteOf_83 {Q : Option Value → ah_T → Prop} {h : ah_T} (hs : Sh h) (x1 : Int32) (x2 : Int32) (ht : Wp mX12_minuteOf Q 0 0 2 [some (.ref 82), some (.int x1), some (.int (x2 + 1)), none] [] h) : Wp mX12_minuteOf Q 0 0 83 [some (.ref 82), some (.int x1), some (.int x2), none] [] h := by
  refine ab_iinc (i := 2) (x := x2) (v := (x2 + 1)) (L' := [some (.ref 82), some (.int x1), some (.int (x2 + 1)), none]) dX12_minuteOf_83 rfl rfl (by exact (Nat.le_of_ble_eq_true rfl)) rfl rfl ?_
  refine ab_goto (tgt := 2) dX12_minuteOf_86 (by decide) ?_
  exact Wp.fewer (L' := [some (.ref 82), some (.int x1), some (.int (x2 + 1)), none]) (show ab_leL _ _ from ⟨rfl, ⟨rfl, ⟨rfl, trivial⟩⟩⟩) ht
set_option maxRecDepth 20000 in
theorem T_X12_minuteOf_142 {Q : Option Value → ah_T → Prop} {h : ah_T} (hs : Sh h) (x1 : Int32) (x2 : Int32) (ht : (((ah_i h 82 41) ≤ x2 → Wp mX12_minuteOf Q 0 0 187 [some (.ref 82), some (.int x1), some (.int 0), none] [] h) ∧ (¬ (ah_i h 82 41) ≤ x2 → (vp_in x2 (ah_n h 105)) ∧ (((ah_i h 105 (Int32.toNatClampNeg x2)) = 0 → (vp_in x2 (ah_n h 106)) ∧ (∀ h32, h32 = ah_si h 106 (Int32.toNatClampNeg x2) (vp_nar .boolean 0) → Wp mX12_minuteOf Q 0 0 142 [some (.ref 82), some (.int x1), some (.int (x2 + 1)), none] [] h32)) ∧ (¬ (ah_i h 105 (Int32.toNatClampNeg x2)) = 0 → (Mt mX12_isDriven [.ref 82, .int x2, .int x1] h (ab_qi fun v37 h35 => Sh h35 ∧ ((v37 = 0 → (vp_in x2 (ah_n h35 106)) ∧ (∀ h40, h40 = ah_si h35 106 (Int32.toNatClampNeg x2) (vp_nar .boolean 0) → Wp mX12_minuteOf Q 0 0 142 [some (.ref 82), some (.int x1), some (.int (x2 + 1)), none] [] h40)) ∧ (¬ v37 = 0 → (vp_in x2 (ah_n h35 106)) ∧ (∀ h44, h44 = ah_si h35 106 (Int32.toNatClampNeg x2) (vp_nar .boolean 1) → Wp mX12_minuteOf Q 0 0 142 [some (.ref 82), some (.int x1), some (.int (x2 + 1)), none] [] h44)))))))))) : Wp mX12_minuteOf Q 0 0 142 [some (.ref 82), some (.int x1), some (.int x2), none] [] h := by
  refine ab_iload_n (i := 2) dX12_minuteOf_142 rfl rfl ?_
  refine ab_aload_n (i := 0) dX12_minuteOf_143 rfl rfl ?_
  refine ab_getI f_X12_378 rfl (sh_k hs 82 12 (by decide) rfl) dX12_minuteOf_144 ?_
  refine ab_icmp_ge (tgt := 185) dX12_minuteOf_147 (by decide) (fun c28 => ?_) (fun c28 => ?_)
  · have ht := ht.1 c28
    refine ab_iconst (v := 0) dX12_minuteOf_185 (by decide) ?_
    refine ab_istore_n (i := 2) (L' := [some (.ref 82), some (.int x1), some (.int 0), none]) dX12_minuteOf_186 rfl (by exact (Nat.le_of_ble_eq_true rfl)) rfl rfl ?_
    exact Wp.fewer (L' := [some (.ref 82), some (.int x1), some (.int 0), none]) (show ab_leL _ _ from ⟨rfl, ⟨rfl, ⟨rfl, trivial⟩⟩⟩) ht
  · have ht := ht.2 c28
    refine ab_aload_n (i := 0) dX12_minuteOf_150 rfl rfl ?_
    refine ab_getR (b := 106) f_X12_95 rfl (sh_k hs 82 12 (by decide) rfl) (sh_r hs 122 rfl) dX12_minuteOf_151 ?_
    refine ab_iload_n (i := 2) dX12_minuteOf_154 rfl rfl ?_
    refine ab_aload_n (i := 0) dX12_minuteOf_155 rfl rfl ?_
    refine ab_getR (b := 105) f_X12_92 rfl (sh_k hs 82 12 (by decide) rfl) (sh_r hs 121 rfl) dX12_minuteOf_156 ?_
    refine ab_iload_n (i := 2) dX12_minuteOf_159 rfl rfl ?_
    obtain ⟨hc29, ht⟩ := ht
    refine ab_zald (sh_k hs 105 16 (by decide) rfl) hc29 dX12_minuteOf_160 ?_
    refine ab_if_eq (tgt := 177) dX12_minuteOf_161 (by decide) (fun c30 => ?_) (fun c30 => ?_)
    · have ht := ht.1 c30
      refine ab_iconst (v := 0) dX12_minuteOf_177 (by decide) ?_
      obtain ⟨hc31, ht⟩ := ht
      refine ab_zast (sh_k hs 106 16 (by decide) rfl) hc31 dX12_minuteOf_178 ?_
      refine Wp.nm fun h32 e33 => ?_
      have ht := ht h32 e33
      have hs34 : Sh h32 := by rw [e33]; exact sh_si hs
      refine ab_iinc (i := 2) (x := x2) (v := (x2 + 1)) (L' := [some (.ref 82), some (.int x1), some (.int (x2 + 1)), none]) dX12_minuteOf_179 rfl rfl (by exact (Nat.le_of_ble_eq_true rfl)) rfl rfl ?_
      refine ab_goto (tgt := 142) dX12_minuteOf_182 (by decide) ?_
      exact Wp.fewer (L' := [some (.ref 82), some (.int x1), some (.int (x2 + 1)), none]) (show ab_leL _ _ from ⟨rfl, ⟨rfl, ⟨rfl, trivial⟩⟩⟩) ht
    · have ht := ht.2 c30
      refine ab_aload_n (i := 0) dX12_minuteOf_164 rfl rfl ?_
      refine ab_iload_n (i := 2) dX12_minuteOf_165 rfl rfl ?_
      refine ab_iload_n (i := 1) dX12_minuteOf_166 rfl rfl ?_
      refine ab_callV (b := 82) (As := [.int x2, .int x1]) ht (Y_X12_isDriven) l_X12_403 in_X12_isDriven se_X12_isDriven (sh_k hs 82 12 (by decide) rfl) (by decide) rfl rfl ⟨(Nat.le_of_ble_eq_true rfl), (Nat.le_of_ble_eq_true rfl), (Nat.le_of_ble_eq_true rfl), (Nat.le_of_ble_eq_true rfl)⟩ dX12_minuteOf_167 ?_
      rintro _ h35 ⟨v37, rfl, hs36, ht⟩
      refine ab_if_eq (tgt := 177) dX12_minuteOf_170 (by decide) (fun c38 => ?_) (fun c38 => ?_)
      · have ht := ht.1 c38
        refine ab_iconst (v := 0) dX12_minuteOf_177 (by decide) ?_
        obtain ⟨hc39, ht⟩ := ht
        refine ab_zast (sh_k hs36 106 16 (by decide) rfl) hc39 dX12_minuteOf_178 ?_
        refine Wp.nm fun h40 e41 => ?_
        have ht := ht h40 e41
        have hs42 : Sh h40 := by rw [e41]; exact sh_si hs36
        refine ab_iinc (i := 2) (x := x2) (v := (x2 + 1)) (L' := [some (.ref 82), some (.int x1), some (.int (x2 + 1)), none]) dX12_minuteOf_179 rfl rfl (by exact (Nat.le_of_ble_eq_true rfl)) rfl rfl ?_
        refine ab_goto (tgt := 142) dX12_minuteOf_182 (by decide) ?_
        exact Wp.fewer (L' := [some (.ref 82), some (.int x1), some (.int (x2 + 1)), none]) (show ab_leL _ _ from ⟨rfl, ⟨rfl, ⟨rfl, trivial⟩⟩⟩) ht
      · have ht := ht.2 c38
        refine ab_iconst (v := 1) dX12_minuteOf_173 (by decide) ?_
        refine ab_goto (tgt := 178) dX12_minuteOf_174 (by decide) ?_
        obtain ⟨hc43, ht⟩ := ht
        refine ab_zast (sh_k hs36 106 16 (by decide) rfl) hc43 dX12_minuteOf_178 ?_
        refine Wp.nm fun h44 e45 => ?_
        have ht := ht h44 e45
        have hs46 : Sh h44 := by rw [e45]; exact sh_si hs36
        refine ab_iinc (i := 2) (x := x2) (v := (x2 + 1)) (L' := [some (.ref 82), some (.int x1), some (.int (x2 + 1)), none]) dX12_minuteOf_179 rfl rfl (by exact (Nat.le_of_ble_eq_true rfl)) rfl rfl ?_
        refine ab_goto (tgt := 142) dX12_minuteOf_182 (by decide) ?_
        exact Wp.fewer (L' := [some (.ref 82), some (.int x1), some (.int (x2 + 1)), none]) (show ab_leL _ _ from ⟨rfl, ⟨rfl, ⟨rfl, trivial⟩⟩⟩) ht
set_option maxRecDepth 20000 in
theorem T_X12_minuteOf_134 {Q : Option Value → ah_T → Prop} {h : ah_T} (hs : Sh h) (x1 : Int32) (x2 : Int32) (ht : Wp mX12_minuteOf Q 0 0 91 [some (.ref 82), some (.int x1), some (.int (x2 + 1)), none] [] h) : Wp mX12_minuteOf Q 0 0 134 [some (.ref 82), some (.int x1), some (.int x2), none] [] h := by
  refine ab_iinc (i := 2) (x := x2) (v := (x2 + 1)) (L' := [some (.ref 82), some (.int x1), some (.int (x2 + 1)), none]) dX12_minuteOf_134 rfl rfl (by exact (Nat.le_of_ble_eq_true rfl)) rfl rfl ?_
  refine ab_goto (tgt := 91) dX12_minuteOf_137 (by decide) ?_
  exact Wp.fewer (L' := [some (.ref 82), some (.int x1), some (.int (x2 + 1)), none]) (show ab_leL _ _ from ⟨rfl, ⟨rfl, ⟨rfl, trivial⟩⟩⟩) ht
set_option maxRecDepth 20000 in
theorem T_X12_minuteOf_187 {Q : Option Value → ah_T → Prop} {h : ah_T} (hs : Sh h) (x1 : Int32) (x2 : Int32) (ht : (((ah_i h 82 41) ≤ x2 → Q none h) ∧ (¬ (ah_i h 82 41) ≤ x2 → (vp_in x2 (ah_n h 105)) ∧ (((ah_i h 105 (Int32.toNatClampNeg x2)) = 0 → (vp_in ((10 * x1) + x2) (ah_n h 109)) ∧ (∀ h51, h51 = ah_si h 109 (Int32.toNatClampNeg ((10 * x1) + x2)) (vp_nar .boolean 0) → (vp_in x2 (ah_n h51 106)) ∧ (vp_in ((10 * x1) + x2) (ah_n h51 111)) ∧ (∀ h56, h56 = ah_si h51 111 (Int32.toNatClampNeg ((10 * x1) + x2)) (vp_nar .boolean (ah_i h51 106 (Int32.toNatClampNeg x2))) → (vp_in ((10 * x1) + x2) (ah_n h56 109)) ∧ (((ah_i h56 109 (Int32.toNatClampNeg ((10 * x1) + x2))) = 0 → Wp mX12_minuteOf Q 0 0 282 [some (.ref 82), some (.int x1), some (.int x2), some (.int ((10 * x1) + x2))] [] h56) ∧ (¬ (ah_i h56 109 (Int32.toNatClampNeg ((10 * x1) + x2))) = 0 → (vp_in x2 (ah_n h56 102)) ∧ (vp_in x2 (ah_n h56 102)) ∧ (vp_in x2 (ah_n h56 101)) ∧ (Mt mX12_drinkOf [.ref 82, .int x2, .int (ah_i h56 101 (Int32.toNatClampNeg x2)), .int x1] h56 (ab_qi fun v66 h64 => Sh h64 ∧ (vp_in x2 (ah_n h64 102)) ∧ (∀ h68, h68 = ah_si h64 102 (Int32.toNatClampNeg x2) ((ah_i h56 102 (Int32.toNatClampNeg x2)) - (f_X12_lesser (ah_i h56 102 (Int32.toNatClampNeg x2)) v66)) → Wp mX12_minuteOf Q 0 0 282 [some (.ref 82), some (.int x1), some (.int x2), some (.int ((10 * x1) + x2))] [] h68)))))))) ∧ (¬ (ah_i h 105 (Int32.toNatClampNeg x2)) = 0 → (vp_in x2 (ah_n h 106)) ∧ ((¬ (ah_i h 106 (Int32.toNatClampNeg x2)) = 0 → (vp_in ((10 * x1) + x2) (ah_n h 109)) ∧ (∀ h74, h74 = ah_si h 109 (Int32.toNatClampNeg ((10 * x1) + x2)) (vp_nar .boolean 0) → (vp_in x2 (ah_n h74 106)) ∧ (vp_in ((10 * x1) + x2) (ah_n h74 111)) ∧ (∀ h79, h79 = ah_si h74 111 (Int32.toNatClampNeg ((10 * x1) + x2)) (vp_nar .boolean (ah_i h74 106 (Int32.toNatClampNeg x2))) → (vp_in ((10 * x1) + x2) (ah_n h79 109)) ∧ (((ah_i h79 109 (Int32.toNatClampNeg ((10 * x1) + x2))) = 0 → Wp mX12_minuteOf Q 0 0 282 [some (.ref 82), some (.int x1), some (.int x2), some (.int ((10 * x1) + x2))] [] h79) ∧ (¬ (ah_i h79 109 (Int32.toNatClampNeg ((10 * x1) + x2))) = 0 → (vp_in x2 (ah_n h79 102)) ∧ (vp_in x2 (ah_n h79 102)) ∧ (vp_in x2 (ah_n h79 101)) ∧ (Mt mX12_drinkOf [.ref 82, .int x2, .int (ah_i h79 101 (Int32.toNatClampNeg x2)), .int x1] h79 (ab_qi fun v89 h87 => Sh h87 ∧ (vp_in x2 (ah_n h87 102)) ∧ (∀ h91, h91 = ah_si h87 102 (Int32.toNatClampNeg x2) ((ah_i h79 102 (Int32.toNatClampNeg x2)) - (f_X12_lesser (ah_i h79 102 (Int32.toNatClampNeg x2)) v89)) → Wp mX12_minuteOf Q 0 0 282 [some (.ref 82), some (.int x1), some (.int x2), some (.int ((10 * x1) + x2))] [] h91)))))))) ∧ ((ah_i h 106 (Int32.toNatClampNeg x2)) = 0 → (vp_in ((10 * x1) + x2) (ah_n h 109)) ∧ (∀ h95, h95 = ah_si h 109 (Int32.toNatClampNeg ((10 * x1) + x2)) (vp_nar .boolean 1) → (vp_in x2 (ah_n h95 106)) ∧ (vp_in ((10 * x1) + x2) (ah_n h95 111)) ∧ (∀ h100, h100 = ah_si h95 111 (Int32.toNatClampNeg ((10 * x1) + x2)) (vp_nar .boolean (ah_i h95 106 (Int32.toNatClampNeg x2))) → (vp_in ((10 * x1) + x2) (ah_n h100 109)) ∧ (((ah_i h100 109 (Int32.toNatClampNeg ((10 * x1) + x2))) = 0 → Wp mX12_minuteOf Q 0 0 282 [some (.ref 82), some (.int x1), some (.int x2), some (.int ((10 * x1) + x2))] [] h100) ∧ (¬ (ah_i h100 109 (Int32.toNatClampNeg ((10 * x1) + x2))) = 0 → (vp_in x2 (ah_n h100 102)) ∧ (vp_in x2 (ah_n h100 102)) ∧ (vp_in x2 (ah_n h100 101)) ∧ (Mt mX12_drinkOf [.ref 82, .int x2, .int (ah_i h100 101 (Int32.toNatClampNeg x2)), .int x1] h100 (ab_qi fun v110 h108 => Sh h108 ∧ (vp_in x2 (ah_n h108 102)) ∧ (∀ h112, h112 = ah_si h108 102 (Int32.toNatClampNeg x2) ((ah_i h100 102 (Int32.toNatClampNeg x2)) - (f_X12_lesser (ah_i h100 102 (Int32.toNatClampNeg x2)) v110)) → Wp mX12_minuteOf Q 0 0 282 [some (.ref 82), some (.int x1), some (.int x2), some (.int ((10 * x1) + x2))] [] h112)))))))))))))) : Wp mX12_minuteOf Q 0 0 187 [some (.ref 82), some (.int x1), some (.int x2), none] [] h := by
  refine ab_iload_n (i := 2) dX12_minuteOf_187 rfl rfl ?_
  refine ab_aload_n (i := 0) dX12_minuteOf_188 rfl rfl ?_
  refine ab_getI f_X12_378 rfl (sh_k hs 82 12 (by decide) rfl) dX12_minuteOf_189 ?_
  refine ab_icmp_ge (tgt := 391) dX12_minuteOf_192 (by decide) (fun c47 => ?_) (fun c47 => ?_)
  · have ht := ht.1 c47
    exact ab_vret rfl dX12_minuteOf_391 (Nat.le_of_ble_eq_true rfl) (Nat.le_of_ble_eq_true rfl) ht
  · have ht := ht.2 c47
    refine ab_bipush (v := 10) dX12_minuteOf_195 (by decide) ?_
    refine ab_iload_n (i := 1) dX12_minuteOf_197 rfl rfl ?_
    refine ab_imul dX12_minuteOf_198 ?_
    refine ab_iload_n (i := 2) dX12_minuteOf_199 rfl rfl ?_
    refine ab_iadd dX12_minuteOf_200 ?_
    refine ab_istore_n (i := 3) (L' := [some (.ref 82), some (.int x1), some (.int x2), some (.int ((10 * x1) + x2))]) dX12_minuteOf_201 rfl (by exact (Nat.le_of_ble_eq_true rfl)) rfl rfl ?_
    refine ab_aload_n (i := 0) dX12_minuteOf_202 rfl rfl ?_
    refine ab_getR (b := 109) f_X12_104 rfl (sh_k hs 82 12 (by decide) rfl) (sh_r hs 125 rfl) dX12_minuteOf_203 ?_
    refine ab_iload_n (i := 3) dX12_minuteOf_206 rfl rfl ?_
    refine ab_aload_n (i := 0) dX12_minuteOf_207 rfl rfl ?_
    refine ab_getR (b := 105) f_X12_92 rfl (sh_k hs 82 12 (by decide) rfl) (sh_r hs 121 rfl) dX12_minuteOf_208 ?_
    refine ab_iload_n (i := 2) dX12_minuteOf_211 rfl rfl ?_
    obtain ⟨hc48, ht⟩ := ht
    refine ab_zald (sh_k hs 105 16 (by decide) rfl) hc48 dX12_minuteOf_212 ?_
    refine ab_if_eq (tgt := 229) dX12_minuteOf_213 (by decide) (fun c49 => ?_) (fun c49 => ?_)
    · have ht := ht.1 c49
      refine ab_iconst (v := 0) dX12_minuteOf_229 (by decide) ?_
      obtain ⟨hc50, ht⟩ := ht
      refine ab_zast (sh_k hs 109 16 (by decide) rfl) hc50 dX12_minuteOf_230 ?_
      refine Wp.nm fun h51 e52 => ?_
      have ht := ht h51 e52
      have hs53 : Sh h51 := by rw [e52]; exact sh_si hs
      refine ab_aload_n (i := 0) dX12_minuteOf_231 rfl rfl ?_
      refine ab_getR (b := 111) f_X12_110 rfl (sh_k hs53 82 12 (by decide) rfl) (sh_r hs53 127 rfl) dX12_minuteOf_232 ?_
      refine ab_iload_n (i := 3) dX12_minuteOf_235 rfl rfl ?_
      refine ab_aload_n (i := 0) dX12_minuteOf_236 rfl rfl ?_
      refine ab_getR (b := 106) f_X12_95 rfl (sh_k hs53 82 12 (by decide) rfl) (sh_r hs53 122 rfl) dX12_minuteOf_237 ?_
      refine ab_iload_n (i := 2) dX12_minuteOf_240 rfl rfl ?_
      obtain ⟨hc54, ht⟩ := ht
      refine ab_zald (sh_k hs53 106 16 (by decide) rfl) hc54 dX12_minuteOf_241 ?_
      obtain ⟨hc55, ht⟩ := ht
      refine ab_zast (sh_k hs53 111 16 (by decide) rfl) hc55 dX12_minuteOf_242 ?_
      refine Wp.nm fun h56 e57 => ?_
      have ht := ht h56 e57
      have hs58 : Sh h56 := by rw [e57]; exact sh_si hs53
      refine ab_aload_n (i := 0) dX12_minuteOf_243 rfl rfl ?_
      refine ab_getR (b := 109) f_X12_104 rfl (sh_k hs58 82 12 (by decide) rfl) (sh_r hs58 125 rfl) dX12_minuteOf_244 ?_
      refine ab_iload_n (i := 3) dX12_minuteOf_247 rfl rfl ?_
      obtain ⟨hc59, ht⟩ := ht
      refine ab_zald (sh_k hs58 109 16 (by decide) rfl) hc59 dX12_minuteOf_248 ?_
      refine ab_if_eq (tgt := 282) dX12_minuteOf_249 (by decide) (fun c60 => ?_) (fun c60 => ?_)
      · have ht := ht.1 c60
        exact Wp.fewer (L' := [some (.ref 82), some (.int x1), some (.int x2), some (.int ((10 * x1) + x2))]) (show ab_leL _ _ from ⟨rfl, ⟨rfl, ⟨rfl, ⟨rfl, trivial⟩⟩⟩⟩) ht
      · have ht := ht.2 c60
        refine ab_aload_n (i := 0) dX12_minuteOf_252 rfl rfl ?_
        refine ab_getR (b := 102) f_X12_83 rfl (sh_k hs58 82 12 (by decide) rfl) (sh_r hs58 118 rfl) dX12_minuteOf_253 ?_
        refine ab_iload_n (i := 2) dX12_minuteOf_256 rfl rfl ?_
        refine ab_dup2 dX12_minuteOf_257 rfl rfl ?_
        obtain ⟨hc61, ht⟩ := ht
        refine ab_iald (sh_k hs58 102 14 (by decide) rfl) hc61 dX12_minuteOf_258 ?_
        refine ab_aload_n (i := 0) dX12_minuteOf_259 rfl rfl ?_
        refine ab_getR (b := 102) f_X12_83 rfl (sh_k hs58 82 12 (by decide) rfl) (sh_r hs58 118 rfl) dX12_minuteOf_260 ?_
        refine ab_iload_n (i := 2) dX12_minuteOf_263 rfl rfl ?_
        obtain ⟨hc62, ht⟩ := ht
        refine ab_iald (sh_k hs58 102 14 (by decide) rfl) hc62 dX12_minuteOf_264 ?_
        refine ab_aload_n (i := 0) dX12_minuteOf_265 rfl rfl ?_
        refine ab_iload_n (i := 2) dX12_minuteOf_266 rfl rfl ?_
        refine ab_aload_n (i := 0) dX12_minuteOf_267 rfl rfl ?_
        refine ab_getR (b := 101) f_X12_80 rfl (sh_k hs58 82 12 (by decide) rfl) (sh_r hs58 117 rfl) dX12_minuteOf_268 ?_
        refine ab_iload_n (i := 2) dX12_minuteOf_271 rfl rfl ?_
        obtain ⟨hc63, ht⟩ := ht
        refine ab_iald (sh_k hs58 101 14 (by decide) rfl) hc63 dX12_minuteOf_272 ?_
        refine ab_iload_n (i := 1) dX12_minuteOf_273 rfl rfl ?_
        refine ab_callV (b := 82) (As := [.int x2, .int (ah_i h56 101 (Int32.toNatClampNeg x2)), .int x1]) ht (Y_X12_drinkOf) l_X12_406 in_X12_drinkOf se_X12_drinkOf (sh_k hs58 82 12 (by decide) rfl) (by decide) rfl rfl ⟨(Nat.le_of_ble_eq_true rfl), (Nat.le_of_ble_eq_true rfl), (Nat.le_of_ble_eq_true rfl), (Nat.le_of_ble_eq_true rfl)⟩ dX12_minuteOf_274 ?_
        rintro _ h64 ⟨v66, rfl, hs65, ht⟩
        refine ab_callS (Q' := fun r h' => r = some (.int (f_X12_lesser (ah_i h56 102 (Int32.toNatClampNeg x2)) v66)) ∧ h64 = h') (As := [.int (ah_i h56 102 (Int32.toNatClampNeg x2)), .int v66]) (c_X12_lesser hs65 (ah_i h56 102 (Int32.toNatClampNeg x2)) v66 ⟨rfl, rfl⟩) (Y_X12_lesser) l_X12_167 st_X12_lesser rfl ⟨(Nat.le_of_ble_eq_true rfl), (Nat.le_of_ble_eq_true rfl), (Nat.le_of_ble_eq_true rfl), (Nat.le_of_ble_eq_true rfl)⟩ dX12_minuteOf_277 ?_
        rintro _ _ ⟨rfl, rfl⟩
        refine ab_isub dX12_minuteOf_280 ?_
        obtain ⟨hc67, ht⟩ := ht
        refine ab_iast (sh_k hs65 102 14 (by decide) rfl) hc67 dX12_minuteOf_281 ?_
        refine Wp.nm fun h68 e69 => ?_
        have ht := ht h68 e69
        have hs70 : Sh h68 := by rw [e69]; exact sh_si hs65
        exact Wp.fewer (L' := [some (.ref 82), some (.int x1), some (.int x2), some (.int ((10 * x1) + x2))]) (show ab_leL _ _ from ⟨rfl, ⟨rfl, ⟨rfl, ⟨rfl, trivial⟩⟩⟩⟩) ht
    · have ht := ht.2 c49
      refine ab_aload_n (i := 0) dX12_minuteOf_216 rfl rfl ?_
      refine ab_getR (b := 106) f_X12_95 rfl (sh_k hs 82 12 (by decide) rfl) (sh_r hs 122 rfl) dX12_minuteOf_217 ?_
      refine ab_iload_n (i := 2) dX12_minuteOf_220 rfl rfl ?_
      obtain ⟨hc71, ht⟩ := ht
      refine ab_zald (sh_k hs 106 16 (by decide) rfl) hc71 dX12_minuteOf_221 ?_
      refine ab_if_ne (tgt := 229) dX12_minuteOf_222 (by decide) (fun c72 => ?_) (fun c72 => ?_)
      · have ht := ht.1 c72
        refine ab_iconst (v := 0) dX12_minuteOf_229 (by decide) ?_
        obtain ⟨hc73, ht⟩ := ht
        refine ab_zast (sh_k hs 109 16 (by decide) rfl) hc73 dX12_minuteOf_230 ?_
        refine Wp.nm fun h74 e75 => ?_
        have ht := ht h74 e75
        have hs76 : Sh h74 := by rw [e75]; exact sh_si hs
        refine ab_aload_n (i := 0) dX12_minuteOf_231 rfl rfl ?_
        refine ab_getR (b := 111) f_X12_110 rfl (sh_k hs76 82 12 (by decide) rfl) (sh_r hs76 127 rfl) dX12_minuteOf_232 ?_
        refine ab_iload_n (i := 3) dX12_minuteOf_235 rfl rfl ?_
        refine ab_aload_n (i := 0) dX12_minuteOf_236 rfl rfl ?_
        refine ab_getR (b := 106) f_X12_95 rfl (sh_k hs76 82 12 (by decide) rfl) (sh_r hs76 122 rfl) dX12_minuteOf_237 ?_
        refine ab_iload_n (i := 2) dX12_minuteOf_240 rfl rfl ?_
        obtain ⟨hc77, ht⟩ := ht
        refine ab_zald (sh_k hs76 106 16 (by decide) rfl) hc77 dX12_minuteOf_241 ?_
        obtain ⟨hc78, ht⟩ := ht
        refine ab_zast (sh_k hs76 111 16 (by decide) rfl) hc78 dX12_minuteOf_242 ?_
        refine Wp.nm fun h79 e80 => ?_
        have ht := ht h79 e80
        have hs81 : Sh h79 := by rw [e80]; exact sh_si hs76
        refine ab_aload_n (i := 0) dX12_minuteOf_243 rfl rfl ?_
        refine ab_getR (b := 109) f_X12_104 rfl (sh_k hs81 82 12 (by decide) rfl) (sh_r hs81 125 rfl) dX12_minuteOf_244 ?_
        refine ab_iload_n (i := 3) dX12_minuteOf_247 rfl rfl ?_
        obtain ⟨hc82, ht⟩ := ht
        refine ab_zald (sh_k hs81 109 16 (by decide) rfl) hc82 dX12_minuteOf_248 ?_
        refine ab_if_eq (tgt := 282) dX12_minuteOf_249 (by decide) (fun c83 => ?_) (fun c83 => ?_)
        · have ht := ht.1 c83
          exact Wp.fewer (L' := [some (.ref 82), some (.int x1), some (.int x2), some (.int ((10 * x1) + x2))]) (show ab_leL _ _ from ⟨rfl, ⟨rfl, ⟨rfl, ⟨rfl, trivial⟩⟩⟩⟩) ht
        · have ht := ht.2 c83
          refine ab_aload_n (i := 0) dX12_minuteOf_252 rfl rfl ?_
          refine ab_getR (b := 102) f_X12_83 rfl (sh_k hs81 82 12 (by decide) rfl) (sh_r hs81 118 rfl) dX12_minuteOf_253 ?_
          refine ab_iload_n (i := 2) dX12_minuteOf_256 rfl rfl ?_
          refine ab_dup2 dX12_minuteOf_257 rfl rfl ?_
          obtain ⟨hc84, ht⟩ := ht
          refine ab_iald (sh_k hs81 102 14 (by decide) rfl) hc84 dX12_minuteOf_258 ?_
          refine ab_aload_n (i := 0) dX12_minuteOf_259 rfl rfl ?_
          refine ab_getR (b := 102) f_X12_83 rfl (sh_k hs81 82 12 (by decide) rfl) (sh_r hs81 118 rfl) dX12_minuteOf_260 ?_
          refine ab_iload_n (i := 2) dX12_minuteOf_263 rfl rfl ?_
          obtain ⟨hc85, ht⟩ := ht
          refine ab_iald (sh_k hs81 102 14 (by decide) rfl) hc85 dX12_minuteOf_264 ?_
          refine ab_aload_n (i := 0) dX12_minuteOf_265 rfl rfl ?_
          refine ab_iload_n (i := 2) dX12_minuteOf_266 rfl rfl ?_
          refine ab_aload_n (i := 0) dX12_minuteOf_267 rfl rfl ?_
          refine ab_getR (b := 101) f_X12_80 rfl (sh_k hs81 82 12 (by decide) rfl) (sh_r hs81 117 rfl) dX12_minuteOf_268 ?_
          refine ab_iload_n (i := 2) dX12_minuteOf_271 rfl rfl ?_
          obtain ⟨hc86, ht⟩ := ht
          refine ab_iald (sh_k hs81 101 14 (by decide) rfl) hc86 dX12_minuteOf_272 ?_
          refine ab_iload_n (i := 1) dX12_minuteOf_273 rfl rfl ?_
          refine ab_callV (b := 82) (As := [.int x2, .int (ah_i h79 101 (Int32.toNatClampNeg x2)), .int x1]) ht (Y_X12_drinkOf) l_X12_406 in_X12_drinkOf se_X12_drinkOf (sh_k hs81 82 12 (by decide) rfl) (by decide) rfl rfl ⟨(Nat.le_of_ble_eq_true rfl), (Nat.le_of_ble_eq_true rfl), (Nat.le_of_ble_eq_true rfl), (Nat.le_of_ble_eq_true rfl)⟩ dX12_minuteOf_274 ?_
          rintro _ h87 ⟨v89, rfl, hs88, ht⟩
          refine ab_callS (Q' := fun r h' => r = some (.int (f_X12_lesser (ah_i h79 102 (Int32.toNatClampNeg x2)) v89)) ∧ h87 = h') (As := [.int (ah_i h79 102 (Int32.toNatClampNeg x2)), .int v89]) (c_X12_lesser hs88 (ah_i h79 102 (Int32.toNatClampNeg x2)) v89 ⟨rfl, rfl⟩) (Y_X12_lesser) l_X12_167 st_X12_lesser rfl ⟨(Nat.le_of_ble_eq_true rfl), (Nat.le_of_ble_eq_true rfl), (Nat.le_of_ble_eq_true rfl), (Nat.le_of_ble_eq_true rfl)⟩ dX12_minuteOf_277 ?_
          rintro _ _ ⟨rfl, rfl⟩
          refine ab_isub dX12_minuteOf_280 ?_
          obtain ⟨hc90, ht⟩ := ht
          refine ab_iast (sh_k hs88 102 14 (by decide) rfl) hc90 dX12_minuteOf_281 ?_
          refine Wp.nm fun h91 e92 => ?_
          have ht := ht h91 e92
          have hs93 : Sh h91 := by rw [e92]; exact sh_si hs88
          exact Wp.fewer (L' := [some (.ref 82), some (.int x1), some (.int x2), some (.int ((10 * x1) + x2))]) (show ab_leL _ _ from ⟨rfl, ⟨rfl, ⟨rfl, ⟨rfl, trivial⟩⟩⟩⟩) ht
      · have ht := ht.2 c72
        refine ab_iconst (v := 1) dX12_minuteOf_225 (by decide) ?_
        refine ab_goto (tgt := 230) dX12_minuteOf_226 (by decide) ?_
        obtain ⟨hc94, ht⟩ := ht
        refine ab_zast (sh_k hs 109 16 (by decide) rfl) hc94 dX12_minuteOf_230 ?_
        refine Wp.nm fun h95 e96 => ?_
        have ht := ht h95 e96
        have hs97 : Sh h95 := by rw [e96]; exact sh_si hs
        refine ab_aload_n (i := 0) dX12_minuteOf_231 rfl rfl ?_
        refine ab_getR (b := 111) f_X12_110 rfl (sh_k hs97 82 12 (by decide) rfl) (sh_r hs97 127 rfl) dX12_minuteOf_232 ?_
        refine ab_iload_n (i := 3) dX12_minuteOf_235 rfl rfl ?_
        refine ab_aload_n (i := 0) dX12_minuteOf_236 rfl rfl ?_
        refine ab_getR (b := 106) f_X12_95 rfl (sh_k hs97 82 12 (by decide) rfl) (sh_r hs97 122 rfl) dX12_minuteOf_237 ?_
        refine ab_iload_n (i := 2) dX12_minuteOf_240 rfl rfl ?_
        obtain ⟨hc98, ht⟩ := ht
        refine ab_zald (sh_k hs97 106 16 (by decide) rfl) hc98 dX12_minuteOf_241 ?_
        obtain ⟨hc99, ht⟩ := ht
        refine ab_zast (sh_k hs97 111 16 (by decide) rfl) hc99 dX12_minuteOf_242 ?_
        refine Wp.nm fun h100 e101 => ?_
        have ht := ht h100 e101
        have hs102 : Sh h100 := by rw [e101]; exact sh_si hs97
        refine ab_aload_n (i := 0) dX12_minuteOf_243 rfl rfl ?_
        refine ab_getR (b := 109) f_X12_104 rfl (sh_k hs102 82 12 (by decide) rfl) (sh_r hs102 125 rfl) dX12_minuteOf_244 ?_
        refine ab_iload_n (i := 3) dX12_minuteOf_247 rfl rfl ?_
        obtain ⟨hc103, ht⟩ := ht
        refine ab_zald (sh_k hs102 109 16 (by decide) rfl) hc103 dX12_minuteOf_248 ?_
        refine ab_if_eq (tgt := 282) dX12_minuteOf_249 (by decide) (fun c104 => ?_) (fun c104 => ?_)
        · have ht := ht.1 c104
          exact Wp.fewer (L' := [some (.ref 82), some (.int x1), some (.int x2), some (.int ((10 * x1) + x2))]) (show ab_leL _ _ from ⟨rfl, ⟨rfl, ⟨rfl, ⟨rfl, trivial⟩⟩⟩⟩) ht
        · have ht := ht.2 c104
          refine ab_aload_n (i := 0) dX12_minuteOf_252 rfl rfl ?_
          refine ab_getR (b := 102) f_X12_83 rfl (sh_k hs102 82 12 (by decide) rfl) (sh_r hs102 118 rfl) dX12_minuteOf_253 ?_
          refine ab_iload_n (i := 2) dX12_minuteOf_256 rfl rfl ?_
          refine ab_dup2 dX12_minuteOf_257 rfl rfl ?_
          obtain ⟨hc105, ht⟩ := ht
          refine ab_iald (sh_k hs102 102 14 (by decide) rfl) hc105 dX12_minuteOf_258 ?_
          refine ab_aload_n (i := 0) dX12_minuteOf_259 rfl rfl ?_
          refine ab_getR (b := 102) f_X12_83 rfl (sh_k hs102 82 12 (by decide) rfl) (sh_r hs102 118 rfl) dX12_minuteOf_260 ?_
          refine ab_iload_n (i := 2) dX12_minuteOf_263 rfl rfl ?_
          obtain ⟨hc106, ht⟩ := ht
          refine ab_iald (sh_k hs102 102 14 (by decide) rfl) hc106 dX12_minuteOf_264 ?_
          refine ab_aload_n (i := 0) dX12_minuteOf_265 rfl rfl ?_
          refine ab_iload_n (i := 2) dX12_minuteOf_266 rfl rfl ?_
          refine ab_aload_n (i := 0) dX12_minuteOf_267 rfl rfl ?_
          refine ab_getR (b := 101) f_X12_80 rfl (sh_k hs102 82 12 (by decide) rfl) (sh_r hs102 117 rfl) dX12_minuteOf_268 ?_
          refine ab_iload_n (i := 2) dX12_minuteOf_271 rfl rfl ?_
          obtain ⟨hc107, ht⟩ := ht
          refine ab_iald (sh_k hs102 101 14 (by decide) rfl) hc107 dX12_minuteOf_272 ?_
          refine ab_iload_n (i := 1) dX12_minuteOf_273 rfl rfl ?_
          refine ab_callV (b := 82) (As := [.int x2, .int (ah_i h100 101 (Int32.toNatClampNeg x2)), .int x1]) ht (Y_X12_drinkOf) l_X12_406 in_X12_drinkOf se_X12_drinkOf (sh_k hs102 82 12 (by decide) rfl) (by decide) rfl rfl ⟨(Nat.le_of_ble_eq_true rfl), (Nat.le_of_ble_eq_true rfl), (Nat.le_of_ble_eq_true rfl), (Nat.le_of_ble_eq_true rfl)⟩ dX12_minuteOf_274 ?_
          rintro _ h108 ⟨v110, rfl, hs109, ht⟩
          refine ab_callS (Q' := fun r h' => r = some (.int (f_X12_lesser (ah_i h100 102 (Int32.toNatClampNeg x2)) v110)) ∧ h108 = h') (As := [.int (ah_i h100 102 (Int32.toNatClampNeg x2)), .int v110]) (c_X12_lesser hs109 (ah_i h100 102 (Int32.toNatClampNeg x2)) v110 ⟨rfl, rfl⟩) (Y_X12_lesser) l_X12_167 st_X12_lesser rfl ⟨(Nat.le_of_ble_eq_true rfl), (Nat.le_of_ble_eq_true rfl), (Nat.le_of_ble_eq_true rfl), (Nat.le_of_ble_eq_true rfl)⟩ dX12_minuteOf_277 ?_
          rintro _ _ ⟨rfl, rfl⟩
          refine ab_isub dX12_minuteOf_280 ?_
          obtain ⟨hc111, ht⟩ := ht
          refine ab_iast (sh_k hs109 102 14 (by decide) rfl) hc111 dX12_minuteOf_281 ?_
          refine Wp.nm fun h112 e113 => ?_
          have ht := ht h112 e113
          have hs114 : Sh h112 := by rw [e113]; exact sh_si hs109
          exact Wp.fewer (L' := [some (.ref 82), some (.int x1), some (.int x2), some (.int ((10 * x1) + x2))]) (show ab_leL _ _ from ⟨rfl, ⟨rfl, ⟨rfl, ⟨rfl, trivial⟩⟩⟩⟩) ht
set_option maxRecDepth 20000 in
theorem T_X12_minuteOf_282 {Q : Option Value → ah_T → Prop} {h : ah_T} (hs : Sh h) (x1 : Int32) (x2 : Int32) (x3 : Int32) (ht : (vp_in x2 (ah_n h 106)) ∧ (((ah_i h 106 (Int32.toNatClampNeg x2)) = 0 → Wp mX12_minuteOf Q 0 0 298 [some (.ref 82), some (.int x1), some (.int x2), some (.int x3)] [] h) ∧ (¬ (ah_i h 106 (Int32.toNatClampNeg x2)) = 0 → (vp_in x2 (ah_n h 104)) ∧ (∀ h118, h118 = ah_si h 104 (Int32.toNatClampNeg x2) x1 → Wp mX12_minuteOf Q 0 0 298 [some (.ref 82), some (.int x1), some (.int x2), some (.int x3)] [] h118)))) : Wp mX12_minuteOf Q 0 0 282 [some (.ref 82), some (.int x1), some (.int x2), some (.int x3)] [] h := by
  refine ab_aload_n (i := 0) dX12_minuteOf_282 rfl rfl ?_
  refine ab_getR (b := 106) f_X12_95 rfl (sh_k hs 82 12 (by decide) rfl) (sh_r hs 122 rfl) dX12_minuteOf_283 ?_
  refine ab_iload_n (i := 2) dX12_minuteOf_286 rfl rfl ?_
  obtain ⟨hc115, ht⟩ := ht
  refine ab_zald (sh_k hs 106 16 (by decide) rfl) hc115 dX12_minuteOf_287 ?_
  refine ab_if_eq (tgt := 298) dX12_minuteOf_288 (by decide) (fun c116 => ?_) (fun c116 => ?_)
  · have ht := ht.1 c116
    exact Wp.fewer (L' := [some (.ref 82), some (.int x1), some (.int x2), some (.int x3)]) (show ab_leL _ _ from ⟨rfl, ⟨rfl, ⟨rfl, ⟨rfl, trivial⟩⟩⟩⟩) ht
  · have ht := ht.2 c116
    refine ab_aload_n (i := 0) dX12_minuteOf_291 rfl rfl ?_
    refine ab_getR (b := 104) f_X12_89 rfl (sh_k hs 82 12 (by decide) rfl) (sh_r hs 120 rfl) dX12_minuteOf_292 ?_
    refine ab_iload_n (i := 2) dX12_minuteOf_295 rfl rfl ?_
    refine ab_iload_n (i := 1) dX12_minuteOf_296 rfl rfl ?_
    obtain ⟨hc117, ht⟩ := ht
    refine ab_iast (sh_k hs 104 14 (by decide) rfl) hc117 dX12_minuteOf_297 ?_
    refine Wp.nm fun h118 e119 => ?_
    have ht := ht h118 e119
    have hs120 : Sh h118 := by rw [e119]; exact sh_si hs
    exact Wp.fewer (L' := [some (.ref 82), some (.int x1), some (.int x2), some (.int x3)]) (show ab_leL _ _ from ⟨rfl, ⟨rfl, ⟨rfl, ⟨rfl, trivial⟩⟩⟩⟩) ht
set_option maxRecDepth 20000 in
theorem T_X12_minuteOf_298 {Q : Option Value → ah_T → Prop} {h : ah_T} (hs : Sh h) (x1 : Int32) (x2 : Int32) (x3 : Int32) (ht : (vp_in x3 (ah_n h 109)) ∧ (((ah_i h 109 (Int32.toNatClampNeg x3)) = 0 → (vp_in x2 (ah_n h 105)) ∧ (∀ h124, h124 = ah_si h 105 (Int32.toNatClampNeg x2) (vp_nar .boolean 0) → (vp_in x2 (ah_n h124 102)) ∧ (vp_in x3 (ah_n h124 110)) ∧ (∀ h129, h129 = ah_si h124 110 (Int32.toNatClampNeg x3) (ah_i h124 102 (Int32.toNatClampNeg x2)) → (vp_in x3 (ah_n h129 109)) ∧ (((ah_i h129 109 (Int32.toNatClampNeg x3)) = 0 → (∀ h134, h134 = ah_si h129 82 47 ((ah_i h129 82 47) + 0) → (vp_in x2 (ah_n h134 106)) ∧ (((ah_i h134 106 (Int32.toNatClampNeg x2)) = 0 → (∀ h139, h139 = ah_si h134 82 48 ((ah_i h134 82 48) + 0) → Wp mX12_minuteOf Q 0 0 187 [some (.ref 82), some (.int x1), some (.int (x2 + 1)), none] [] h139)) ∧ (¬ (ah_i h134 106 (Int32.toNatClampNeg x2)) = 0 → (∀ h142, h142 = ah_si h134 82 48 ((ah_i h134 82 48) + 1) → Wp mX12_minuteOf Q 0 0 187 [some (.ref 82), some (.int x1), some (.int (x2 + 1)), none] [] h142))))) ∧ (¬ (ah_i h129 109 (Int32.toNatClampNeg x3)) = 0 → (∀ h145, h145 = ah_si h129 82 47 ((ah_i h129 82 47) + 1) → (vp_in x2 (ah_n h145 106)) ∧ (((ah_i h145 106 (Int32.toNatClampNeg x2)) = 0 → (∀ h150, h150 = ah_si h145 82 48 ((ah_i h145 82 48) + 0) → Wp mX12_minuteOf Q 0 0 187 [some (.ref 82), some (.int x1), some (.int (x2 + 1)), none] [] h150)) ∧ (¬ (ah_i h145 106 (Int32.toNatClampNeg x2)) = 0 → (∀ h153, h153 = ah_si h145 82 48 ((ah_i h145 82 48) + 1) → Wp mX12_minuteOf Q 0 0 187 [some (.ref 82), some (.int x1), some (.int (x2 + 1)), none] [] h153))))))))) ∧ (¬ (ah_i h 109 (Int32.toNatClampNeg x3)) = 0 → (vp_in x2 (ah_n h 102)) ∧ (((ah_i h 102 (Int32.toNatClampNeg x2)) ≤ 0 → (vp_in x2 (ah_n h 105)) ∧ (∀ h159, h159 = ah_si h 105 (Int32.toNatClampNeg x2) (vp_nar .boolean 0) → (vp_in x2 (ah_n h159 102)) ∧ (vp_in x3 (ah_n h159 110)) ∧ (∀ h164, h164 = ah_si h159 110 (Int32.toNatClampNeg x3) (ah_i h159 102 (Int32.toNatClampNeg x2)) → (vp_in x3 (ah_n h164 109)) ∧ (((ah_i h164 109 (Int32.toNatClampNeg x3)) = 0 → (∀ h169, h169 = ah_si h164 82 47 ((ah_i h164 82 47) + 0) → (vp_in x2 (ah_n h169 106)) ∧ (((ah_i h169 106 (Int32.toNatClampNeg x2)) = 0 → (∀ h174, h174 = ah_si h169 82 48 ((ah_i h169 82 48) + 0) → Wp mX12_minuteOf Q 0 0 187 [some (.ref 82), some (.int x1), some (.int (x2 + 1)), none] [] h174)) ∧ (¬ (ah_i h169 106 (Int32.toNatClampNeg x2)) = 0 → (∀ h177, h177 = ah_si h169 82 48 ((ah_i h169 82 48) + 1) → Wp mX12_minuteOf Q 0 0 187 [some (.ref 82), some (.int x1), some (.int (x2 + 1)), none] [] h177))))) ∧ (¬ (ah_i h164 109 (Int32.toNatClampNeg x3)) = 0 → (∀ h180, h180 = ah_si h164 82 47 ((ah_i h164 82 47) + 1) → (vp_in x2 (ah_n h180 106)) ∧ (((ah_i h180 106 (Int32.toNatClampNeg x2)) = 0 → (∀ h185, h185 = ah_si h180 82 48 ((ah_i h180 82 48) + 0) → Wp mX12_minuteOf Q 0 0 187 [some (.ref 82), some (.int x1), some (.int (x2 + 1)), none] [] h185)) ∧ (¬ (ah_i h180 106 (Int32.toNatClampNeg x2)) = 0 → (∀ h188, h188 = ah_si h180 82 48 ((ah_i h180 82 48) + 1) → Wp mX12_minuteOf Q 0 0 187 [some (.ref 82), some (.int x1), some (.int (x2 + 1)), none] [] h188))))))))) ∧ (¬ (ah_i h 102 (Int32.toNatClampNeg x2)) ≤ 0 → (vp_in x2 (ah_n h 105)) ∧ (∀ h192, h192 = ah_si h 105 (Int32.toNatClampNeg x2) (vp_nar .boolean 1) → (vp_in x2 (ah_n h192 102)) ∧ (vp_in x3 (ah_n h192 110)) ∧ (∀ h197, h197 = ah_si h192 110 (Int32.toNatClampNeg x3) (ah_i h192 102 (Int32.toNatClampNeg x2)) → (vp_in x3 (ah_n h197 109)) ∧ (((ah_i h197 109 (Int32.toNatClampNeg x3)) = 0 → (∀ h202, h202 = ah_si h197 82 47 ((ah_i h197 82 47) + 0) → (vp_in x2 (ah_n h202 106)) ∧ (((ah_i h202 106 (Int32.toNatClampNeg x2)) = 0 → (∀ h207, h207 = ah_si h202 82 48 ((ah_i h202 82 48) + 0) → Wp mX12_minuteOf Q 0 0 187 [some (.ref 82), some (.int x1), some (.int (x2 + 1)), none] [] h207)) ∧ (¬ (ah_i h202 106 (Int32.toNatClampNeg x2)) = 0 → (∀ h210, h210 = ah_si h202 82 48 ((ah_i h202 82 48) + 1) → Wp mX12_minuteOf Q 0 0 187 [some (.ref 82), some (.int x1), some (.int (x2 + 1)), none] [] h210))))) ∧ (¬ (ah_i h197 109 (Int32.toNatClampNeg x3)) = 0 → (∀ h213, h213 = ah_si h197 82 47 ((ah_i h197 82 47) + 1) → (vp_in x2 (ah_n h213 106)) ∧ (((ah_i h213 106 (Int32.toNatClampNeg x2)) = 0 → (∀ h218, h218 = ah_si h213 82 48 ((ah_i h213 82 48) + 0) → Wp mX12_minuteOf Q 0 0 187 [some (.ref 82), some (.int x1), some (.int (x2 + 1)), none] [] h218)) ∧ (¬ (ah_i h213 106 (Int32.toNatClampNeg x2)) = 0 → (∀ h221, h221 = ah_si h213 82 48 ((ah_i h213 82 48) + 1) → Wp mX12_minuteOf Q 0 0 187 [some (.ref 82), some (.int x1), some (.int (x2 + 1)), none] [] h221))))))))))))) : Wp mX12_minuteOf Q 0 0 298 [some (.ref 82), some (.int x1), some (.int x2), some (.int x3)] [] h := by
  refine ab_aload_n (i := 0) dX12_minuteOf_298 rfl rfl ?_
  refine ab_getR (b := 105) f_X12_92 rfl (sh_k hs 82 12 (by decide) rfl) (sh_r hs 121 rfl) dX12_minuteOf_299 ?_
  refine ab_iload_n (i := 2) dX12_minuteOf_302 rfl rfl ?_
  refine ab_aload_n (i := 0) dX12_minuteOf_303 rfl rfl ?_
  refine ab_getR (b := 109) f_X12_104 rfl (sh_k hs 82 12 (by decide) rfl) (sh_r hs 125 rfl) dX12_minuteOf_304 ?_
  refine ab_iload_n (i := 3) dX12_minuteOf_307 rfl rfl ?_
  obtain ⟨hc121, ht⟩ := ht
  refine ab_zald (sh_k hs 109 16 (by decide) rfl) hc121 dX12_minuteOf_308 ?_
  refine ab_if_eq (tgt := 325) dX12_minuteOf_309 (by decide) (fun c122 => ?_) (fun c122 => ?_)
  · have ht := ht.1 c122
    refine ab_iconst (v := 0) dX12_minuteOf_325 (by decide) ?_
    obtain ⟨hc123, ht⟩ := ht
    refine ab_zast (sh_k hs 105 16 (by decide) rfl) hc123 dX12_minuteOf_326 ?_
    refine Wp.nm fun h124 e125 => ?_
    have ht := ht h124 e125
    have hs126 : Sh h124 := by rw [e125]; exact sh_si hs
    refine ab_aload_n (i := 0) dX12_minuteOf_327 rfl rfl ?_
    refine ab_getR (b := 110) f_X12_107 rfl (sh_k hs126 82 12 (by decide) rfl) (sh_r hs126 126 rfl) dX12_minuteOf_328 ?_
    refine ab_iload_n (i := 3) dX12_minuteOf_331 rfl rfl ?_
    refine ab_aload_n (i := 0) dX12_minuteOf_332 rfl rfl ?_
    refine ab_getR (b := 102) f_X12_83 rfl (sh_k hs126 82 12 (by decide) rfl) (sh_r hs126 118 rfl) dX12_minuteOf_333 ?_
    refine ab_iload_n (i := 2) dX12_minuteOf_336 rfl rfl ?_
    obtain ⟨hc127, ht⟩ := ht
    refine ab_iald (sh_k hs126 102 14 (by decide) rfl) hc127 dX12_minuteOf_337 ?_
    obtain ⟨hc128, ht⟩ := ht
    refine ab_iast (sh_k hs126 110 14 (by decide) rfl) hc128 dX12_minuteOf_338 ?_
    refine Wp.nm fun h129 e130 => ?_
    have ht := ht h129 e130
    have hs131 : Sh h129 := by rw [e130]; exact sh_si hs126
    refine ab_aload_n (i := 0) dX12_minuteOf_339 rfl rfl ?_
    refine ab_dup dX12_minuteOf_340 rfl ?_
    refine ab_getI f_X12_387 rfl (sh_k hs131 82 12 (by decide) rfl) dX12_minuteOf_341 ?_
    refine ab_aload_n (i := 0) dX12_minuteOf_344 rfl rfl ?_
    refine ab_getR (b := 109) f_X12_104 rfl (sh_k hs131 82 12 (by decide) rfl) (sh_r hs131 125 rfl) dX12_minuteOf_345 ?_
    refine ab_iload_n (i := 3) dX12_minuteOf_348 rfl rfl ?_
    obtain ⟨hc132, ht⟩ := ht
    refine ab_zald (sh_k hs131 109 16 (by decide) rfl) hc132 dX12_minuteOf_349 ?_
    refine ab_if_eq (tgt := 357) dX12_minuteOf_350 (by decide) (fun c133 => ?_) (fun c133 => ?_)
    · have ht := ht.1 c133
      refine ab_iconst (v := 0) dX12_minuteOf_357 (by decide) ?_
      refine ab_iadd dX12_minuteOf_358 ?_
      refine ab_putI f_X12_387 (Or.inl rfl) rfl (sh_k hs131 82 12 (by decide) rfl) rfl rfl dX12_minuteOf_359 ?_
      refine Wp.nm fun h134 e135 => ?_
      have ht := ht h134 e135
      have hs136 : Sh h134 := by rw [e135]; exact sh_si hs131
      refine ab_aload_n (i := 0) dX12_minuteOf_362 rfl rfl ?_
      refine ab_dup dX12_minuteOf_363 rfl ?_
      refine ab_getI f_X12_390 rfl (sh_k hs136 82 12 (by decide) rfl) dX12_minuteOf_364 ?_
      refine ab_aload_n (i := 0) dX12_minuteOf_367 rfl rfl ?_
      refine ab_getR (b := 106) f_X12_95 rfl (sh_k hs136 82 12 (by decide) rfl) (sh_r hs136 122 rfl) dX12_minuteOf_368 ?_
      refine ab_iload_n (i := 2) dX12_minuteOf_371 rfl rfl ?_
      obtain ⟨hc137, ht⟩ := ht
      refine ab_zald (sh_k hs136 106 16 (by decide) rfl) hc137 dX12_minuteOf_372 ?_
      refine ab_if_eq (tgt := 380) dX12_minuteOf_373 (by decide) (fun c138 => ?_) (fun c138 => ?_)
      · have ht := ht.1 c138
        refine ab_iconst (v := 0) dX12_minuteOf_380 (by decide) ?_
        refine ab_iadd dX12_minuteOf_381 ?_
        refine ab_putI f_X12_390 (Or.inl rfl) rfl (sh_k hs136 82 12 (by decide) rfl) rfl rfl dX12_minuteOf_382 ?_
        refine Wp.nm fun h139 e140 => ?_
        have ht := ht h139 e140
        have hs141 : Sh h139 := by rw [e140]; exact sh_si hs136
        refine ab_iinc (i := 2) (x := x2) (v := (x2 + 1)) (L' := [some (.ref 82), some (.int x1), some (.int (x2 + 1)), some (.int x3)]) dX12_minuteOf_385 rfl rfl (by exact (Nat.le_of_ble_eq_true rfl)) rfl rfl ?_
        refine ab_goto (tgt := 187) dX12_minuteOf_388 (by decide) ?_
        exact Wp.fewer (L' := [some (.ref 82), some (.int x1), some (.int (x2 + 1)), none]) (show ab_leL _ _ from ⟨rfl, ⟨rfl, ⟨rfl, trivial⟩⟩⟩) ht
      · have ht := ht.2 c138
        refine ab_iconst (v := 1) dX12_minuteOf_376 (by decide) ?_
        refine ab_goto (tgt := 381) dX12_minuteOf_377 (by decide) ?_
        refine ab_iadd dX12_minuteOf_381 ?_
        refine ab_putI f_X12_390 (Or.inl rfl) rfl (sh_k hs136 82 12 (by decide) rfl) rfl rfl dX12_minuteOf_382 ?_
        refine Wp.nm fun h142 e143 => ?_
        have ht := ht h142 e143
        have hs144 : Sh h142 := by rw [e143]; exact sh_si hs136
        refine ab_iinc (i := 2) (x := x2) (v := (x2 + 1)) (L' := [some (.ref 82), some (.int x1), some (.int (x2 + 1)), some (.int x3)]) dX12_minuteOf_385 rfl rfl (by exact (Nat.le_of_ble_eq_true rfl)) rfl rfl ?_
        refine ab_goto (tgt := 187) dX12_minuteOf_388 (by decide) ?_
        exact Wp.fewer (L' := [some (.ref 82), some (.int x1), some (.int (x2 + 1)), none]) (show ab_leL _ _ from ⟨rfl, ⟨rfl, ⟨rfl, trivial⟩⟩⟩) ht
    · have ht := ht.2 c133
      refine ab_iconst (v := 1) dX12_minuteOf_353 (by decide) ?_
      refine ab_goto (tgt := 358) dX12_minuteOf_354 (by decide) ?_
      refine ab_iadd dX12_minuteOf_358 ?_
      refine ab_putI f_X12_387 (Or.inl rfl) rfl (sh_k hs131 82 12 (by decide) rfl) rfl rfl dX12_minuteOf_359 ?_
      refine Wp.nm fun h145 e146 => ?_
      have ht := ht h145 e146
      have hs147 : Sh h145 := by rw [e146]; exact sh_si hs131
      refine ab_aload_n (i := 0) dX12_minuteOf_362 rfl rfl ?_
      refine ab_dup dX12_minuteOf_363 rfl ?_
      refine ab_getI f_X12_390 rfl (sh_k hs147 82 12 (by decide) rfl) dX12_minuteOf_364 ?_
      refine ab_aload_n (i := 0) dX12_minuteOf_367 rfl rfl ?_
      refine ab_getR (b := 106) f_X12_95 rfl (sh_k hs147 82 12 (by decide) rfl) (sh_r hs147 122 rfl) dX12_minuteOf_368 ?_
      refine ab_iload_n (i := 2) dX12_minuteOf_371 rfl rfl ?_
      obtain ⟨hc148, ht⟩ := ht
      refine ab_zald (sh_k hs147 106 16 (by decide) rfl) hc148 dX12_minuteOf_372 ?_
      refine ab_if_eq (tgt := 380) dX12_minuteOf_373 (by decide) (fun c149 => ?_) (fun c149 => ?_)
      · have ht := ht.1 c149
        refine ab_iconst (v := 0) dX12_minuteOf_380 (by decide) ?_
        refine ab_iadd dX12_minuteOf_381 ?_
        refine ab_putI f_X12_390 (Or.inl rfl) rfl (sh_k hs147 82 12 (by decide) rfl) rfl rfl dX12_minuteOf_382 ?_
        refine Wp.nm fun h150 e151 => ?_
        have ht := ht h150 e151
        have hs152 : Sh h150 := by rw [e151]; exact sh_si hs147
        refine ab_iinc (i := 2) (x := x2) (v := (x2 + 1)) (L' := [some (.ref 82), some (.int x1), some (.int (x2 + 1)), some (.int x3)]) dX12_minuteOf_385 rfl rfl (by exact (Nat.le_of_ble_eq_true rfl)) rfl rfl ?_
        refine ab_goto (tgt := 187) dX12_minuteOf_388 (by decide) ?_
        exact Wp.fewer (L' := [some (.ref 82), some (.int x1), some (.int (x2 + 1)), none]) (show ab_leL _ _ from ⟨rfl, ⟨rfl, ⟨rfl, trivial⟩⟩⟩) ht
      · have ht := ht.2 c149
        refine ab_iconst (v := 1) dX12_minuteOf_376 (by decide) ?_
        refine ab_goto (tgt := 381) dX12_minuteOf_377 (by decide) ?_
        refine ab_iadd dX12_minuteOf_381 ?_
        refine ab_putI f_X12_390 (Or.inl rfl) rfl (sh_k hs147 82 12 (by decide) rfl) rfl rfl dX12_minuteOf_382 ?_
        refine Wp.nm fun h153 e154 => ?_
        have ht := ht h153 e154
        have hs155 : Sh h153 := by rw [e154]; exact sh_si hs147
        refine ab_iinc (i := 2) (x := x2) (v := (x2 + 1)) (L' := [some (.ref 82), some (.int x1), some (.int (x2 + 1)), some (.int x3)]) dX12_minuteOf_385 rfl rfl (by exact (Nat.le_of_ble_eq_true rfl)) rfl rfl ?_
        refine ab_goto (tgt := 187) dX12_minuteOf_388 (by decide) ?_
        exact Wp.fewer (L' := [some (.ref 82), some (.int x1), some (.int (x2 + 1)), none]) (show ab_leL _ _ from ⟨rfl, ⟨rfl, ⟨rfl, trivial⟩⟩⟩) ht
  · have ht := ht.2 c122
    refine ab_aload_n (i := 0) dX12_minuteOf_312 rfl rfl ?_
    refine ab_getR (b := 102) f_X12_83 rfl (sh_k hs 82 12 (by decide) rfl) (sh_r hs 118 rfl) dX12_minuteOf_313 ?_
    refine ab_iload_n (i := 2) dX12_minuteOf_316 rfl rfl ?_
    obtain ⟨hc156, ht⟩ := ht
    refine ab_iald (sh_k hs 102 14 (by decide) rfl) hc156 dX12_minuteOf_317 ?_
    refine ab_if_le (tgt := 325) dX12_minuteOf_318 (by decide) (fun c157 => ?_) (fun c157 => ?_)
    · have ht := ht.1 c157
      refine ab_iconst (v := 0) dX12_minuteOf_325 (by decide) ?_
      obtain ⟨hc158, ht⟩ := ht
      refine ab_zast (sh_k hs 105 16 (by decide) rfl) hc158 dX12_minuteOf_326 ?_
      refine Wp.nm fun h159 e160 => ?_
      have ht := ht h159 e160
      have hs161 : Sh h159 := by rw [e160]; exact sh_si hs
      refine ab_aload_n (i := 0) dX12_minuteOf_327 rfl rfl ?_
      refine ab_getR (b := 110) f_X12_107 rfl (sh_k hs161 82 12 (by decide) rfl) (sh_r hs161 126 rfl) dX12_minuteOf_328 ?_
      refine ab_iload_n (i := 3) dX12_minuteOf_331 rfl rfl ?_
      refine ab_aload_n (i := 0) dX12_minuteOf_332 rfl rfl ?_
      refine ab_getR (b := 102) f_X12_83 rfl (sh_k hs161 82 12 (by decide) rfl) (sh_r hs161 118 rfl) dX12_minuteOf_333 ?_
      refine ab_iload_n (i := 2) dX12_minuteOf_336 rfl rfl ?_
      obtain ⟨hc162, ht⟩ := ht
      refine ab_iald (sh_k hs161 102 14 (by decide) rfl) hc162 dX12_minuteOf_337 ?_
      obtain ⟨hc163, ht⟩ := ht
      refine ab_iast (sh_k hs161 110 14 (by decide) rfl) hc163 dX12_minuteOf_338 ?_
      refine Wp.nm fun h164 e165 => ?_
      have ht := ht h164 e165
      have hs166 : Sh h164 := by rw [e165]; exact sh_si hs161
      refine ab_aload_n (i := 0) dX12_minuteOf_339 rfl rfl ?_
      refine ab_dup dX12_minuteOf_340 rfl ?_
      refine ab_getI f_X12_387 rfl (sh_k hs166 82 12 (by decide) rfl) dX12_minuteOf_341 ?_
      refine ab_aload_n (i := 0) dX12_minuteOf_344 rfl rfl ?_
      refine ab_getR (b := 109) f_X12_104 rfl (sh_k hs166 82 12 (by decide) rfl) (sh_r hs166 125 rfl) dX12_minuteOf_345 ?_
      refine ab_iload_n (i := 3) dX12_minuteOf_348 rfl rfl ?_
      obtain ⟨hc167, ht⟩ := ht
      refine ab_zald (sh_k hs166 109 16 (by decide) rfl) hc167 dX12_minuteOf_349 ?_
      refine ab_if_eq (tgt := 357) dX12_minuteOf_350 (by decide) (fun c168 => ?_) (fun c168 => ?_)
      · have ht := ht.1 c168
        refine ab_iconst (v := 0) dX12_minuteOf_357 (by decide) ?_
        refine ab_iadd dX12_minuteOf_358 ?_
        refine ab_putI f_X12_387 (Or.inl rfl) rfl (sh_k hs166 82 12 (by decide) rfl) rfl rfl dX12_minuteOf_359 ?_
        refine Wp.nm fun h169 e170 => ?_
        have ht := ht h169 e170
        have hs171 : Sh h169 := by rw [e170]; exact sh_si hs166
        refine ab_aload_n (i := 0) dX12_minuteOf_362 rfl rfl ?_
        refine ab_dup dX12_minuteOf_363 rfl ?_
        refine ab_getI f_X12_390 rfl (sh_k hs171 82 12 (by decide) rfl) dX12_minuteOf_364 ?_
        refine ab_aload_n (i := 0) dX12_minuteOf_367 rfl rfl ?_
        refine ab_getR (b := 106) f_X12_95 rfl (sh_k hs171 82 12 (by decide) rfl) (sh_r hs171 122 rfl) dX12_minuteOf_368 ?_
        refine ab_iload_n (i := 2) dX12_minuteOf_371 rfl rfl ?_
        obtain ⟨hc172, ht⟩ := ht
        refine ab_zald (sh_k hs171 106 16 (by decide) rfl) hc172 dX12_minuteOf_372 ?_
        refine ab_if_eq (tgt := 380) dX12_minuteOf_373 (by decide) (fun c173 => ?_) (fun c173 => ?_)
        · have ht := ht.1 c173
          refine ab_iconst (v := 0) dX12_minuteOf_380 (by decide) ?_
          refine ab_iadd dX12_minuteOf_381 ?_
          refine ab_putI f_X12_390 (Or.inl rfl) rfl (sh_k hs171 82 12 (by decide) rfl) rfl rfl dX12_minuteOf_382 ?_
          refine Wp.nm fun h174 e175 => ?_
          have ht := ht h174 e175
          have hs176 : Sh h174 := by rw [e175]; exact sh_si hs171
          refine ab_iinc (i := 2) (x := x2) (v := (x2 + 1)) (L' := [some (.ref 82), some (.int x1), some (.int (x2 + 1)), some (.int x3)]) dX12_minuteOf_385 rfl rfl (by exact (Nat.le_of_ble_eq_true rfl)) rfl rfl ?_
          refine ab_goto (tgt := 187) dX12_minuteOf_388 (by decide) ?_
          exact Wp.fewer (L' := [some (.ref 82), some (.int x1), some (.int (x2 + 1)), none]) (show ab_leL _ _ from ⟨rfl, ⟨rfl, ⟨rfl, trivial⟩⟩⟩) ht
        · have ht := ht.2 c173
          refine ab_iconst (v := 1) dX12_minuteOf_376 (by decide) ?_
          refine ab_goto (tgt := 381) dX12_minuteOf_377 (by decide) ?_
          refine ab_iadd dX12_minuteOf_381 ?_
          refine ab_putI f_X12_390 (Or.inl rfl) rfl (sh_k hs171 82 12 (by decide) rfl) rfl rfl dX12_minuteOf_382 ?_
          refine Wp.nm fun h177 e178 => ?_
          have ht := ht h177 e178
          have hs179 : Sh h177 := by rw [e178]; exact sh_si hs171
          refine ab_iinc (i := 2) (x := x2) (v := (x2 + 1)) (L' := [some (.ref 82), some (.int x1), some (.int (x2 + 1)), some (.int x3)]) dX12_minuteOf_385 rfl rfl (by exact (Nat.le_of_ble_eq_true rfl)) rfl rfl ?_
          refine ab_goto (tgt := 187) dX12_minuteOf_388 (by decide) ?_
          exact Wp.fewer (L' := [some (.ref 82), some (.int x1), some (.int (x2 + 1)), none]) (show ab_leL _ _ from ⟨rfl, ⟨rfl, ⟨rfl, trivial⟩⟩⟩) ht
      · have ht := ht.2 c168
        refine ab_iconst (v := 1) dX12_minuteOf_353 (by decide) ?_
        refine ab_goto (tgt := 358) dX12_minuteOf_354 (by decide) ?_
        refine ab_iadd dX12_minuteOf_358 ?_
        refine ab_putI f_X12_387 (Or.inl rfl) rfl (sh_k hs166 82 12 (by decide) rfl) rfl rfl dX12_minuteOf_359 ?_
        refine Wp.nm fun h180 e181 => ?_
        have ht := ht h180 e181
        have hs182 : Sh h180 := by rw [e181]; exact sh_si hs166
        refine ab_aload_n (i := 0) dX12_minuteOf_362 rfl rfl ?_
        refine ab_dup dX12_minuteOf_363 rfl ?_
        refine ab_getI f_X12_390 rfl (sh_k hs182 82 12 (by decide) rfl) dX12_minuteOf_364 ?_
        refine ab_aload_n (i := 0) dX12_minuteOf_367 rfl rfl ?_
        refine ab_getR (b := 106) f_X12_95 rfl (sh_k hs182 82 12 (by decide) rfl) (sh_r hs182 122 rfl) dX12_minuteOf_368 ?_
        refine ab_iload_n (i := 2) dX12_minuteOf_371 rfl rfl ?_
        obtain ⟨hc183, ht⟩ := ht
        refine ab_zald (sh_k hs182 106 16 (by decide) rfl) hc183 dX12_minuteOf_372 ?_
        refine ab_if_eq (tgt := 380) dX12_minuteOf_373 (by decide) (fun c184 => ?_) (fun c184 => ?_)
        · have ht := ht.1 c184
          refine ab_iconst (v := 0) dX12_minuteOf_380 (by decide) ?_
          refine ab_iadd dX12_minuteOf_381 ?_
          refine ab_putI f_X12_390 (Or.inl rfl) rfl (sh_k hs182 82 12 (by decide) rfl) rfl rfl dX12_minuteOf_382 ?_
          refine Wp.nm fun h185 e186 => ?_
          have ht := ht h185 e186
          have hs187 : Sh h185 := by rw [e186]; exact sh_si hs182
          refine ab_iinc (i := 2) (x := x2) (v := (x2 + 1)) (L' := [some (.ref 82), some (.int x1), some (.int (x2 + 1)), some (.int x3)]) dX12_minuteOf_385 rfl rfl (by exact (Nat.le_of_ble_eq_true rfl)) rfl rfl ?_
          refine ab_goto (tgt := 187) dX12_minuteOf_388 (by decide) ?_
          exact Wp.fewer (L' := [some (.ref 82), some (.int x1), some (.int (x2 + 1)), none]) (show ab_leL _ _ from ⟨rfl, ⟨rfl, ⟨rfl, trivial⟩⟩⟩) ht
        · have ht := ht.2 c184
          refine ab_iconst (v := 1) dX12_minuteOf_376 (by decide) ?_
          refine ab_goto (tgt := 381) dX12_minuteOf_377 (by decide) ?_
          refine ab_iadd dX12_minuteOf_381 ?_
          refine ab_putI f_X12_390 (Or.inl rfl) rfl (sh_k hs182 82 12 (by decide) rfl) rfl rfl dX12_minuteOf_382 ?_
          refine Wp.nm fun h188 e189 => ?_
          have ht := ht h188 e189
          have hs190 : Sh h188 := by rw [e189]; exact sh_si hs182
          refine ab_iinc (i := 2) (x := x2) (v := (x2 + 1)) (L' := [some (.ref 82), some (.int x1), some (.int (x2 + 1)), some (.int x3)]) dX12_minuteOf_385 rfl rfl (by exact (Nat.le_of_ble_eq_true rfl)) rfl rfl ?_
          refine ab_goto (tgt := 187) dX12_minuteOf_388 (by decide) ?_
          exact Wp.fewer (L' := [some (.ref 82), some (.int x1), some (.int (x2 + 1)), none]) (show ab_leL _ _ from ⟨rfl, ⟨rfl, ⟨rfl, trivial⟩⟩⟩) ht
    · have ht := ht.2 c157
      refine ab_iconst (v := 1) dX12_minuteOf_321 (by decide) ?_
      refine ab_goto (tgt := 326) dX12_minuteOf_322 (by decide) ?_
      obtain ⟨hc191, ht⟩ := ht
      refine ab_zast (sh_k hs 105 16 (by decide) rfl) hc191 dX12_minuteOf_326 ?_
      refine Wp.nm fun h192 e193 => ?_
      have ht := ht h192 e193
      have hs194 : Sh h192 := by rw [e193]; exact sh_si hs
      refine ab_aload_n (i := 0) dX12_minuteOf_327 rfl rfl ?_
      refine ab_getR (b := 110) f_X12_107 rfl (sh_k hs194 82 12 (by decide) rfl) (sh_r hs194 126 rfl) dX12_minuteOf_328 ?_
      refine ab_iload_n (i := 3) dX12_minuteOf_331 rfl rfl ?_
      refine ab_aload_n (i := 0) dX12_minuteOf_332 rfl rfl ?_
      refine ab_getR (b := 102) f_X12_83 rfl (sh_k hs194 82 12 (by decide) rfl) (sh_r hs194 118 rfl) dX12_minuteOf_333 ?_
      refine ab_iload_n (i := 2) dX12_minuteOf_336 rfl rfl ?_
      obtain ⟨hc195, ht⟩ := ht
      refine ab_iald (sh_k hs194 102 14 (by decide) rfl) hc195 dX12_minuteOf_337 ?_
      obtain ⟨hc196, ht⟩ := ht
      refine ab_iast (sh_k hs194 110 14 (by decide) rfl) hc196 dX12_minuteOf_338 ?_
      refine Wp.nm fun h197 e198 => ?_
      have ht := ht h197 e198
      have hs199 : Sh h197 := by rw [e198]; exact sh_si hs194
      refine ab_aload_n (i := 0) dX12_minuteOf_339 rfl rfl ?_
      refine ab_dup dX12_minuteOf_340 rfl ?_
      refine ab_getI f_X12_387 rfl (sh_k hs199 82 12 (by decide) rfl) dX12_minuteOf_341 ?_
      refine ab_aload_n (i := 0) dX12_minuteOf_344 rfl rfl ?_
      refine ab_getR (b := 109) f_X12_104 rfl (sh_k hs199 82 12 (by decide) rfl) (sh_r hs199 125 rfl) dX12_minuteOf_345 ?_
      refine ab_iload_n (i := 3) dX12_minuteOf_348 rfl rfl ?_
      obtain ⟨hc200, ht⟩ := ht
      refine ab_zald (sh_k hs199 109 16 (by decide) rfl) hc200 dX12_minuteOf_349 ?_
      refine ab_if_eq (tgt := 357) dX12_minuteOf_350 (by decide) (fun c201 => ?_) (fun c201 => ?_)
      · have ht := ht.1 c201
        refine ab_iconst (v := 0) dX12_minuteOf_357 (by decide) ?_
        refine ab_iadd dX12_minuteOf_358 ?_
        refine ab_putI f_X12_387 (Or.inl rfl) rfl (sh_k hs199 82 12 (by decide) rfl) rfl rfl dX12_minuteOf_359 ?_
        refine Wp.nm fun h202 e203 => ?_
        have ht := ht h202 e203
        have hs204 : Sh h202 := by rw [e203]; exact sh_si hs199
        refine ab_aload_n (i := 0) dX12_minuteOf_362 rfl rfl ?_
        refine ab_dup dX12_minuteOf_363 rfl ?_
        refine ab_getI f_X12_390 rfl (sh_k hs204 82 12 (by decide) rfl) dX12_minuteOf_364 ?_
        refine ab_aload_n (i := 0) dX12_minuteOf_367 rfl rfl ?_
        refine ab_getR (b := 106) f_X12_95 rfl (sh_k hs204 82 12 (by decide) rfl) (sh_r hs204 122 rfl) dX12_minuteOf_368 ?_
        refine ab_iload_n (i := 2) dX12_minuteOf_371 rfl rfl ?_
        obtain ⟨hc205, ht⟩ := ht
        refine ab_zald (sh_k hs204 106 16 (by decide) rfl) hc205 dX12_minuteOf_372 ?_
        refine ab_if_eq (tgt := 380) dX12_minuteOf_373 (by decide) (fun c206 => ?_) (fun c206 => ?_)
        · have ht := ht.1 c206
          refine ab_iconst (v := 0) dX12_minuteOf_380 (by decide) ?_
          refine ab_iadd dX12_minuteOf_381 ?_
          refine ab_putI f_X12_390 (Or.inl rfl) rfl (sh_k hs204 82 12 (by decide) rfl) rfl rfl dX12_minuteOf_382 ?_
          refine Wp.nm fun h207 e208 => ?_
          have ht := ht h207 e208
          have hs209 : Sh h207 := by rw [e208]; exact sh_si hs204
          refine ab_iinc (i := 2) (x := x2) (v := (x2 + 1)) (L' := [some (.ref 82), some (.int x1), some (.int (x2 + 1)), some (.int x3)]) dX12_minuteOf_385 rfl rfl (by exact (Nat.le_of_ble_eq_true rfl)) rfl rfl ?_
          refine ab_goto (tgt := 187) dX12_minuteOf_388 (by decide) ?_
          exact Wp.fewer (L' := [some (.ref 82), some (.int x1), some (.int (x2 + 1)), none]) (show ab_leL _ _ from ⟨rfl, ⟨rfl, ⟨rfl, trivial⟩⟩⟩) ht
        · have ht := ht.2 c206
          refine ab_iconst (v := 1) dX12_minuteOf_376 (by decide) ?_
          refine ab_goto (tgt := 381) dX12_minuteOf_377 (by decide) ?_
          refine ab_iadd dX12_minuteOf_381 ?_
          refine ab_putI f_X12_390 (Or.inl rfl) rfl (sh_k hs204 82 12 (by decide) rfl) rfl rfl dX12_minuteOf_382 ?_
          refine Wp.nm fun h210 e211 => ?_
          have ht := ht h210 e211
          have hs212 : Sh h210 := by rw [e211]; exact sh_si hs204
          refine ab_iinc (i := 2) (x := x2) (v := (x2 + 1)) (L' := [some (.ref 82), some (.int x1), some (.int (x2 + 1)), some (.int x3)]) dX12_minuteOf_385 rfl rfl (by exact (Nat.le_of_ble_eq_true rfl)) rfl rfl ?_
          refine ab_goto (tgt := 187) dX12_minuteOf_388 (by decide) ?_
          exact Wp.fewer (L' := [some (.ref 82), some (.int x1), some (.int (x2 + 1)), none]) (show ab_leL _ _ from ⟨rfl, ⟨rfl, ⟨rfl, trivial⟩⟩⟩) ht
      · have ht := ht.2 c201
        refine ab_iconst (v := 1) dX12_minuteOf_353 (by decide) ?_
        refine ab_goto (tgt := 358) dX12_minuteOf_354 (by decide) ?_
        refine ab_iadd dX12_minuteOf_358 ?_
        refine ab_putI f_X12_387 (Or.inl rfl) rfl (sh_k hs199 82 12 (by decide) rfl) rfl rfl dX12_minuteOf_359 ?_
        refine Wp.nm fun h213 e214 => ?_
        have ht := ht h213 e214
        have hs215 : Sh h213 := by rw [e214]; exact sh_si hs199
        refine ab_aload_n (i := 0) dX12_minuteOf_362 rfl rfl ?_
        refine ab_dup dX12_minuteOf_363 rfl ?_
        refine ab_getI f_X12_390 rfl (sh_k hs215 82 12 (by decide) rfl) dX12_minuteOf_364 ?_
        refine ab_aload_n (i := 0) dX12_minuteOf_367 rfl rfl ?_
        refine ab_getR (b := 106) f_X12_95 rfl (sh_k hs215 82 12 (by decide) rfl) (sh_r hs215 122 rfl) dX12_minuteOf_368 ?_
        refine ab_iload_n (i := 2) dX12_minuteOf_371 rfl rfl ?_
        obtain ⟨hc216, ht⟩ := ht
        refine ab_zald (sh_k hs215 106 16 (by decide) rfl) hc216 dX12_minuteOf_372 ?_
        refine ab_if_eq (tgt := 380) dX12_minuteOf_373 (by decide) (fun c217 => ?_) (fun c217 => ?_)
        · have ht := ht.1 c217
          refine ab_iconst (v := 0) dX12_minuteOf_380 (by decide) ?_
          refine ab_iadd dX12_minuteOf_381 ?_
          refine ab_putI f_X12_390 (Or.inl rfl) rfl (sh_k hs215 82 12 (by decide) rfl) rfl rfl dX12_minuteOf_382 ?_
          refine Wp.nm fun h218 e219 => ?_
          have ht := ht h218 e219
          have hs220 : Sh h218 := by rw [e219]; exact sh_si hs215
          refine ab_iinc (i := 2) (x := x2) (v := (x2 + 1)) (L' := [some (.ref 82), some (.int x1), some (.int (x2 + 1)), some (.int x3)]) dX12_minuteOf_385 rfl rfl (by exact (Nat.le_of_ble_eq_true rfl)) rfl rfl ?_
          refine ab_goto (tgt := 187) dX12_minuteOf_388 (by decide) ?_
          exact Wp.fewer (L' := [some (.ref 82), some (.int x1), some (.int (x2 + 1)), none]) (show ab_leL _ _ from ⟨rfl, ⟨rfl, ⟨rfl, trivial⟩⟩⟩) ht
        · have ht := ht.2 c217
          refine ab_iconst (v := 1) dX12_minuteOf_376 (by decide) ?_
          refine ab_goto (tgt := 381) dX12_minuteOf_377 (by decide) ?_
          refine ab_iadd dX12_minuteOf_381 ?_
          refine ab_putI f_X12_390 (Or.inl rfl) rfl (sh_k hs215 82 12 (by decide) rfl) rfl rfl dX12_minuteOf_382 ?_
          refine Wp.nm fun h221 e222 => ?_
          have ht := ht h221 e222
          have hs223 : Sh h221 := by rw [e222]; exact sh_si hs215
          refine ab_iinc (i := 2) (x := x2) (v := (x2 + 1)) (L' := [some (.ref 82), some (.int x1), some (.int (x2 + 1)), some (.int x3)]) dX12_minuteOf_385 rfl rfl (by exact (Nat.le_of_ble_eq_true rfl)) rfl rfl ?_
          refine ab_goto (tgt := 187) dX12_minuteOf_388 (by decide) ?_
          exact Wp.fewer (L' := [some (.ref 82), some (.int x1), some (.int (x2 + 1)), none]) (show ab_leL _ _ from ⟨rfl, ⟨rfl, ⟨rfl, trivial⟩⟩⟩) ht
set_option maxRecDepth 20000 in
theorem T_X12_minuteOf {Q : Option Value → ah_T → Prop} {h : ah_T} (hs : Sh h) (x1 : Int32) (ht : Wp mX12_minuteOf Q 0 0 2 [some (.ref 82), some (.int x1), some (.int 0), none] [] h) : Mt mX12_minuteOf [.ref 82, .int x1] h Q := by
  refine Mt.ofWp rfl (by exact (Nat.le_of_ble_eq_true rfl)) (Wp.fewer (L' := [some (.ref 82), some (.int x1), none, none]) (show ab_leL _ _ from ⟨rfl, ⟨rfl, trivial⟩⟩) ?_)
  refine ab_iconst (v := 0) dX12_minuteOf_0 (by decide) ?_
  refine ab_istore_n (i := 2) (L' := [some (.ref 82), some (.int x1), some (.int 0), none]) dX12_minuteOf_1 rfl (by exact (Nat.le_of_ble_eq_true rfl)) rfl rfl ?_
  exact Wp.fewer (L' := [some (.ref 82), some (.int x1), some (.int 0), none]) (show ab_leL _ _ from ⟨rfl, ⟨rfl, ⟨rfl, trivial⟩⟩⟩) ht
theorem dX12_shunsLamp_0 : decode cX12_shunsLamp 0 = .ok (.aload_n 0, 1) := by decide +kernel
theorem dX12_shunsLamp_1 : decode cX12_shunsLamp 1 = .ok (.iload_n 1, 1) := by decide +kernel
theorem dX12_shunsLamp_2 : decode cX12_shunsLamp 2 = .ok (.aload_n 0, 1) := by decide +kernel
theorem dX12_shunsLamp_3 : decode cX12_shunsLamp 3 = .ok (.getfield 80, 3) := by decide +kernel
theorem dX12_shunsLamp_6 : decode cX12_shunsLamp 6 = .ok (.iload_n 1, 1) := by decide +kernel
theorem dX12_shunsLamp_7 : decode cX12_shunsLamp 7 = .ok (.iaload, 1) := by decide +kernel
theorem dX12_shunsLamp_8 : decode cX12_shunsLamp 8 = .ok (.aload_n 0, 1) := by decide +kernel
theorem dX12_shunsLamp_9 : decode cX12_shunsLamp 9 = .ok (.getfield 80, 3) := by decide +kernel
theorem dX12_shunsLamp_12 : decode cX12_shunsLamp 12 = .ok (.iload_n 2, 1) := by decide +kernel
theorem dX12_shunsLamp_13 : decode cX12_shunsLamp 13 = .ok (.iaload, 1) := by decide +kernel
theorem dX12_shunsLamp_14 : decode cX12_shunsLamp 14 = .ok (.aload_n 0, 1) := by decide +kernel
theorem dX12_shunsLamp_15 : decode cX12_shunsLamp 15 = .ok (.getfield 74, 3) := by decide +kernel
theorem dX12_shunsLamp_18 : decode cX12_shunsLamp 18 = .ok (.bipush 12, 2) := by decide +kernel
theorem dX12_shunsLamp_20 : decode cX12_shunsLamp 20 = .ok (.aload_n 0, 1) := by decide +kernel
theorem dX12_shunsLamp_21 : decode cX12_shunsLamp 21 = .ok (.getfield 77, 3) := by decide +kernel
theorem dX12_shunsLamp_24 : decode cX12_shunsLamp 24 = .ok (.iload_n 1, 1) := by decide +kernel
theorem dX12_shunsLamp_25 : decode cX12_shunsLamp 25 = .ok (.iaload, 1) := by decide +kernel
theorem dX12_shunsLamp_26 : decode cX12_shunsLamp 26 = .ok (.imul, 1) := by decide +kernel
theorem dX12_shunsLamp_27 : decode cX12_shunsLamp 27 = .ok (.aload_n 0, 1) := by decide +kernel
theorem dX12_shunsLamp_28 : decode cX12_shunsLamp 28 = .ok (.getfield 77, 3) := by decide +kernel
theorem dX12_shunsLamp_31 : decode cX12_shunsLamp 31 = .ok (.iload_n 2, 1) := by decide +kernel
theorem dX12_shunsLamp_32 : decode cX12_shunsLamp 32 = .ok (.iaload, 1) := by decide +kernel
theorem dX12_shunsLamp_33 : decode cX12_shunsLamp 33 = .ok (.iadd, 1) := by decide +kernel
theorem dX12_shunsLamp_34 : decode cX12_shunsLamp 34 = .ok (.iaload, 1) := by decide +kernel
theorem dX12_shunsLamp_35 : decode cX12_shunsLamp 35 = .ok (.aload_n 0, 1) := by decide +kernel
theorem dX12_shunsLamp_36 : decode cX12_shunsLamp 36 = .ok (.getfield 86, 3) := by decide +kernel
theorem dX12_shunsLamp_39 : decode cX12_shunsLamp 39 = .ok (.iload_n 1, 1) := by decide +kernel
theorem dX12_shunsLamp_40 : decode cX12_shunsLamp 40 = .ok (.iaload, 1) := by decide +kernel
theorem dX12_shunsLamp_41 : decode cX12_shunsLamp 41 = .ok (.aload_n 0, 1) := by decide +kernel
theorem dX12_shunsLamp_42 : decode cX12_shunsLamp 42 = .ok (.getfield 86, 3) := by decide +kernel
theorem dX12_shunsLamp_45 : decode cX12_shunsLamp 45 = .ok (.iload_n 2, 1) := by decide +kernel
theorem dX12_shunsLamp_46 : decode cX12_shunsLamp 46 = .ok (.iaload, 1) := by decide +kernel
theorem dX12_shunsLamp_47 : decode cX12_shunsLamp 47 = .ok (.if_icmp .le 7, 3) := by decide +kernel
theorem dX12_shunsLamp_50 : decode cX12_shunsLamp 50 = .ok (.iconst 1, 1) := by decide +kernel
theorem dX12_shunsLamp_51 : decode cX12_shunsLamp 51 = .ok (.goto 4, 3) := by decide +kernel
theorem dX12_shunsLamp_54 : decode cX12_shunsLamp 54 = .ok (.iconst 0, 1) := by decide +kernel
theorem dX12_shunsLamp_55 : decode cX12_shunsLamp 55 = .ok (.iload_n 3, 1) := by decide +kernel
theorem dX12_shunsLamp_56 : decode cX12_shunsLamp 56 = .ok (.invokevirtual 409, 3) := by decide +kernel
theorem dX12_shunsLamp_59 : decode cX12_shunsLamp 59 = .ok (.ireturn, 1) := by decide +kernel
set_option maxRecDepth 20000 in
theorem T_X12_shunsLamp {Q : Option Value → ah_T → Prop} {h : ah_T} (hs : Sh h) (x1 : Int32) (x2 : Int32) (x3 : Int32) (ht : (vp_in x1 (ah_n h 101)) ∧ (vp_in x2 (ah_n h 101)) ∧ (vp_in x1 (ah_n h 100)) ∧ (vp_in x2 (ah_n h 100)) ∧ (vp_in ((12 * (ah_i h 100 (Int32.toNatClampNeg x1))) + (ah_i h 100 (Int32.toNatClampNeg x2))) (ah_n h 99)) ∧ (vp_in x1 (ah_n h 103)) ∧ (vp_in x2 (ah_n h 103)) ∧ (((ah_i h 103 (Int32.toNatClampNeg x1)) ≤ (ah_i h 103 (Int32.toNatClampNeg x2)) → (Mt mX12_doesShun [.ref 82, .int x1, .int (ah_i h 101 (Int32.toNatClampNeg x1)), .int (ah_i h 101 (Int32.toNatClampNeg x2)), .int (ah_i h 99 (Int32.toNatClampNeg ((12 * (ah_i h 100 (Int32.toNatClampNeg x1))) + (ah_i h 100 (Int32.toNatClampNeg x2))))), .int 0, .int x3] h (ab_qi fun v11 h9 => Sh h9 ∧ (ab_b v11) ∧ Q (some (.int v11)) h9))) ∧ (¬ (ah_i h 103 (Int32.toNatClampNeg x1)) ≤ (ah_i h 103 (Int32.toNatClampNeg x2)) → (Mt mX12_doesShun [.ref 82, .int x1, .int (ah_i h 101 (Int32.toNatClampNeg x1)), .int (ah_i h 101 (Int32.toNatClampNeg x2)), .int (ah_i h 99 (Int32.toNatClampNeg ((12 * (ah_i h 100 (Int32.toNatClampNeg x1))) + (ah_i h 100 (Int32.toNatClampNeg x2))))), .int 1, .int x3] h (ab_qi fun v15 h13 => Sh h13 ∧ (ab_b v15) ∧ Q (some (.int v15)) h13))))) : Mt mX12_shunsLamp [.ref 82, .int x1, .int x2, .int x3] h Q := by
  refine Mt.ofWp rfl (by exact (Nat.le_of_ble_eq_true rfl)) (Wp.fewer (L' := [some (.ref 82), some (.int x1), some (.int x2), some (.int x3)]) (show ab_leL _ _ from ⟨rfl, ⟨rfl, ⟨rfl, ⟨rfl, trivial⟩⟩⟩⟩) ?_)
  refine ab_aload_n (i := 0) dX12_shunsLamp_0 rfl rfl ?_
  refine ab_iload_n (i := 1) dX12_shunsLamp_1 rfl rfl ?_
  refine ab_aload_n (i := 0) dX12_shunsLamp_2 rfl rfl ?_
  refine ab_getR (b := 101) f_X12_80 rfl (sh_k hs 82 12 (by decide) rfl) (sh_r hs 117 rfl) dX12_shunsLamp_3 ?_
  refine ab_iload_n (i := 1) dX12_shunsLamp_6 rfl rfl ?_
  obtain ⟨hc1, ht⟩ := ht
  refine ab_iald (sh_k hs 101 14 (by decide) rfl) hc1 dX12_shunsLamp_7 ?_
  refine ab_aload_n (i := 0) dX12_shunsLamp_8 rfl rfl ?_
  refine ab_getR (b := 101) f_X12_80 rfl (sh_k hs 82 12 (by decide) rfl) (sh_r hs 117 rfl) dX12_shunsLamp_9 ?_
  refine ab_iload_n (i := 2) dX12_shunsLamp_12 rfl rfl ?_
  obtain ⟨hc2, ht⟩ := ht
  refine ab_iald (sh_k hs 101 14 (by decide) rfl) hc2 dX12_shunsLamp_13 ?_
  refine ab_aload_n (i := 0) dX12_shunsLamp_14 rfl rfl ?_
  refine ab_getR (b := 99) f_X12_74 rfl (sh_k hs 82 12 (by decide) rfl) (sh_r hs 115 rfl) dX12_shunsLamp_15 ?_
  refine ab_bipush (v := 12) dX12_shunsLamp_18 (by decide) ?_
  refine ab_aload_n (i := 0) dX12_shunsLamp_20 rfl rfl ?_
  refine ab_getR (b := 100) f_X12_77 rfl (sh_k hs 82 12 (by decide) rfl) (sh_r hs 116 rfl) dX12_shunsLamp_21 ?_
  refine ab_iload_n (i := 1) dX12_shunsLamp_24 rfl rfl ?_
  obtain ⟨hc3, ht⟩ := ht
  refine ab_iald (sh_k hs 100 14 (by decide) rfl) hc3 dX12_shunsLamp_25 ?_
  refine ab_imul dX12_shunsLamp_26 ?_
  refine ab_aload_n (i := 0) dX12_shunsLamp_27 rfl rfl ?_
  refine ab_getR (b := 100) f_X12_77 rfl (sh_k hs 82 12 (by decide) rfl) (sh_r hs 116 rfl) dX12_shunsLamp_28 ?_
  refine ab_iload_n (i := 2) dX12_shunsLamp_31 rfl rfl ?_
  obtain ⟨hc4, ht⟩ := ht
  refine ab_iald (sh_k hs 100 14 (by decide) rfl) hc4 dX12_shunsLamp_32 ?_
  refine ab_iadd dX12_shunsLamp_33 ?_
  obtain ⟨hc5, ht⟩ := ht
  refine ab_iald (sh_k hs 99 14 (by decide) rfl) hc5 dX12_shunsLamp_34 ?_
  refine ab_aload_n (i := 0) dX12_shunsLamp_35 rfl rfl ?_
  refine ab_getR (b := 103) f_X12_86 rfl (sh_k hs 82 12 (by decide) rfl) (sh_r hs 119 rfl) dX12_shunsLamp_36 ?_
  refine ab_iload_n (i := 1) dX12_shunsLamp_39 rfl rfl ?_
  obtain ⟨hc6, ht⟩ := ht
  refine ab_iald (sh_k hs 103 14 (by decide) rfl) hc6 dX12_shunsLamp_40 ?_
  refine ab_aload_n (i := 0) dX12_shunsLamp_41 rfl rfl ?_
  refine ab_getR (b := 103) f_X12_86 rfl (sh_k hs 82 12 (by decide) rfl) (sh_r hs 119 rfl) dX12_shunsLamp_42 ?_
  refine ab_iload_n (i := 2) dX12_shunsLamp_45 rfl rfl ?_
  obtain ⟨hc7, ht⟩ := ht
  refine ab_iald (sh_k hs 103 14 (by decide) rfl) hc7 dX12_shunsLamp_46 ?_
  refine ab_icmp_le (tgt := 54) dX12_shunsLamp_47 (by decide) (fun c8 => ?_) (fun c8 => ?_)
  · have ht := ht.1 c8
    refine ab_iconst (v := 0) dX12_shunsLamp_54 (by decide) ?_
    refine ab_iload_n (i := 3) dX12_shunsLamp_55 rfl rfl ?_
    refine ab_callV (b := 82) (As := [.int x1, .int (ah_i h 101 (Int32.toNatClampNeg x1)), .int (ah_i h 101 (Int32.toNatClampNeg x2)), .int (ah_i h 99 (Int32.toNatClampNeg ((12 * (ah_i h 100 (Int32.toNatClampNeg x1))) + (ah_i h 100 (Int32.toNatClampNeg x2))))), .int 0, .int x3]) ht (Y_X12_doesShun) l_X12_409 in_X12_doesShun se_X12_doesShun (sh_k hs 82 12 (by decide) rfl) (by decide) rfl rfl ⟨(Nat.le_of_ble_eq_true rfl), (Nat.le_of_ble_eq_true rfl), (Nat.le_of_ble_eq_true rfl), (Nat.le_of_ble_eq_true rfl)⟩ dX12_shunsLamp_56 ?_
    rintro _ h9 ⟨v11, rfl, hs10, ht⟩
    obtain ⟨hc12, ht⟩ := ht
    exact ab_zret rfl (ab_b_nar hc12) dX12_shunsLamp_59 (Nat.le_of_ble_eq_true rfl) (Nat.le_of_ble_eq_true rfl) ht
  · have ht := ht.2 c8
    refine ab_iconst (v := 1) dX12_shunsLamp_50 (by decide) ?_
    refine ab_goto (tgt := 55) dX12_shunsLamp_51 (by decide) ?_
    refine ab_iload_n (i := 3) dX12_shunsLamp_55 rfl rfl ?_
    refine ab_callV (b := 82) (As := [.int x1, .int (ah_i h 101 (Int32.toNatClampNeg x1)), .int (ah_i h 101 (Int32.toNatClampNeg x2)), .int (ah_i h 99 (Int32.toNatClampNeg ((12 * (ah_i h 100 (Int32.toNatClampNeg x1))) + (ah_i h 100 (Int32.toNatClampNeg x2))))), .int 1, .int x3]) ht (Y_X12_doesShun) l_X12_409 in_X12_doesShun se_X12_doesShun (sh_k hs 82 12 (by decide) rfl) (by decide) rfl rfl ⟨(Nat.le_of_ble_eq_true rfl), (Nat.le_of_ble_eq_true rfl), (Nat.le_of_ble_eq_true rfl), (Nat.le_of_ble_eq_true rfl)⟩ dX12_shunsLamp_56 ?_
    rintro _ h13 ⟨v15, rfl, hs14, ht⟩
    obtain ⟨hc16, ht⟩ := ht
    exact ab_zret rfl (ab_b_nar hc16) dX12_shunsLamp_59 (Nat.le_of_ble_eq_true rfl) (Nat.le_of_ble_eq_true rfl) ht
theorem dX12_isDriven_0 : decode cX12_isDriven 0 = .ok (.iconst 0, 1) := by decide +kernel
theorem dX12_isDriven_1 : decode cX12_isDriven 1 = .ok (.istore_n 3, 1) := by decide +kernel
theorem dX12_isDriven_2 : decode cX12_isDriven 2 = .ok (.iload_n 3, 1) := by decide +kernel
theorem dX12_isDriven_3 : decode cX12_isDriven 3 = .ok (.aload_n 0, 1) := by decide +kernel
theorem dX12_isDriven_4 : decode cX12_isDriven 4 = .ok (.getfield 378, 3) := by decide +kernel
theorem dX12_isDriven_7 : decode cX12_isDriven 7 = .ok (.if_icmp .ge 95, 3) := by decide +kernel
theorem dX12_isDriven_10 : decode cX12_isDriven 10 = .ok (.iload_n 3, 1) := by decide +kernel
theorem dX12_isDriven_11 : decode cX12_isDriven 11 = .ok (.iload_n 1, 1) := by decide +kernel
theorem dX12_isDriven_12 : decode cX12_isDriven 12 = .ok (.if_icmp .eq 84, 3) := by decide +kernel
theorem dX12_isDriven_15 : decode cX12_isDriven 15 = .ok (.aload_n 0, 1) := by decide +kernel
theorem dX12_isDriven_16 : decode cX12_isDriven 16 = .ok (.getfield 92, 3) := by decide +kernel
theorem dX12_isDriven_19 : decode cX12_isDriven 19 = .ok (.iload_n 3, 1) := by decide +kernel
theorem dX12_isDriven_20 : decode cX12_isDriven 20 = .ok (.baload, 1) := by decide +kernel
theorem dX12_isDriven_21 : decode cX12_isDriven 21 = .ok (.ifCond .eq 75, 3) := by decide +kernel
theorem dX12_isDriven_24 : decode cX12_isDriven 24 = .ok (.aload_n 0, 1) := by decide +kernel
theorem dX12_isDriven_25 : decode cX12_isDriven 25 = .ok (.iload_n 1, 1) := by decide +kernel
theorem dX12_isDriven_26 : decode cX12_isDriven 26 = .ok (.iload_n 3, 1) := by decide +kernel
theorem dX12_isDriven_27 : decode cX12_isDriven 27 = .ok (.iload_n 2, 1) := by decide +kernel
theorem dX12_isDriven_28 : decode cX12_isDriven 28 = .ok (.invokevirtual 413, 3) := by decide +kernel
theorem dX12_isDriven_31 : decode cX12_isDriven 31 = .ok (.ifCond .ne 6, 3) := by decide +kernel
theorem dX12_isDriven_34 : decode cX12_isDriven 34 = .ok (.goto 62, 3) := by decide +kernel
theorem dX12_isDriven_37 : decode cX12_isDriven 37 = .ok (.aload_n 0, 1) := by decide +kernel
theorem dX12_isDriven_38 : decode cX12_isDriven 38 = .ok (.getfield 86, 3) := by decide +kernel
theorem dX12_isDriven_41 : decode cX12_isDriven 41 = .ok (.iload_n 3, 1) := by decide +kernel
theorem dX12_isDriven_42 : decode cX12_isDriven 42 = .ok (.iaload, 1) := by decide +kernel
theorem dX12_isDriven_43 : decode cX12_isDriven 43 = .ok (.aload_n 0, 1) := by decide +kernel
theorem dX12_isDriven_44 : decode cX12_isDriven 44 = .ok (.getfield 86, 3) := by decide +kernel
theorem dX12_isDriven_47 : decode cX12_isDriven 47 = .ok (.iload_n 1, 1) := by decide +kernel
theorem dX12_isDriven_48 : decode cX12_isDriven 48 = .ok (.iaload, 1) := by decide +kernel
theorem dX12_isDriven_49 : decode cX12_isDriven 49 = .ok (.if_icmp .gt 23, 3) := by decide +kernel
theorem dX12_isDriven_52 : decode cX12_isDriven 52 = .ok (.aload_n 0, 1) := by decide +kernel
theorem dX12_isDriven_53 : decode cX12_isDriven 53 = .ok (.getfield 86, 3) := by decide +kernel
theorem dX12_isDriven_56 : decode cX12_isDriven 56 = .ok (.iload_n 3, 1) := by decide +kernel
theorem dX12_isDriven_57 : decode cX12_isDriven 57 = .ok (.iaload, 1) := by decide +kernel
theorem dX12_isDriven_58 : decode cX12_isDriven 58 = .ok (.aload_n 0, 1) := by decide +kernel
theorem dX12_isDriven_59 : decode cX12_isDriven 59 = .ok (.getfield 86, 3) := by decide +kernel
theorem dX12_isDriven_62 : decode cX12_isDriven 62 = .ok (.iload_n 1, 1) := by decide +kernel
theorem dX12_isDriven_63 : decode cX12_isDriven 63 = .ok (.iaload, 1) := by decide +kernel
theorem dX12_isDriven_64 : decode cX12_isDriven 64 = .ok (.if_icmp .ne 12, 3) := by decide +kernel
theorem dX12_isDriven_67 : decode cX12_isDriven 67 = .ok (.iload_n 3, 1) := by decide +kernel
theorem dX12_isDriven_68 : decode cX12_isDriven 68 = .ok (.iload_n 1, 1) := by decide +kernel
theorem dX12_isDriven_69 : decode cX12_isDriven 69 = .ok (.if_icmp .le 7, 3) := by decide +kernel
theorem dX12_isDriven_72 : decode cX12_isDriven 72 = .ok (.iconst 1, 1) := by decide +kernel
theorem dX12_isDriven_73 : decode cX12_isDriven 73 = .ok (.goto 4, 3) := by decide +kernel
theorem dX12_isDriven_76 : decode cX12_isDriven 76 = .ok (.iconst 0, 1) := by decide +kernel
theorem dX12_isDriven_77 : decode cX12_isDriven 77 = .ok (.istore 4, 2) := by decide +kernel
theorem dX12_isDriven_79 : decode cX12_isDriven 79 = .ok (.iload 4, 2) := by decide +kernel
theorem dX12_isDriven_81 : decode cX12_isDriven 81 = .ok (.ifCond .eq 13, 3) := by decide +kernel
theorem dX12_isDriven_84 : decode cX12_isDriven 84 = .ok (.aload_n 0, 1) := by decide +kernel
theorem dX12_isDriven_85 : decode cX12_isDriven 85 = .ok (.iload_n 3, 1) := by decide +kernel
theorem dX12_isDriven_86 : decode cX12_isDriven 86 = .ok (.iload_n 1, 1) := by decide +kernel
theorem dX12_isDriven_87 : decode cX12_isDriven 87 = .ok (.iload_n 2, 1) := by decide +kernel
theorem dX12_isDriven_88 : decode cX12_isDriven 88 = .ok (.invokevirtual 413, 3) := by decide +kernel
theorem dX12_isDriven_91 : decode cX12_isDriven 91 = .ok (.ifCond .ne 5, 3) := by decide +kernel
theorem dX12_isDriven_94 : decode cX12_isDriven 94 = .ok (.iconst 1, 1) := by decide +kernel
theorem dX12_isDriven_95 : decode cX12_isDriven 95 = .ok (.ireturn, 1) := by decide +kernel
theorem dX12_isDriven_96 : decode cX12_isDriven 96 = .ok (.iinc 3 1, 3) := by decide +kernel
theorem dX12_isDriven_99 : decode cX12_isDriven 99 = .ok (.goto (-97), 3) := by decide +kernel
theorem dX12_isDriven_102 : decode cX12_isDriven 102 = .ok (.iconst 0, 1) := by decide +kernel
theorem dX12_isDriven_103 : decode cX12_isDriven 103 = .ok (.istore_n 3, 1) := by decide +kernel
theorem dX12_isDriven_104 : decode cX12_isDriven 104 = .ok (.iload_n 3, 1) := by decide +kernel
theorem dX12_isDriven_105 : decode cX12_isDriven 105 = .ok (.aload_n 0, 1) := by decide +kernel
theorem dX12_isDriven_106 : decode cX12_isDriven 106 = .ok (.getfield 381, 3) := by decide +kernel
theorem dX12_isDriven_109 : decode cX12_isDriven 109 = .ok (.if_icmp .ge 69, 3) := by decide +kernel
theorem dX12_isDriven_112 : decode cX12_isDriven 112 = .ok (.aload_n 0, 1) := by decide +kernel
theorem dX12_isDriven_113 : decode cX12_isDriven 113 = .ok (.getfield 98, 3) := by decide +kernel
theorem dX12_isDriven_116 : decode cX12_isDriven 116 = .ok (.bipush 120, 2) := by decide +kernel
theorem dX12_isDriven_118 : decode cX12_isDriven 118 = .ok (.iload_n 3, 1) := by decide +kernel
theorem dX12_isDriven_119 : decode cX12_isDriven 119 = .ok (.imul, 1) := by decide +kernel
theorem dX12_isDriven_120 : decode cX12_isDriven 120 = .ok (.iload_n 2, 1) := by decide +kernel
theorem dX12_isDriven_121 : decode cX12_isDriven 121 = .ok (.iadd, 1) := by decide +kernel
theorem dX12_isDriven_122 : decode cX12_isDriven 122 = .ok (.iaload, 1) := by decide +kernel
theorem dX12_isDriven_123 : decode cX12_isDriven 123 = .ok (.istore 4, 2) := by decide +kernel
theorem dX12_isDriven_125 : decode cX12_isDriven 125 = .ok (.iload 4, 2) := by decide +kernel
theorem dX12_isDriven_127 : decode cX12_isDriven 127 = .ok (.iconst (-1), 1) := by decide +kernel
theorem dX12_isDriven_128 : decode cX12_isDriven 128 = .ok (.if_icmp .eq 44, 3) := by decide +kernel
theorem dX12_isDriven_131 : decode cX12_isDriven 131 = .ok (.aload_n 0, 1) := by decide +kernel
theorem dX12_isDriven_132 : decode cX12_isDriven 132 = .ok (.iload_n 1, 1) := by decide +kernel
theorem dX12_isDriven_133 : decode cX12_isDriven 133 = .ok (.aload_n 0, 1) := by decide +kernel
theorem dX12_isDriven_134 : decode cX12_isDriven 134 = .ok (.getfield 80, 3) := by decide +kernel
theorem dX12_isDriven_137 : decode cX12_isDriven 137 = .ok (.iload_n 1, 1) := by decide +kernel
theorem dX12_isDriven_138 : decode cX12_isDriven 138 = .ok (.iaload, 1) := by decide +kernel
theorem dX12_isDriven_139 : decode cX12_isDriven 139 = .ok (.aload_n 0, 1) := by decide +kernel
theorem dX12_isDriven_140 : decode cX12_isDriven 140 = .ok (.getfield 101, 3) := by decide +kernel
theorem dX12_isDriven_143 : decode cX12_isDriven 143 = .ok (.iload_n 3, 1) := by decide +kernel
theorem dX12_isDriven_144 : decode cX12_isDriven 144 = .ok (.iaload, 1) := by decide +kernel
theorem dX12_isDriven_145 : decode cX12_isDriven 145 = .ok (.aload_n 0, 1) := by decide +kernel
theorem dX12_isDriven_146 : decode cX12_isDriven 146 = .ok (.getfield 74, 3) := by decide +kernel
theorem dX12_isDriven_149 : decode cX12_isDriven 149 = .ok (.bipush 12, 2) := by decide +kernel
theorem dX12_isDriven_151 : decode cX12_isDriven 151 = .ok (.aload_n 0, 1) := by decide +kernel
theorem dX12_isDriven_152 : decode cX12_isDriven 152 = .ok (.getfield 77, 3) := by decide +kernel
theorem dX12_isDriven_155 : decode cX12_isDriven 155 = .ok (.iload_n 1, 1) := by decide +kernel
theorem dX12_isDriven_156 : decode cX12_isDriven 156 = .ok (.iaload, 1) := by decide +kernel
theorem dX12_isDriven_157 : decode cX12_isDriven 157 = .ok (.imul, 1) := by decide +kernel
theorem dX12_isDriven_158 : decode cX12_isDriven 158 = .ok (.iload 4, 2) := by decide +kernel
theorem dX12_isDriven_160 : decode cX12_isDriven 160 = .ok (.iadd, 1) := by decide +kernel
theorem dX12_isDriven_161 : decode cX12_isDriven 161 = .ok (.iaload, 1) := by decide +kernel
theorem dX12_isDriven_162 : decode cX12_isDriven 162 = .ok (.iconst 1, 1) := by decide +kernel
theorem dX12_isDriven_163 : decode cX12_isDriven 163 = .ok (.iload_n 2, 1) := by decide +kernel
theorem dX12_isDriven_164 : decode cX12_isDriven 164 = .ok (.invokevirtual 409, 3) := by decide +kernel
theorem dX12_isDriven_167 : decode cX12_isDriven 167 = .ok (.ifCond .eq 5, 3) := by decide +kernel
theorem dX12_isDriven_170 : decode cX12_isDriven 170 = .ok (.iconst 1, 1) := by decide +kernel
theorem dX12_isDriven_171 : decode cX12_isDriven 171 = .ok (.ireturn, 1) := by decide +kernel
theorem dX12_isDriven_172 : decode cX12_isDriven 172 = .ok (.iinc 3 1, 3) := by decide +kernel
theorem dX12_isDriven_175 : decode cX12_isDriven 175 = .ok (.goto (-71), 3) := by decide +kernel
theorem dX12_isDriven_178 : decode cX12_isDriven 178 = .ok (.iconst 0, 1) := by decide +kernel
theorem dX12_isDriven_179 : decode cX12_isDriven 179 = .ok (.ireturn, 1) := by decide +kernel
set_option maxRecDepth 20000 in
theorem T_X12_isDriven_2 {Q : Option Value → ah_T → Prop} {h : ah_T} (hs : Sh h) (x1 : Int32) (x2 : Int32) (x3 : Int32) (ht : (((ah_i h 82 41) ≤ x3 → Wp mX12_isDriven Q 0 0 104 [some (.ref 82), some (.int x1), some (.int x2), some (.int 0), none] [] h) ∧ (¬ (ah_i h 82 41) ≤ x3 → ((x3 = x1 → Wp mX12_isDriven Q 0 0 2 [some (.ref 82), some (.int x1), some (.int x2), some (.int (x3 + 1)), none] [] h) ∧ (¬ x3 = x1 → (vp_in x3 (ah_n h 105)) ∧ (((ah_i h 105 (Int32.toNatClampNeg x3)) = 0 → Wp mX12_isDriven Q 0 0 2 [some (.ref 82), some (.int x1), some (.int x2), some (.int (x3 + 1)), none] [] h) ∧ (¬ (ah_i h 105 (Int32.toNatClampNeg x3)) = 0 → (Mt mX12_shunsLamp [.ref 82, .int x1, .int x3, .int x2] h (ab_qi fun v7 h5 => Sh h5 ∧ ((¬ v7 = 0 → (vp_in x3 (ah_n h5 103)) ∧ (vp_in x1 (ah_n h5 103)) ∧ (((ah_i h5 103 (Int32.toNatClampNeg x1)) < (ah_i h5 103 (Int32.toNatClampNeg x3)) → (Mt mX12_shunsLamp [.ref 82, .int x3, .int x1, .int x2] h5 (ab_qi fun v14 h12 => Sh h12 ∧ ((¬ v14 = 0 → Wp mX12_isDriven Q 0 0 2 [some (.ref 82), some (.int x1), some (.int x2), some (.int (x3 + 1)), none] [] h12) ∧ (v14 = 0 → Q (some (.int 1)) h12))))) ∧ (¬ (ah_i h5 103 (Int32.toNatClampNeg x1)) < (ah_i h5 103 (Int32.toNatClampNeg x3)) → (vp_in x3 (ah_n h5 103)) ∧ (vp_in x1 (ah_n h5 103)) ∧ ((¬ (ah_i h5 103 (Int32.toNatClampNeg x3)) = (ah_i h5 103 (Int32.toNatClampNeg x1)) → Q (some (.int 1)) h5) ∧ ((ah_i h5 103 (Int32.toNatClampNeg x3)) = (ah_i h5 103 (Int32.toNatClampNeg x1)) → ((x3 ≤ x1 → Q (some (.int 1)) h5) ∧ (¬ x3 ≤ x1 → (Mt mX12_shunsLamp [.ref 82, .int x3, .int x1, .int x2] h5 (ab_qi fun v22 h20 => Sh h20 ∧ ((¬ v22 = 0 → Wp mX12_isDriven Q 0 0 2 [some (.ref 82), some (.int x1), some (.int x2), some (.int (x3 + 1)), none] [] h20) ∧ (v22 = 0 → Q (some (.int 1)) h20))))))))))) ∧ (v7 = 0 → Wp mX12_isDriven Q 0 0 2 [some (.ref 82), some (.int x1), some (.int x2), some (.int (x3 + 1)), none] [] h5))))))))))) : Wp mX12_isDriven Q 0 0 2 [some (.ref 82), some (.int x1), some (.int x2), some (.int x3), none] [] h := by
  refine ab_iload_n (i := 3) dX12_isDriven_2 rfl rfl ?_
  refine ab_aload_n (i := 0) dX12_isDriven_3 rfl rfl ?_
  refine ab_getI f_X12_378 rfl (sh_k hs 82 12 (by decide) rfl) dX12_isDriven_4 ?_
  refine ab_icmp_ge (tgt := 102) dX12_isDriven_7 (by decide) (fun c1 => ?_) (fun c1 => ?_)
  · have ht := ht.1 c1
    refine ab_iconst (v := 0) dX12_isDriven_102 (by decide) ?_
    refine ab_istore_n (i := 3) (L' := [some (.ref 82), some (.int x1), some (.int x2), some (.int 0), none]) dX12_isDriven_103 rfl (by exact (Nat.le_of_ble_eq_true rfl)) rfl rfl ?_
    exact Wp.fewer (L' := [some (.ref 82), some (.int x1), some (.int x2), some (.int 0), none]) (show ab_leL _ _ from ⟨rfl, ⟨rfl, ⟨rfl, ⟨rfl, trivial⟩⟩⟩⟩) ht
  · have ht := ht.2 c1
    refine ab_iload_n (i := 3) dX12_isDriven_10 rfl rfl ?_
    refine ab_iload_n (i := 1) dX12_isDriven_11 rfl rfl ?_
    refine ab_icmp_eq (tgt := 96) dX12_isDriven_12 (by decide) (fun c2 => ?_) (fun c2 => ?_)
    · have ht := ht.1 c2
      refine ab_iinc (i := 3) (x := x3) (v := (x3 + 1)) (L' := [some (.ref 82), some (.int x1), some (.int x2), some (.int (x3 + 1)), none]) dX12_isDriven_96 rfl rfl (by exact (Nat.le_of_ble_eq_true rfl)) rfl rfl ?_
      refine ab_goto (tgt := 2) dX12_isDriven_99 (by decide) ?_
      exact Wp.fewer (L' := [some (.ref 82), some (.int x1), some (.int x2), some (.int (x3 + 1)), none]) (show ab_leL _ _ from ⟨rfl, ⟨rfl, ⟨rfl, ⟨rfl, trivial⟩⟩⟩⟩) ht
    · have ht := ht.2 c2
      refine ab_aload_n (i := 0) dX12_isDriven_15 rfl rfl ?_
      refine ab_getR (b := 105) f_X12_92 rfl (sh_k hs 82 12 (by decide) rfl) (sh_r hs 121 rfl) dX12_isDriven_16 ?_
      refine ab_iload_n (i := 3) dX12_isDriven_19 rfl rfl ?_
      obtain ⟨hc3, ht⟩ := ht
      refine ab_zald (sh_k hs 105 16 (by decide) rfl) hc3 dX12_isDriven_20 ?_
      refine ab_if_eq (tgt := 96) dX12_isDriven_21 (by decide) (fun c4 => ?_) (fun c4 => ?_)
      · have ht := ht.1 c4
        refine ab_iinc (i := 3) (x := x3) (v := (x3 + 1)) (L' := [some (.ref 82), some (.int x1), some (.int x2), some (.int (x3 + 1)), none]) dX12_isDriven_96 rfl rfl (by exact (Nat.le_of_ble_eq_true rfl)) rfl rfl ?_
        refine ab_goto (tgt := 2) dX12_isDriven_99 (by decide) ?_
        exact Wp.fewer (L' := [some (.ref 82), some (.int x1), some (.int x2), some (.int (x3 + 1)), none]) (show ab_leL _ _ from ⟨rfl, ⟨rfl, ⟨rfl, ⟨rfl, trivial⟩⟩⟩⟩) ht
      · have ht := ht.2 c4
        refine ab_aload_n (i := 0) dX12_isDriven_24 rfl rfl ?_
        refine ab_iload_n (i := 1) dX12_isDriven_25 rfl rfl ?_
        refine ab_iload_n (i := 3) dX12_isDriven_26 rfl rfl ?_
        refine ab_iload_n (i := 2) dX12_isDriven_27 rfl rfl ?_
        refine ab_callV (b := 82) (As := [.int x1, .int x3, .int x2]) ht (Y_X12_shunsLamp) l_X12_413 in_X12_shunsLamp se_X12_shunsLamp (sh_k hs 82 12 (by decide) rfl) (by decide) rfl rfl ⟨(Nat.le_of_ble_eq_true rfl), (Nat.le_of_ble_eq_true rfl), (Nat.le_of_ble_eq_true rfl), (Nat.le_of_ble_eq_true rfl)⟩ dX12_isDriven_28 ?_
        rintro _ h5 ⟨v7, rfl, hs6, ht⟩
        refine ab_if_ne (tgt := 37) dX12_isDriven_31 (by decide) (fun c8 => ?_) (fun c8 => ?_)
        · have ht := ht.1 c8
          refine ab_aload_n (i := 0) dX12_isDriven_37 rfl rfl ?_
          refine ab_getR (b := 103) f_X12_86 rfl (sh_k hs6 82 12 (by decide) rfl) (sh_r hs6 119 rfl) dX12_isDriven_38 ?_
          refine ab_iload_n (i := 3) dX12_isDriven_41 rfl rfl ?_
          obtain ⟨hc9, ht⟩ := ht
          refine ab_iald (sh_k hs6 103 14 (by decide) rfl) hc9 dX12_isDriven_42 ?_
          refine ab_aload_n (i := 0) dX12_isDriven_43 rfl rfl ?_
          refine ab_getR (b := 103) f_X12_86 rfl (sh_k hs6 82 12 (by decide) rfl) (sh_r hs6 119 rfl) dX12_isDriven_44 ?_
          refine ab_iload_n (i := 1) dX12_isDriven_47 rfl rfl ?_
          obtain ⟨hc10, ht⟩ := ht
          refine ab_iald (sh_k hs6 103 14 (by decide) rfl) hc10 dX12_isDriven_48 ?_
          refine ab_icmp_gt (tgt := 72) dX12_isDriven_49 (by decide) (fun c11 => ?_) (fun c11 => ?_)
          · have ht := ht.1 c11
            refine ab_iconst (v := 1) dX12_isDriven_72 (by decide) ?_
            refine ab_goto (tgt := 77) dX12_isDriven_73 (by decide) ?_
            refine ab_istore (i := 4) (L' := [some (.ref 82), some (.int x1), some (.int x2), some (.int x3), some (.int 1)]) dX12_isDriven_77 (by exact (Nat.le_of_ble_eq_true rfl)) rfl rfl ?_
            refine ab_iload (i := 4) dX12_isDriven_79 rfl ?_
            refine ab_if_eq (tgt := 94) dX12_isDriven_81 (by decide) (fun q => absurd q (by decide)) (fun _ => ?_)
            refine ab_aload_n (i := 0) dX12_isDriven_84 rfl rfl ?_
            refine ab_iload_n (i := 3) dX12_isDriven_85 rfl rfl ?_
            refine ab_iload_n (i := 1) dX12_isDriven_86 rfl rfl ?_
            refine ab_iload_n (i := 2) dX12_isDriven_87 rfl rfl ?_
            refine ab_callV (b := 82) (As := [.int x3, .int x1, .int x2]) ht (Y_X12_shunsLamp) l_X12_413 in_X12_shunsLamp se_X12_shunsLamp (sh_k hs6 82 12 (by decide) rfl) (by decide) rfl rfl ⟨(Nat.le_of_ble_eq_true rfl), (Nat.le_of_ble_eq_true rfl), (Nat.le_of_ble_eq_true rfl), (Nat.le_of_ble_eq_true rfl)⟩ dX12_isDriven_88 ?_
            rintro _ h12 ⟨v14, rfl, hs13, ht⟩
            refine ab_if_ne (tgt := 96) dX12_isDriven_91 (by decide) (fun c15 => ?_) (fun c15 => ?_)
            · have ht := ht.1 c15
              refine ab_iinc (i := 3) (x := x3) (v := (x3 + 1)) (L' := [some (.ref 82), some (.int x1), some (.int x2), some (.int (x3 + 1)), some (.int 1)]) dX12_isDriven_96 rfl rfl (by exact (Nat.le_of_ble_eq_true rfl)) rfl rfl ?_
              refine ab_goto (tgt := 2) dX12_isDriven_99 (by decide) ?_
              exact Wp.fewer (L' := [some (.ref 82), some (.int x1), some (.int x2), some (.int (x3 + 1)), none]) (show ab_leL _ _ from ⟨rfl, ⟨rfl, ⟨rfl, ⟨rfl, trivial⟩⟩⟩⟩) ht
            · have ht := ht.2 c15
              refine ab_iconst (v := 1) dX12_isDriven_94 (by decide) ?_
              exact ab_zret rfl rfl dX12_isDriven_95 (Nat.le_of_ble_eq_true rfl) (Nat.le_of_ble_eq_true rfl) ht
          · have ht := ht.2 c11
            refine ab_aload_n (i := 0) dX12_isDriven_52 rfl rfl ?_
            refine ab_getR (b := 103) f_X12_86 rfl (sh_k hs6 82 12 (by decide) rfl) (sh_r hs6 119 rfl) dX12_isDriven_53 ?_
            refine ab_iload_n (i := 3) dX12_isDriven_56 rfl rfl ?_
            obtain ⟨hc16, ht⟩ := ht
            refine ab_iald (sh_k hs6 103 14 (by decide) rfl) hc16 dX12_isDriven_57 ?_
            refine ab_aload_n (i := 0) dX12_isDriven_58 rfl rfl ?_
            refine ab_getR (b := 103) f_X12_86 rfl (sh_k hs6 82 12 (by decide) rfl) (sh_r hs6 119 rfl) dX12_isDriven_59 ?_
            refine ab_iload_n (i := 1) dX12_isDriven_62 rfl rfl ?_
            obtain ⟨hc17, ht⟩ := ht
            refine ab_iald (sh_k hs6 103 14 (by decide) rfl) hc17 dX12_isDriven_63 ?_
            refine ab_icmp_ne (tgt := 76) dX12_isDriven_64 (by decide) (fun c18 => ?_) (fun c18 => ?_)
            · have ht := ht.1 c18
              refine ab_iconst (v := 0) dX12_isDriven_76 (by decide) ?_
              refine ab_istore (i := 4) (L' := [some (.ref 82), some (.int x1), some (.int x2), some (.int x3), some (.int 0)]) dX12_isDriven_77 (by exact (Nat.le_of_ble_eq_true rfl)) rfl rfl ?_
              refine ab_iload (i := 4) dX12_isDriven_79 rfl ?_
              refine ab_if_eq (tgt := 94) dX12_isDriven_81 (by decide) (fun _ => ?_) (fun q => absurd (by decide) q)
              refine ab_iconst (v := 1) dX12_isDriven_94 (by decide) ?_
              exact ab_zret rfl rfl dX12_isDriven_95 (Nat.le_of_ble_eq_true rfl) (Nat.le_of_ble_eq_true rfl) ht
            · have ht := ht.2 c18
              refine ab_iload_n (i := 3) dX12_isDriven_67 rfl rfl ?_
              refine ab_iload_n (i := 1) dX12_isDriven_68 rfl rfl ?_
              refine ab_icmp_le (tgt := 76) dX12_isDriven_69 (by decide) (fun c19 => ?_) (fun c19 => ?_)
              · have ht := ht.1 c19
                refine ab_iconst (v := 0) dX12_isDriven_76 (by decide) ?_
                refine ab_istore (i := 4) (L' := [some (.ref 82), some (.int x1), some (.int x2), some (.int x3), some (.int 0)]) dX12_isDriven_77 (by exact (Nat.le_of_ble_eq_true rfl)) rfl rfl ?_
                refine ab_iload (i := 4) dX12_isDriven_79 rfl ?_
                refine ab_if_eq (tgt := 94) dX12_isDriven_81 (by decide) (fun _ => ?_) (fun q => absurd (by decide) q)
                refine ab_iconst (v := 1) dX12_isDriven_94 (by decide) ?_
                exact ab_zret rfl rfl dX12_isDriven_95 (Nat.le_of_ble_eq_true rfl) (Nat.le_of_ble_eq_true rfl) ht
              · have ht := ht.2 c19
                refine ab_iconst (v := 1) dX12_isDriven_72 (by decide) ?_
                refine ab_goto (tgt := 77) dX12_isDriven_73 (by decide) ?_
                refine ab_istore (i := 4) (L' := [some (.ref 82), some (.int x1), some (.int x2), some (.int x3), some (.int 1)]) dX12_isDriven_77 (by exact (Nat.le_of_ble_eq_true rfl)) rfl rfl ?_
                refine ab_iload (i := 4) dX12_isDriven_79 rfl ?_
                refine ab_if_eq (tgt := 94) dX12_isDriven_81 (by decide) (fun q => absurd q (by decide)) (fun _ => ?_)
                refine ab_aload_n (i := 0) dX12_isDriven_84 rfl rfl ?_
                refine ab_iload_n (i := 3) dX12_isDriven_85 rfl rfl ?_
                refine ab_iload_n (i := 1) dX12_isDriven_86 rfl rfl ?_
                refine ab_iload_n (i := 2) dX12_isDriven_87 rfl rfl ?_
                refine ab_callV (b := 82) (As := [.int x3, .int x1, .int x2]) ht (Y_X12_shunsLamp) l_X12_413 in_X12_shunsLamp se_X12_shunsLamp (sh_k hs6 82 12 (by decide) rfl) (by decide) rfl rfl ⟨(Nat.le_of_ble_eq_true rfl), (Nat.le_of_ble_eq_true rfl), (Nat.le_of_ble_eq_true rfl), (Nat.le_of_ble_eq_true rfl)⟩ dX12_isDriven_88 ?_
                rintro _ h20 ⟨v22, rfl, hs21, ht⟩
                refine ab_if_ne (tgt := 96) dX12_isDriven_91 (by decide) (fun c23 => ?_) (fun c23 => ?_)
                · have ht := ht.1 c23
                  refine ab_iinc (i := 3) (x := x3) (v := (x3 + 1)) (L' := [some (.ref 82), some (.int x1), some (.int x2), some (.int (x3 + 1)), some (.int 1)]) dX12_isDriven_96 rfl rfl (by exact (Nat.le_of_ble_eq_true rfl)) rfl rfl ?_
                  refine ab_goto (tgt := 2) dX12_isDriven_99 (by decide) ?_
                  exact Wp.fewer (L' := [some (.ref 82), some (.int x1), some (.int x2), some (.int (x3 + 1)), none]) (show ab_leL _ _ from ⟨rfl, ⟨rfl, ⟨rfl, ⟨rfl, trivial⟩⟩⟩⟩) ht
                · have ht := ht.2 c23
                  refine ab_iconst (v := 1) dX12_isDriven_94 (by decide) ?_
                  exact ab_zret rfl rfl dX12_isDriven_95 (Nat.le_of_ble_eq_true rfl) (Nat.le_of_ble_eq_true rfl) ht
        · have ht := ht.2 c8
          refine ab_goto (tgt := 96) dX12_isDriven_34 (by decide) ?_
          refine ab_iinc (i := 3) (x := x3) (v := (x3 + 1)) (L' := [some (.ref 82), some (.int x1), some (.int x2), some (.int (x3 + 1)), none]) dX12_isDriven_96 rfl rfl (by exact (Nat.le_of_ble_eq_true rfl)) rfl rfl ?_
          refine ab_goto (tgt := 2) dX12_isDriven_99 (by decide) ?_
          exact Wp.fewer (L' := [some (.ref 82), some (.int x1), some (.int x2), some (.int (x3 + 1)), none]) (show ab_leL _ _ from ⟨rfl, ⟨rfl, ⟨rfl, ⟨rfl, trivial⟩⟩⟩⟩) ht
set_option maxRecDepth 20000 in
theorem T_X12_isDriven_104 {Q : Option Value → ah_T → Prop} {h : ah_T} (hs : Sh h) (x1 : Int32) (x2 : Int32) (x3 : Int32) (ht : (((ah_i h 82 42) ≤ x3 → Q (some (.int 0)) h) ∧ (¬ (ah_i h 82 42) ≤ x3 → (vp_in ((120 * x3) + x2) (ah_n h 107)) ∧ (((ah_i h 107 (Int32.toNatClampNeg ((120 * x3) + x2))) = (-1) → Wp mX12_isDriven Q 0 0 104 [some (.ref 82), some (.int x1), some (.int x2), some (.int (x3 + 1)), none] [] h) ∧ (¬ (ah_i h 107 (Int32.toNatClampNeg ((120 * x3) + x2))) = (-1) → (vp_in x1 (ah_n h 101)) ∧ (vp_in x3 (ah_n h 108)) ∧ (vp_in x1 (ah_n h 100)) ∧ (vp_in ((12 * (ah_i h 100 (Int32.toNatClampNeg x1))) + (ah_i h 107 (Int32.toNatClampNeg ((120 * x3) + x2)))) (ah_n h 99)) ∧ (Mt mX12_doesShun [.ref 82, .int x1, .int (ah_i h 101 (Int32.toNatClampNeg x1)), .int (ah_i h 108 (Int32.toNatClampNeg x3)), .int (ah_i h 99 (Int32.toNatClampNeg ((12 * (ah_i h 100 (Int32.toNatClampNeg x1))) + (ah_i h 107 (Int32.toNatClampNeg ((120 * x3) + x2)))))), .int 1, .int x2] h (ab_qi fun v33 h31 => Sh h31 ∧ ((v33 = 0 → Wp mX12_isDriven Q 0 0 104 [some (.ref 82), some (.int x1), some (.int x2), some (.int (x3 + 1)), none] [] h31) ∧ (¬ v33 = 0 → Q (some (.int 1)) h31))))))))) : Wp mX12_isDriven Q 0 0 104 [some (.ref 82), some (.int x1), some (.int x2), some (.int x3), none] [] h := by
  refine ab_iload_n (i := 3) dX12_isDriven_104 rfl rfl ?_
  refine ab_aload_n (i := 0) dX12_isDriven_105 rfl rfl ?_
  refine ab_getI f_X12_381 rfl (sh_k hs 82 12 (by decide) rfl) dX12_isDriven_106 ?_
  refine ab_icmp_ge (tgt := 178) dX12_isDriven_109 (by decide) (fun c24 => ?_) (fun c24 => ?_)
  · have ht := ht.1 c24
    refine ab_iconst (v := 0) dX12_isDriven_178 (by decide) ?_
    exact ab_zret rfl rfl dX12_isDriven_179 (Nat.le_of_ble_eq_true rfl) (Nat.le_of_ble_eq_true rfl) ht
  · have ht := ht.2 c24
    refine ab_aload_n (i := 0) dX12_isDriven_112 rfl rfl ?_
    refine ab_getR (b := 107) f_X12_98 rfl (sh_k hs 82 12 (by decide) rfl) (sh_r hs 123 rfl) dX12_isDriven_113 ?_
    refine ab_bipush (v := 120) dX12_isDriven_116 (by decide) ?_
    refine ab_iload_n (i := 3) dX12_isDriven_118 rfl rfl ?_
    refine ab_imul dX12_isDriven_119 ?_
    refine ab_iload_n (i := 2) dX12_isDriven_120 rfl rfl ?_
    refine ab_iadd dX12_isDriven_121 ?_
    obtain ⟨hc25, ht⟩ := ht
    refine ab_iald (sh_k hs 107 14 (by decide) rfl) hc25 dX12_isDriven_122 ?_
    refine ab_istore (i := 4) (L' := [some (.ref 82), some (.int x1), some (.int x2), some (.int x3), some (.int (ah_i h 107 (Int32.toNatClampNeg ((120 * x3) + x2))))]) dX12_isDriven_123 (by exact (Nat.le_of_ble_eq_true rfl)) rfl rfl ?_
    refine ab_iload (i := 4) dX12_isDriven_125 rfl ?_
    refine ab_iconst (v := (-1)) dX12_isDriven_127 (by decide) ?_
    refine ab_icmp_eq (tgt := 172) dX12_isDriven_128 (by decide) (fun c26 => ?_) (fun c26 => ?_)
    · have ht := ht.1 c26
      refine ab_iinc (i := 3) (x := x3) (v := (x3 + 1)) (L' := [some (.ref 82), some (.int x1), some (.int x2), some (.int (x3 + 1)), some (.int (ah_i h 107 (Int32.toNatClampNeg ((120 * x3) + x2))))]) dX12_isDriven_172 rfl rfl (by exact (Nat.le_of_ble_eq_true rfl)) rfl rfl ?_
      refine ab_goto (tgt := 104) dX12_isDriven_175 (by decide) ?_
      exact Wp.fewer (L' := [some (.ref 82), some (.int x1), some (.int x2), some (.int (x3 + 1)), none]) (show ab_leL _ _ from ⟨rfl, ⟨rfl, ⟨rfl, ⟨rfl, trivial⟩⟩⟩⟩) ht
    · have ht := ht.2 c26
      refine ab_aload_n (i := 0) dX12_isDriven_131 rfl rfl ?_
      refine ab_iload_n (i := 1) dX12_isDriven_132 rfl rfl ?_
      refine ab_aload_n (i := 0) dX12_isDriven_133 rfl rfl ?_
      refine ab_getR (b := 101) f_X12_80 rfl (sh_k hs 82 12 (by decide) rfl) (sh_r hs 117 rfl) dX12_isDriven_134 ?_
      refine ab_iload_n (i := 1) dX12_isDriven_137 rfl rfl ?_
      obtain ⟨hc27, ht⟩ := ht
      refine ab_iald (sh_k hs 101 14 (by decide) rfl) hc27 dX12_isDriven_138 ?_
      refine ab_aload_n (i := 0) dX12_isDriven_139 rfl rfl ?_
      refine ab_getR (b := 108) f_X12_101 rfl (sh_k hs 82 12 (by decide) rfl) (sh_r hs 124 rfl) dX12_isDriven_140 ?_
      refine ab_iload_n (i := 3) dX12_isDriven_143 rfl rfl ?_
      obtain ⟨hc28, ht⟩ := ht
      refine ab_iald (sh_k hs 108 14 (by decide) rfl) hc28 dX12_isDriven_144 ?_
      refine ab_aload_n (i := 0) dX12_isDriven_145 rfl rfl ?_
      refine ab_getR (b := 99) f_X12_74 rfl (sh_k hs 82 12 (by decide) rfl) (sh_r hs 115 rfl) dX12_isDriven_146 ?_
      refine ab_bipush (v := 12) dX12_isDriven_149 (by decide) ?_
      refine ab_aload_n (i := 0) dX12_isDriven_151 rfl rfl ?_
      refine ab_getR (b := 100) f_X12_77 rfl (sh_k hs 82 12 (by decide) rfl) (sh_r hs 116 rfl) dX12_isDriven_152 ?_
      refine ab_iload_n (i := 1) dX12_isDriven_155 rfl rfl ?_
      obtain ⟨hc29, ht⟩ := ht
      refine ab_iald (sh_k hs 100 14 (by decide) rfl) hc29 dX12_isDriven_156 ?_
      refine ab_imul dX12_isDriven_157 ?_
      refine ab_iload (i := 4) dX12_isDriven_158 rfl ?_
      refine ab_iadd dX12_isDriven_160 ?_
      obtain ⟨hc30, ht⟩ := ht
      refine ab_iald (sh_k hs 99 14 (by decide) rfl) hc30 dX12_isDriven_161 ?_
      refine ab_iconst (v := 1) dX12_isDriven_162 (by decide) ?_
      refine ab_iload_n (i := 2) dX12_isDriven_163 rfl rfl ?_
      refine ab_callV (b := 82) (As := [.int x1, .int (ah_i h 101 (Int32.toNatClampNeg x1)), .int (ah_i h 108 (Int32.toNatClampNeg x3)), .int (ah_i h 99 (Int32.toNatClampNeg ((12 * (ah_i h 100 (Int32.toNatClampNeg x1))) + (ah_i h 107 (Int32.toNatClampNeg ((120 * x3) + x2)))))), .int 1, .int x2]) ht (Y_X12_doesShun) l_X12_409 in_X12_doesShun se_X12_doesShun (sh_k hs 82 12 (by decide) rfl) (by decide) rfl rfl ⟨(Nat.le_of_ble_eq_true rfl), (Nat.le_of_ble_eq_true rfl), (Nat.le_of_ble_eq_true rfl), (Nat.le_of_ble_eq_true rfl)⟩ dX12_isDriven_164 ?_
      rintro _ h31 ⟨v33, rfl, hs32, ht⟩
      refine ab_if_eq (tgt := 172) dX12_isDriven_167 (by decide) (fun c34 => ?_) (fun c34 => ?_)
      · have ht := ht.1 c34
        refine ab_iinc (i := 3) (x := x3) (v := (x3 + 1)) (L' := [some (.ref 82), some (.int x1), some (.int x2), some (.int (x3 + 1)), some (.int (ah_i h 107 (Int32.toNatClampNeg ((120 * x3) + x2))))]) dX12_isDriven_172 rfl rfl (by exact (Nat.le_of_ble_eq_true rfl)) rfl rfl ?_
        refine ab_goto (tgt := 104) dX12_isDriven_175 (by decide) ?_
        exact Wp.fewer (L' := [some (.ref 82), some (.int x1), some (.int x2), some (.int (x3 + 1)), none]) (show ab_leL _ _ from ⟨rfl, ⟨rfl, ⟨rfl, ⟨rfl, trivial⟩⟩⟩⟩) ht
      · have ht := ht.2 c34
        refine ab_iconst (v := 1) dX12_isDriven_170 (by decide) ?_
        exact ab_zret rfl rfl dX12_isDriven_171 (Nat.le_of_ble_eq_true rfl) (Nat.le_of_ble_eq_true rfl) ht
set_option maxRecDepth 20000 in
theorem T_X12_isDriven {Q : Option Value → ah_T → Prop} {h : ah_T} (hs : Sh h) (x1 : Int32) (x2 : Int32) (ht : Wp mX12_isDriven Q 0 0 2 [some (.ref 82), some (.int x1), some (.int x2), some (.int 0), none] [] h) : Mt mX12_isDriven [.ref 82, .int x1, .int x2] h Q := by
  refine Mt.ofWp rfl (by exact (Nat.le_of_ble_eq_true rfl)) (Wp.fewer (L' := [some (.ref 82), some (.int x1), some (.int x2), none, none]) (show ab_leL _ _ from ⟨rfl, ⟨rfl, ⟨rfl, trivial⟩⟩⟩) ?_)
  refine ab_iconst (v := 0) dX12_isDriven_0 (by decide) ?_
  refine ab_istore_n (i := 3) (L' := [some (.ref 82), some (.int x1), some (.int x2), some (.int 0), none]) dX12_isDriven_1 rfl (by exact (Nat.le_of_ble_eq_true rfl)) rfl rfl ?_
  exact Wp.fewer (L' := [some (.ref 82), some (.int x1), some (.int x2), some (.int 0), none]) (show ab_leL _ _ from ⟨rfl, ⟨rfl, ⟨rfl, ⟨rfl, trivial⟩⟩⟩⟩) ht
theorem dX12_laysNight_0 : decode cX12_laysNight 0 = .ok (.aload_n 0, 1) := by decide +kernel
theorem dX12_laysNight_1 : decode cX12_laysNight 1 = .ok (.invokevirtual 416, 3) := by decide +kernel
theorem dX12_laysNight_4 : decode cX12_laysNight 4 = .ok (.aload_n 0, 1) := by decide +kernel
theorem dX12_laysNight_5 : decode cX12_laysNight 5 = .ok (.getfield 113, 3) := by decide +kernel
theorem dX12_laysNight_8 : decode cX12_laysNight 8 = .ok (.aload_n 0, 1) := by decide +kernel
theorem dX12_laysNight_9 : decode cX12_laysNight 9 = .ok (.getfield 11, 3) := by decide +kernel
theorem dX12_laysNight_12 : decode cX12_laysNight 12 = .ok (.if_icmp .ne 4, 3) := by decide +kernel
theorem dX12_laysNight_15 : decode cX12_laysNight 15 = .ok (.return_, 1) := by decide +kernel
theorem dX12_laysNight_16 : decode cX12_laysNight 16 = .ok (.aload_n 0, 1) := by decide +kernel
theorem dX12_laysNight_17 : decode cX12_laysNight 17 = .ok (.iconst 0, 1) := by decide +kernel
theorem dX12_laysNight_18 : decode cX12_laysNight 18 = .ok (.invokevirtual 419, 3) := by decide +kernel
theorem dX12_laysNight_21 : decode cX12_laysNight 21 = .ok (.aload_n 0, 1) := by decide +kernel
theorem dX12_laysNight_22 : decode cX12_laysNight 22 = .ok (.aload_n 0, 1) := by decide +kernel
theorem dX12_laysNight_23 : decode cX12_laysNight 23 = .ok (.getfield 11, 3) := by decide +kernel
theorem dX12_laysNight_26 : decode cX12_laysNight 26 = .ok (.putfield 113, 3) := by decide +kernel
theorem dX12_laysNight_29 : decode cX12_laysNight 29 = .ok (.return_, 1) := by decide +kernel
set_option maxRecDepth 20000 in
theorem T_X12_laysNight {Q : Option Value → ah_T → Prop} {h : ah_T} (hs : Sh h)  (ht : (Mt mX12_looks [.ref 82] h (ab_qv fun h1 => Sh h1 ∧ ((¬ (ah_i h1 82 49) = (ah_i h1 82 1) → (Mt mX12_nights [.ref 82, .int 0] h1 (ab_qv fun h5 => Sh h5 ∧ (∀ h8, h8 = ah_si h5 82 49 (ah_i h5 82 1) → Q none h8)))) ∧ ((ah_i h1 82 49) = (ah_i h1 82 1) → Q none h1))))) : Mt mX12_laysNight [.ref 82] h Q := by
  refine Mt.ofWp rfl (by exact (Nat.le_of_ble_eq_true rfl)) (Wp.fewer (L' := [some (.ref 82)]) (show ab_leL _ _ from ⟨rfl, trivial⟩) ?_)
  refine ab_aload_n (i := 0) dX12_laysNight_0 rfl rfl ?_
  refine ab_callV (b := 82) (As := []) ht (Y_X12_looks) l_X12_416 in_X12_looks se_X12_looks (sh_k hs 82 12 (by decide) rfl) (by decide) rfl rfl ⟨(Nat.le_of_ble_eq_true rfl), (Nat.le_of_ble_eq_true rfl), (Nat.le_of_ble_eq_true rfl), (Nat.le_of_ble_eq_true rfl)⟩ dX12_laysNight_1 ?_
  rintro _ h1 ⟨rfl, hs2, ht⟩
  refine ab_aload_n (i := 0) dX12_laysNight_4 rfl rfl ?_
  refine ab_getI f_X12_113 rfl (sh_k hs2 82 12 (by decide) rfl) dX12_laysNight_5 ?_
  refine ab_aload_n (i := 0) dX12_laysNight_8 rfl rfl ?_
  refine ab_getI f_X12_11 rfl (sh_k hs2 82 12 (by decide) rfl) dX12_laysNight_9 ?_
  refine ab_icmp_ne (tgt := 16) dX12_laysNight_12 (by decide) (fun c4 => ?_) (fun c4 => ?_)
  · have ht := ht.1 c4
    refine ab_aload_n (i := 0) dX12_laysNight_16 rfl rfl ?_
    refine ab_iconst (v := 0) dX12_laysNight_17 (by decide) ?_
    refine ab_callV (b := 82) (As := [.int 0]) ht (Y_X12_nights) l_X12_419 in_X12_nights se_X12_nights (sh_k hs2 82 12 (by decide) rfl) (by decide) rfl rfl ⟨(Nat.le_of_ble_eq_true rfl), (Nat.le_of_ble_eq_true rfl), (Nat.le_of_ble_eq_true rfl), (Nat.le_of_ble_eq_true rfl)⟩ dX12_laysNight_18 ?_
    rintro _ h5 ⟨rfl, hs6, ht⟩
    refine ab_aload_n (i := 0) dX12_laysNight_21 rfl rfl ?_
    refine ab_aload_n (i := 0) dX12_laysNight_22 rfl rfl ?_
    refine ab_getI f_X12_11 rfl (sh_k hs6 82 12 (by decide) rfl) dX12_laysNight_23 ?_
    refine ab_putI f_X12_113 (Or.inl rfl) rfl (sh_k hs6 82 12 (by decide) rfl) rfl rfl dX12_laysNight_26 ?_
    refine Wp.nm fun h8 e9 => ?_
    have ht := ht h8 e9
    have hs10 : Sh h8 := by rw [e9]; exact sh_si hs6
    exact ab_vret rfl dX12_laysNight_29 (Nat.le_of_ble_eq_true rfl) (Nat.le_of_ble_eq_true rfl) ht
  · have ht := ht.2 c4
    exact ab_vret rfl dX12_laysNight_15 (Nat.le_of_ble_eq_true rfl) (Nat.le_of_ble_eq_true rfl) ht
theorem dX12_tries_0 : decode cX12_tries 0 = .ok (.aload_n 0, 1) := by decide +kernel
theorem dX12_tries_1 : decode cX12_tries 1 = .ok (.iconst (-1), 1) := by decide +kernel
theorem dX12_tries_2 : decode cX12_tries 2 = .ok (.putfield 113, 3) := by decide +kernel
theorem dX12_tries_5 : decode cX12_tries 5 = .ok (.aload_n 0, 1) := by decide +kernel
theorem dX12_tries_6 : decode cX12_tries 6 = .ok (.iload_n 1, 1) := by decide +kernel
theorem dX12_tries_7 : decode cX12_tries 7 = .ok (.invokevirtual 419, 3) := by decide +kernel
theorem dX12_tries_10 : decode cX12_tries 10 = .ok (.return_, 1) := by decide +kernel
set_option maxRecDepth 20000 in
theorem T_X12_tries {Q : Option Value → ah_T → Prop} {h : ah_T} (hs : Sh h) (x1 : Int32) (ht : (∀ h1, h1 = ah_si h 82 49 (-1) → (Mt mX12_nights [.ref 82, .int x1] h1 (ab_qv fun h4 => Sh h4 ∧ Q none h4)))) : Mt mX12_tries [.ref 82, .int x1] h Q := by
  refine Mt.ofWp rfl (by exact (Nat.le_of_ble_eq_true rfl)) (Wp.fewer (L' := [some (.ref 82), some (.int x1)]) (show ab_leL _ _ from ⟨rfl, ⟨rfl, trivial⟩⟩) ?_)
  refine ab_aload_n (i := 0) dX12_tries_0 rfl rfl ?_
  refine ab_iconst (v := (-1)) dX12_tries_1 (by decide) ?_
  refine ab_putI f_X12_113 (Or.inl rfl) rfl (sh_k hs 82 12 (by decide) rfl) rfl rfl dX12_tries_2 ?_
  refine Wp.nm fun h1 e2 => ?_
  have ht := ht h1 e2
  have hs3 : Sh h1 := by rw [e2]; exact sh_si hs
  refine ab_aload_n (i := 0) dX12_tries_5 rfl rfl ?_
  refine ab_iload_n (i := 1) dX12_tries_6 rfl rfl ?_
  refine ab_callV (b := 82) (As := [.int x1]) ht (Y_X12_nights) l_X12_419 in_X12_nights se_X12_nights (sh_k hs3 82 12 (by decide) rfl) (by decide) rfl rfl ⟨(Nat.le_of_ble_eq_true rfl), (Nat.le_of_ble_eq_true rfl), (Nat.le_of_ble_eq_true rfl), (Nat.le_of_ble_eq_true rfl)⟩ dX12_tries_7 ?_
  rintro _ h4 ⟨rfl, hs5, ht⟩
  exact ab_vret rfl dX12_tries_10 (Nat.le_of_ble_eq_true rfl) (Nat.le_of_ble_eq_true rfl) ht
theorem dX12_litOf_0 : decode cX12_litOf 0 = .ok (.iconst 0, 1) := by decide +kernel
theorem dX12_litOf_1 : decode cX12_litOf 1 = .ok (.istore_n 2, 1) := by decide +kernel
theorem dX12_litOf_2 : decode cX12_litOf 2 = .ok (.iconst 0, 1) := by decide +kernel
theorem dX12_litOf_3 : decode cX12_litOf 3 = .ok (.istore_n 3, 1) := by decide +kernel
theorem dX12_litOf_4 : decode cX12_litOf 4 = .ok (.iload_n 3, 1) := by decide +kernel
theorem dX12_litOf_5 : decode cX12_litOf 5 = .ok (.bipush 120, 2) := by decide +kernel
theorem dX12_litOf_7 : decode cX12_litOf 7 = .ok (.if_icmp .ge 31, 3) := by decide +kernel
theorem dX12_litOf_10 : decode cX12_litOf 10 = .ok (.iload_n 2, 1) := by decide +kernel
theorem dX12_litOf_11 : decode cX12_litOf 11 = .ok (.aload_n 0, 1) := by decide +kernel
theorem dX12_litOf_12 : decode cX12_litOf 12 = .ok (.getfield 104, 3) := by decide +kernel
theorem dX12_litOf_15 : decode cX12_litOf 15 = .ok (.bipush 10, 2) := by decide +kernel
theorem dX12_litOf_17 : decode cX12_litOf 17 = .ok (.iload_n 3, 1) := by decide +kernel
theorem dX12_litOf_18 : decode cX12_litOf 18 = .ok (.imul, 1) := by decide +kernel
theorem dX12_litOf_19 : decode cX12_litOf 19 = .ok (.iload_n 1, 1) := by decide +kernel
theorem dX12_litOf_20 : decode cX12_litOf 20 = .ok (.iadd, 1) := by decide +kernel
theorem dX12_litOf_21 : decode cX12_litOf 21 = .ok (.baload, 1) := by decide +kernel
theorem dX12_litOf_22 : decode cX12_litOf 22 = .ok (.ifCond .eq 7, 3) := by decide +kernel
theorem dX12_litOf_25 : decode cX12_litOf 25 = .ok (.iconst 1, 1) := by decide +kernel
theorem dX12_litOf_26 : decode cX12_litOf 26 = .ok (.goto 4, 3) := by decide +kernel
theorem dX12_litOf_29 : decode cX12_litOf 29 = .ok (.iconst 0, 1) := by decide +kernel
theorem dX12_litOf_30 : decode cX12_litOf 30 = .ok (.iadd, 1) := by decide +kernel
theorem dX12_litOf_31 : decode cX12_litOf 31 = .ok (.istore_n 2, 1) := by decide +kernel
theorem dX12_litOf_32 : decode cX12_litOf 32 = .ok (.iinc 3 1, 3) := by decide +kernel
theorem dX12_litOf_35 : decode cX12_litOf 35 = .ok (.goto (-31), 3) := by decide +kernel
theorem dX12_litOf_38 : decode cX12_litOf 38 = .ok (.iload_n 2, 1) := by decide +kernel
theorem dX12_litOf_39 : decode cX12_litOf 39 = .ok (.ireturn, 1) := by decide +kernel
set_option maxRecDepth 20000 in
theorem T_X12_litOf_4 {Q : Option Value → ah_T → Prop} {h : ah_T} (hs : Sh h) (x1 : Int32) (x2 : Int32) (x3 : Int32) (ht : ((120 ≤ x3 → Q (some (.int x2)) h) ∧ (¬ 120 ≤ x3 → (vp_in ((10 * x3) + x1) (ah_n h 109)) ∧ (((ah_i h 109 (Int32.toNatClampNeg ((10 * x3) + x1))) = 0 → Wp mX12_litOf Q 0 0 4 [some (.ref 82), some (.int x1), some (.int (x2 + 0)), some (.int (x3 + 1))] [] h) ∧ (¬ (ah_i h 109 (Int32.toNatClampNeg ((10 * x3) + x1))) = 0 → Wp mX12_litOf Q 0 0 4 [some (.ref 82), some (.int x1), some (.int (x2 + 1)), some (.int (x3 + 1))] [] h))))) : Wp mX12_litOf Q 0 0 4 [some (.ref 82), some (.int x1), some (.int x2), some (.int x3)] [] h := by
  refine ab_iload_n (i := 3) dX12_litOf_4 rfl rfl ?_
  refine ab_bipush (v := 120) dX12_litOf_5 (by decide) ?_
  refine ab_icmp_ge (tgt := 38) dX12_litOf_7 (by decide) (fun c1 => ?_) (fun c1 => ?_)
  · have ht := ht.1 c1
    refine ab_iload_n (i := 2) dX12_litOf_38 rfl rfl ?_
    exact ab_iret rfl dX12_litOf_39 (Nat.le_of_ble_eq_true rfl) (Nat.le_of_ble_eq_true rfl) ht
  · have ht := ht.2 c1
    refine ab_iload_n (i := 2) dX12_litOf_10 rfl rfl ?_
    refine ab_aload_n (i := 0) dX12_litOf_11 rfl rfl ?_
    refine ab_getR (b := 109) f_X12_104 rfl (sh_k hs 82 12 (by decide) rfl) (sh_r hs 125 rfl) dX12_litOf_12 ?_
    refine ab_bipush (v := 10) dX12_litOf_15 (by decide) ?_
    refine ab_iload_n (i := 3) dX12_litOf_17 rfl rfl ?_
    refine ab_imul dX12_litOf_18 ?_
    refine ab_iload_n (i := 1) dX12_litOf_19 rfl rfl ?_
    refine ab_iadd dX12_litOf_20 ?_
    obtain ⟨hc2, ht⟩ := ht
    refine ab_zald (sh_k hs 109 16 (by decide) rfl) hc2 dX12_litOf_21 ?_
    refine ab_if_eq (tgt := 29) dX12_litOf_22 (by decide) (fun c3 => ?_) (fun c3 => ?_)
    · have ht := ht.1 c3
      refine ab_iconst (v := 0) dX12_litOf_29 (by decide) ?_
      refine ab_iadd dX12_litOf_30 ?_
      refine ab_istore_n (i := 2) (L' := [some (.ref 82), some (.int x1), some (.int (x2 + 0)), some (.int x3)]) dX12_litOf_31 rfl (by exact (Nat.le_of_ble_eq_true rfl)) rfl rfl ?_
      refine ab_iinc (i := 3) (x := x3) (v := (x3 + 1)) (L' := [some (.ref 82), some (.int x1), some (.int (x2 + 0)), some (.int (x3 + 1))]) dX12_litOf_32 rfl rfl (by exact (Nat.le_of_ble_eq_true rfl)) rfl rfl ?_
      refine ab_goto (tgt := 4) dX12_litOf_35 (by decide) ?_
      exact Wp.fewer (L' := [some (.ref 82), some (.int x1), some (.int (x2 + 0)), some (.int (x3 + 1))]) (show ab_leL _ _ from ⟨rfl, ⟨rfl, ⟨rfl, ⟨rfl, trivial⟩⟩⟩⟩) ht
    · have ht := ht.2 c3
      refine ab_iconst (v := 1) dX12_litOf_25 (by decide) ?_
      refine ab_goto (tgt := 30) dX12_litOf_26 (by decide) ?_
      refine ab_iadd dX12_litOf_30 ?_
      refine ab_istore_n (i := 2) (L' := [some (.ref 82), some (.int x1), some (.int (x2 + 1)), some (.int x3)]) dX12_litOf_31 rfl (by exact (Nat.le_of_ble_eq_true rfl)) rfl rfl ?_
      refine ab_iinc (i := 3) (x := x3) (v := (x3 + 1)) (L' := [some (.ref 82), some (.int x1), some (.int (x2 + 1)), some (.int (x3 + 1))]) dX12_litOf_32 rfl rfl (by exact (Nat.le_of_ble_eq_true rfl)) rfl rfl ?_
      refine ab_goto (tgt := 4) dX12_litOf_35 (by decide) ?_
      exact Wp.fewer (L' := [some (.ref 82), some (.int x1), some (.int (x2 + 1)), some (.int (x3 + 1))]) (show ab_leL _ _ from ⟨rfl, ⟨rfl, ⟨rfl, ⟨rfl, trivial⟩⟩⟩⟩) ht
set_option maxRecDepth 20000 in
theorem T_X12_litOf {Q : Option Value → ah_T → Prop} {h : ah_T} (hs : Sh h) (x1 : Int32) (ht : Wp mX12_litOf Q 0 0 4 [some (.ref 82), some (.int x1), some (.int 0), some (.int 0)] [] h) : Mt mX12_litOf [.ref 82, .int x1] h Q := by
  refine Mt.ofWp rfl (by exact (Nat.le_of_ble_eq_true rfl)) (Wp.fewer (L' := [some (.ref 82), some (.int x1), none, none]) (show ab_leL _ _ from ⟨rfl, ⟨rfl, trivial⟩⟩) ?_)
  refine ab_iconst (v := 0) dX12_litOf_0 (by decide) ?_
  refine ab_istore_n (i := 2) (L' := [some (.ref 82), some (.int x1), some (.int 0), none]) dX12_litOf_1 rfl (by exact (Nat.le_of_ble_eq_true rfl)) rfl rfl ?_
  refine ab_iconst (v := 0) dX12_litOf_2 (by decide) ?_
  refine ab_istore_n (i := 3) (L' := [some (.ref 82), some (.int x1), some (.int 0), some (.int 0)]) dX12_litOf_3 rfl (by exact (Nat.le_of_ble_eq_true rfl)) rfl rfl ?_
  exact Wp.fewer (L' := [some (.ref 82), some (.int x1), some (.int 0), some (.int 0)]) (show ab_leL _ _ from ⟨rfl, ⟨rfl, ⟨rfl, ⟨rfl, trivial⟩⟩⟩⟩) ht
theorem dX12_brightIn_0 : decode cX12_brightIn 0 = .ok (.iconst 0, 1) := by decide +kernel
theorem dX12_brightIn_1 : decode cX12_brightIn 1 = .ok (.istore_n 2, 1) := by decide +kernel
theorem dX12_brightIn_2 : decode cX12_brightIn 2 = .ok (.iconst 0, 1) := by decide +kernel
theorem dX12_brightIn_3 : decode cX12_brightIn 3 = .ok (.istore_n 3, 1) := by decide +kernel
theorem dX12_brightIn_4 : decode cX12_brightIn 4 = .ok (.iload_n 3, 1) := by decide +kernel
theorem dX12_brightIn_5 : decode cX12_brightIn 5 = .ok (.bipush 12, 2) := by decide +kernel
theorem dX12_brightIn_7 : decode cX12_brightIn 7 = .ok (.if_icmp .ge 172, 3) := by decide +kernel
theorem dX12_brightIn_10 : decode cX12_brightIn 10 = .ok (.iconst 0, 1) := by decide +kernel
theorem dX12_brightIn_11 : decode cX12_brightIn 11 = .ok (.istore 4, 2) := by decide +kernel
theorem dX12_brightIn_13 : decode cX12_brightIn 13 = .ok (.iconst 0, 1) := by decide +kernel
theorem dX12_brightIn_14 : decode cX12_brightIn 14 = .ok (.istore 5, 2) := by decide +kernel
theorem dX12_brightIn_16 : decode cX12_brightIn 16 = .ok (.iload 5, 2) := by decide +kernel
theorem dX12_brightIn_18 : decode cX12_brightIn 18 = .ok (.aload_n 0, 1) := by decide +kernel
theorem dX12_brightIn_19 : decode cX12_brightIn 19 = .ok (.getfield 378, 3) := by decide +kernel
theorem dX12_brightIn_22 : decode cX12_brightIn 22 = .ok (.if_icmp .ge 61, 3) := by decide +kernel
theorem dX12_brightIn_25 : decode cX12_brightIn 25 = .ok (.iload 4, 2) := by decide +kernel
theorem dX12_brightIn_27 : decode cX12_brightIn 27 = .ok (.ifCond .ne 56, 3) := by decide +kernel
theorem dX12_brightIn_30 : decode cX12_brightIn 30 = .ok (.aload_n 0, 1) := by decide +kernel
theorem dX12_brightIn_31 : decode cX12_brightIn 31 = .ok (.getfield 104, 3) := by decide +kernel
theorem dX12_brightIn_34 : decode cX12_brightIn 34 = .ok (.bipush 10, 2) := by decide +kernel
theorem dX12_brightIn_36 : decode cX12_brightIn 36 = .ok (.iload_n 1, 1) := by decide +kernel
theorem dX12_brightIn_37 : decode cX12_brightIn 37 = .ok (.imul, 1) := by decide +kernel
theorem dX12_brightIn_38 : decode cX12_brightIn 38 = .ok (.iload 5, 2) := by decide +kernel
theorem dX12_brightIn_40 : decode cX12_brightIn 40 = .ok (.iadd, 1) := by decide +kernel
theorem dX12_brightIn_41 : decode cX12_brightIn 41 = .ok (.baload, 1) := by decide +kernel
theorem dX12_brightIn_42 : decode cX12_brightIn 42 = .ok (.ifCond .eq 32, 3) := by decide +kernel
theorem dX12_brightIn_45 : decode cX12_brightIn 45 = .ok (.aload_n 0, 1) := by decide +kernel
theorem dX12_brightIn_46 : decode cX12_brightIn 46 = .ok (.iload 5, 2) := by decide +kernel
theorem dX12_brightIn_48 : decode cX12_brightIn 48 = .ok (.aload_n 0, 1) := by decide +kernel
theorem dX12_brightIn_49 : decode cX12_brightIn 49 = .ok (.getfield 77, 3) := by decide +kernel
theorem dX12_brightIn_52 : decode cX12_brightIn 52 = .ok (.iload 5, 2) := by decide +kernel
theorem dX12_brightIn_54 : decode cX12_brightIn 54 = .ok (.iaload, 1) := by decide +kernel
theorem dX12_brightIn_55 : decode cX12_brightIn 55 = .ok (.aload_n 0, 1) := by decide +kernel
theorem dX12_brightIn_56 : decode cX12_brightIn 56 = .ok (.getfield 80, 3) := by decide +kernel
theorem dX12_brightIn_59 : decode cX12_brightIn 59 = .ok (.iload 5, 2) := by decide +kernel
theorem dX12_brightIn_61 : decode cX12_brightIn 61 = .ok (.iaload, 1) := by decide +kernel
theorem dX12_brightIn_62 : decode cX12_brightIn 62 = .ok (.iload_n 3, 1) := by decide +kernel
theorem dX12_brightIn_63 : decode cX12_brightIn 63 = .ok (.iload_n 1, 1) := by decide +kernel
theorem dX12_brightIn_64 : decode cX12_brightIn 64 = .ok (.invokevirtual 423, 3) := by decide +kernel
theorem dX12_brightIn_67 : decode cX12_brightIn 67 = .ok (.ifCond .eq 7, 3) := by decide +kernel
theorem dX12_brightIn_70 : decode cX12_brightIn 70 = .ok (.iconst 1, 1) := by decide +kernel
theorem dX12_brightIn_71 : decode cX12_brightIn 71 = .ok (.goto 4, 3) := by decide +kernel
theorem dX12_brightIn_74 : decode cX12_brightIn 74 = .ok (.iconst 0, 1) := by decide +kernel
theorem dX12_brightIn_75 : decode cX12_brightIn 75 = .ok (.istore 4, 2) := by decide +kernel
theorem dX12_brightIn_77 : decode cX12_brightIn 77 = .ok (.iinc 5 1, 3) := by decide +kernel
theorem dX12_brightIn_80 : decode cX12_brightIn 80 = .ok (.goto (-64), 3) := by decide +kernel
theorem dX12_brightIn_83 : decode cX12_brightIn 83 = .ok (.iconst 0, 1) := by decide +kernel
theorem dX12_brightIn_84 : decode cX12_brightIn 84 = .ok (.istore 5, 2) := by decide +kernel
theorem dX12_brightIn_86 : decode cX12_brightIn 86 = .ok (.iload 5, 2) := by decide +kernel
theorem dX12_brightIn_88 : decode cX12_brightIn 88 = .ok (.aload_n 0, 1) := by decide +kernel
theorem dX12_brightIn_89 : decode cX12_brightIn 89 = .ok (.getfield 381, 3) := by decide +kernel
theorem dX12_brightIn_92 : decode cX12_brightIn 92 = .ok (.if_icmp .ge 66, 3) := by decide +kernel
theorem dX12_brightIn_95 : decode cX12_brightIn 95 = .ok (.iload 4, 2) := by decide +kernel
theorem dX12_brightIn_97 : decode cX12_brightIn 97 = .ok (.ifCond .ne 61, 3) := by decide +kernel
theorem dX12_brightIn_100 : decode cX12_brightIn 100 = .ok (.aload_n 0, 1) := by decide +kernel
theorem dX12_brightIn_101 : decode cX12_brightIn 101 = .ok (.getfield 98, 3) := by decide +kernel
theorem dX12_brightIn_104 : decode cX12_brightIn 104 = .ok (.bipush 120, 2) := by decide +kernel
theorem dX12_brightIn_106 : decode cX12_brightIn 106 = .ok (.iload 5, 2) := by decide +kernel
theorem dX12_brightIn_108 : decode cX12_brightIn 108 = .ok (.imul, 1) := by decide +kernel
theorem dX12_brightIn_109 : decode cX12_brightIn 109 = .ok (.iload_n 1, 1) := by decide +kernel
theorem dX12_brightIn_110 : decode cX12_brightIn 110 = .ok (.iadd, 1) := by decide +kernel
theorem dX12_brightIn_111 : decode cX12_brightIn 111 = .ok (.iaload, 1) := by decide +kernel
theorem dX12_brightIn_112 : decode cX12_brightIn 112 = .ok (.iconst (-1), 1) := by decide +kernel
theorem dX12_brightIn_113 : decode cX12_brightIn 113 = .ok (.if_icmp .eq 36, 3) := by decide +kernel
theorem dX12_brightIn_116 : decode cX12_brightIn 116 = .ok (.aload_n 0, 1) := by decide +kernel
theorem dX12_brightIn_117 : decode cX12_brightIn 117 = .ok (.iconst (-1), 1) := by decide +kernel
theorem dX12_brightIn_118 : decode cX12_brightIn 118 = .ok (.aload_n 0, 1) := by decide +kernel
theorem dX12_brightIn_119 : decode cX12_brightIn 119 = .ok (.getfield 98, 3) := by decide +kernel
theorem dX12_brightIn_122 : decode cX12_brightIn 122 = .ok (.bipush 120, 2) := by decide +kernel
theorem dX12_brightIn_124 : decode cX12_brightIn 124 = .ok (.iload 5, 2) := by decide +kernel
theorem dX12_brightIn_126 : decode cX12_brightIn 126 = .ok (.imul, 1) := by decide +kernel
theorem dX12_brightIn_127 : decode cX12_brightIn 127 = .ok (.iload_n 1, 1) := by decide +kernel
theorem dX12_brightIn_128 : decode cX12_brightIn 128 = .ok (.iadd, 1) := by decide +kernel
theorem dX12_brightIn_129 : decode cX12_brightIn 129 = .ok (.iaload, 1) := by decide +kernel
theorem dX12_brightIn_130 : decode cX12_brightIn 130 = .ok (.aload_n 0, 1) := by decide +kernel
theorem dX12_brightIn_131 : decode cX12_brightIn 131 = .ok (.getfield 101, 3) := by decide +kernel
theorem dX12_brightIn_134 : decode cX12_brightIn 134 = .ok (.iload 5, 2) := by decide +kernel
theorem dX12_brightIn_136 : decode cX12_brightIn 136 = .ok (.iaload, 1) := by decide +kernel
theorem dX12_brightIn_137 : decode cX12_brightIn 137 = .ok (.iload_n 3, 1) := by decide +kernel
theorem dX12_brightIn_138 : decode cX12_brightIn 138 = .ok (.iload_n 1, 1) := by decide +kernel
theorem dX12_brightIn_139 : decode cX12_brightIn 139 = .ok (.invokevirtual 423, 3) := by decide +kernel
theorem dX12_brightIn_142 : decode cX12_brightIn 142 = .ok (.ifCond .eq 7, 3) := by decide +kernel
theorem dX12_brightIn_145 : decode cX12_brightIn 145 = .ok (.iconst 1, 1) := by decide +kernel
theorem dX12_brightIn_146 : decode cX12_brightIn 146 = .ok (.goto 4, 3) := by decide +kernel
theorem dX12_brightIn_149 : decode cX12_brightIn 149 = .ok (.iconst 0, 1) := by decide +kernel
theorem dX12_brightIn_150 : decode cX12_brightIn 150 = .ok (.istore 4, 2) := by decide +kernel
theorem dX12_brightIn_152 : decode cX12_brightIn 152 = .ok (.iinc 5 1, 3) := by decide +kernel
theorem dX12_brightIn_155 : decode cX12_brightIn 155 = .ok (.goto (-69), 3) := by decide +kernel
theorem dX12_brightIn_158 : decode cX12_brightIn 158 = .ok (.iload_n 2, 1) := by decide +kernel
theorem dX12_brightIn_159 : decode cX12_brightIn 159 = .ok (.iload 4, 2) := by decide +kernel
theorem dX12_brightIn_161 : decode cX12_brightIn 161 = .ok (.ifCond .eq 9, 3) := by decide +kernel
theorem dX12_brightIn_164 : decode cX12_brightIn 164 = .ok (.iconst 1, 1) := by decide +kernel
theorem dX12_brightIn_165 : decode cX12_brightIn 165 = .ok (.iload_n 3, 1) := by decide +kernel
theorem dX12_brightIn_166 : decode cX12_brightIn 166 = .ok (.ishl, 1) := by decide +kernel
theorem dX12_brightIn_167 : decode cX12_brightIn 167 = .ok (.goto 4, 3) := by decide +kernel
theorem dX12_brightIn_170 : decode cX12_brightIn 170 = .ok (.iconst 0, 1) := by decide +kernel
theorem dX12_brightIn_171 : decode cX12_brightIn 171 = .ok (.ior, 1) := by decide +kernel
theorem dX12_brightIn_172 : decode cX12_brightIn 172 = .ok (.istore_n 2, 1) := by decide +kernel
theorem dX12_brightIn_173 : decode cX12_brightIn 173 = .ok (.iinc 3 1, 3) := by decide +kernel
theorem dX12_brightIn_176 : decode cX12_brightIn 176 = .ok (.goto (-172), 3) := by decide +kernel
theorem dX12_brightIn_179 : decode cX12_brightIn 179 = .ok (.iload_n 2, 1) := by decide +kernel
theorem dX12_brightIn_180 : decode cX12_brightIn 180 = .ok (.ireturn, 1) := by decide +kernel
set_option maxRecDepth 20000 in
theorem T_X12_brightIn_4 {Q : Option Value → ah_T → Prop} {h : ah_T} (hs : Sh h) (x1 : Int32) (x2 : Int32) (x3 : Int32) (ht : ((12 ≤ x3 → Q (some (.int x2)) h) ∧ (¬ 12 ≤ x3 → Wp mX12_brightIn Q 0 0 16 [some (.ref 82), some (.int x1), some (.int x2), some (.int x3), some (.int 0), some (.int 0)] [] h))) : Wp mX12_brightIn Q 0 0 4 [some (.ref 82), some (.int x1), some (.int x2), some (.int x3), none, none] [] h := by
  refine ab_iload_n (i := 3) dX12_brightIn_4 rfl rfl ?_
  refine ab_bipush (v := 12) dX12_brightIn_5 (by decide) ?_
  refine ab_icmp_ge (tgt := 179) dX12_brightIn_7 (by decide) (fun c1 => ?_) (fun c1 => ?_)
  · have ht := ht.1 c1
    refine ab_iload_n (i := 2) dX12_brightIn_179 rfl rfl ?_
    exact ab_iret rfl dX12_brightIn_180 (Nat.le_of_ble_eq_true rfl) (Nat.le_of_ble_eq_true rfl) ht
  · have ht := ht.2 c1
    refine ab_iconst (v := 0) dX12_brightIn_10 (by decide) ?_
    refine ab_istore (i := 4) (L' := [some (.ref 82), some (.int x1), some (.int x2), some (.int x3), some (.int 0), none]) dX12_brightIn_11 (by exact (Nat.le_of_ble_eq_true rfl)) rfl rfl ?_
    refine ab_iconst (v := 0) dX12_brightIn_13 (by decide) ?_
    refine ab_istore (i := 5) (L' := [some (.ref 82), some (.int x1), some (.int x2), some (.int x3), some (.int 0), some (.int 0)]) dX12_brightIn_14 (by exact (Nat.le_of_ble_eq_true rfl)) rfl rfl ?_
    exact Wp.fewer (L' := [some (.ref 82), some (.int x1), some (.int x2), some (.int x3), some (.int 0), some (.int 0)]) (show ab_leL _ _ from ⟨rfl, ⟨rfl, ⟨rfl, ⟨rfl, ⟨rfl, ⟨rfl, trivial⟩⟩⟩⟩⟩⟩) ht
set_option maxRecDepth 20000 in
theorem T_X12_brightIn_16 {Q : Option Value → ah_T → Prop} {h : ah_T} (hs : Sh h) (x1 : Int32) (x2 : Int32) (x3 : Int32) (x4 : Int32) (x5 : Int32) (ht : (((ah_i h 82 41) ≤ x5 → Wp mX12_brightIn Q 0 0 86 [some (.ref 82), some (.int x1), some (.int x2), some (.int x3), some (.int x4), some (.int 0)] [] h) ∧ (¬ (ah_i h 82 41) ≤ x5 → ((¬ x4 = 0 → Wp mX12_brightIn Q 0 0 86 [some (.ref 82), some (.int x1), some (.int x2), some (.int x3), some (.int x4), some (.int 0)] [] h) ∧ (x4 = 0 → (vp_in ((10 * x1) + x5) (ah_n h 109)) ∧ (((ah_i h 109 (Int32.toNatClampNeg ((10 * x1) + x5))) = 0 → Wp mX12_brightIn Q 0 0 16 [some (.ref 82), some (.int x1), some (.int x2), some (.int x3), some (.int 0), some (.int (x5 + 1))] [] h) ∧ (¬ (ah_i h 109 (Int32.toNatClampNeg ((10 * x1) + x5))) = 0 → (vp_in x5 (ah_n h 100)) ∧ (vp_in x5 (ah_n h 101)) ∧ (Mt mX12_isReached [.ref 82, .int x5, .int (ah_i h 100 (Int32.toNatClampNeg x5)), .int (ah_i h 101 (Int32.toNatClampNeg x5)), .int x3, .int x1] h (ab_qi fun v10 h8 => Sh h8 ∧ ((v10 = 0 → Wp mX12_brightIn Q 0 0 16 [some (.ref 82), some (.int x1), some (.int x2), some (.int x3), some (.int 0), some (.int (x5 + 1))] [] h8) ∧ (¬ v10 = 0 → Wp mX12_brightIn Q 0 0 16 [some (.ref 82), some (.int x1), some (.int x2), some (.int x3), some (.int 1), some (.int (x5 + 1))] [] h8))))))))))) : Wp mX12_brightIn Q 0 0 16 [some (.ref 82), some (.int x1), some (.int x2), some (.int x3), some (.int x4), some (.int x5)] [] h := by
  refine ab_iload (i := 5) dX12_brightIn_16 rfl ?_
  refine ab_aload_n (i := 0) dX12_brightIn_18 rfl rfl ?_
  refine ab_getI f_X12_378 rfl (sh_k hs 82 12 (by decide) rfl) dX12_brightIn_19 ?_
  refine ab_icmp_ge (tgt := 83) dX12_brightIn_22 (by decide) (fun c2 => ?_) (fun c2 => ?_)
  · have ht := ht.1 c2
    refine ab_iconst (v := 0) dX12_brightIn_83 (by decide) ?_
    refine ab_istore (i := 5) (L' := [some (.ref 82), some (.int x1), some (.int x2), some (.int x3), some (.int x4), some (.int 0)]) dX12_brightIn_84 (by exact (Nat.le_of_ble_eq_true rfl)) rfl rfl ?_
    exact Wp.fewer (L' := [some (.ref 82), some (.int x1), some (.int x2), some (.int x3), some (.int x4), some (.int 0)]) (show ab_leL _ _ from ⟨rfl, ⟨rfl, ⟨rfl, ⟨rfl, ⟨rfl, ⟨rfl, trivial⟩⟩⟩⟩⟩⟩) ht
  · have ht := ht.2 c2
    refine ab_iload (i := 4) dX12_brightIn_25 rfl ?_
    refine ab_if_ne (tgt := 83) dX12_brightIn_27 (by decide) (fun c3 => ?_) (fun c3 => ?_)
    · have ht := ht.1 c3
      refine ab_iconst (v := 0) dX12_brightIn_83 (by decide) ?_
      refine ab_istore (i := 5) (L' := [some (.ref 82), some (.int x1), some (.int x2), some (.int x3), some (.int x4), some (.int 0)]) dX12_brightIn_84 (by exact (Nat.le_of_ble_eq_true rfl)) rfl rfl ?_
      exact Wp.fewer (L' := [some (.ref 82), some (.int x1), some (.int x2), some (.int x3), some (.int x4), some (.int 0)]) (show ab_leL _ _ from ⟨rfl, ⟨rfl, ⟨rfl, ⟨rfl, ⟨rfl, ⟨rfl, trivial⟩⟩⟩⟩⟩⟩) ht
    · have ht := ht.2 c3
      refine ab_aload_n (i := 0) dX12_brightIn_30 rfl rfl ?_
      refine ab_getR (b := 109) f_X12_104 rfl (sh_k hs 82 12 (by decide) rfl) (sh_r hs 125 rfl) dX12_brightIn_31 ?_
      refine ab_bipush (v := 10) dX12_brightIn_34 (by decide) ?_
      refine ab_iload_n (i := 1) dX12_brightIn_36 rfl rfl ?_
      refine ab_imul dX12_brightIn_37 ?_
      refine ab_iload (i := 5) dX12_brightIn_38 rfl ?_
      refine ab_iadd dX12_brightIn_40 ?_
      obtain ⟨hc4, ht⟩ := ht
      refine ab_zald (sh_k hs 109 16 (by decide) rfl) hc4 dX12_brightIn_41 ?_
      refine ab_if_eq (tgt := 74) dX12_brightIn_42 (by decide) (fun c5 => ?_) (fun c5 => ?_)
      · have ht := ht.1 c5
        refine ab_iconst (v := 0) dX12_brightIn_74 (by decide) ?_
        refine ab_istore (i := 4) (L' := [some (.ref 82), some (.int x1), some (.int x2), some (.int x3), some (.int 0), some (.int x5)]) dX12_brightIn_75 (by exact (Nat.le_of_ble_eq_true rfl)) rfl rfl ?_
        refine ab_iinc (i := 5) (x := x5) (v := (x5 + 1)) (L' := [some (.ref 82), some (.int x1), some (.int x2), some (.int x3), some (.int 0), some (.int (x5 + 1))]) dX12_brightIn_77 rfl rfl (by exact (Nat.le_of_ble_eq_true rfl)) rfl rfl ?_
        refine ab_goto (tgt := 16) dX12_brightIn_80 (by decide) ?_
        exact Wp.fewer (L' := [some (.ref 82), some (.int x1), some (.int x2), some (.int x3), some (.int 0), some (.int (x5 + 1))]) (show ab_leL _ _ from ⟨rfl, ⟨rfl, ⟨rfl, ⟨rfl, ⟨rfl, ⟨rfl, trivial⟩⟩⟩⟩⟩⟩) ht
      · have ht := ht.2 c5
        refine ab_aload_n (i := 0) dX12_brightIn_45 rfl rfl ?_
        refine ab_iload (i := 5) dX12_brightIn_46 rfl ?_
        refine ab_aload_n (i := 0) dX12_brightIn_48 rfl rfl ?_
        refine ab_getR (b := 100) f_X12_77 rfl (sh_k hs 82 12 (by decide) rfl) (sh_r hs 116 rfl) dX12_brightIn_49 ?_
        refine ab_iload (i := 5) dX12_brightIn_52 rfl ?_
        obtain ⟨hc6, ht⟩ := ht
        refine ab_iald (sh_k hs 100 14 (by decide) rfl) hc6 dX12_brightIn_54 ?_
        refine ab_aload_n (i := 0) dX12_brightIn_55 rfl rfl ?_
        refine ab_getR (b := 101) f_X12_80 rfl (sh_k hs 82 12 (by decide) rfl) (sh_r hs 117 rfl) dX12_brightIn_56 ?_
        refine ab_iload (i := 5) dX12_brightIn_59 rfl ?_
        obtain ⟨hc7, ht⟩ := ht
        refine ab_iald (sh_k hs 101 14 (by decide) rfl) hc7 dX12_brightIn_61 ?_
        refine ab_iload_n (i := 3) dX12_brightIn_62 rfl rfl ?_
        refine ab_iload_n (i := 1) dX12_brightIn_63 rfl rfl ?_
        refine ab_callV (b := 82) (As := [.int x5, .int (ah_i h 100 (Int32.toNatClampNeg x5)), .int (ah_i h 101 (Int32.toNatClampNeg x5)), .int x3, .int x1]) ht (Y_X12_isReached) l_X12_423 in_X12_isReached se_X12_isReached (sh_k hs 82 12 (by decide) rfl) (by decide) rfl rfl ⟨(Nat.le_of_ble_eq_true rfl), (Nat.le_of_ble_eq_true rfl), (Nat.le_of_ble_eq_true rfl), (Nat.le_of_ble_eq_true rfl)⟩ dX12_brightIn_64 ?_
        rintro _ h8 ⟨v10, rfl, hs9, ht⟩
        refine ab_if_eq (tgt := 74) dX12_brightIn_67 (by decide) (fun c11 => ?_) (fun c11 => ?_)
        · have ht := ht.1 c11
          refine ab_iconst (v := 0) dX12_brightIn_74 (by decide) ?_
          refine ab_istore (i := 4) (L' := [some (.ref 82), some (.int x1), some (.int x2), some (.int x3), some (.int 0), some (.int x5)]) dX12_brightIn_75 (by exact (Nat.le_of_ble_eq_true rfl)) rfl rfl ?_
          refine ab_iinc (i := 5) (x := x5) (v := (x5 + 1)) (L' := [some (.ref 82), some (.int x1), some (.int x2), some (.int x3), some (.int 0), some (.int (x5 + 1))]) dX12_brightIn_77 rfl rfl (by exact (Nat.le_of_ble_eq_true rfl)) rfl rfl ?_
          refine ab_goto (tgt := 16) dX12_brightIn_80 (by decide) ?_
          exact Wp.fewer (L' := [some (.ref 82), some (.int x1), some (.int x2), some (.int x3), some (.int 0), some (.int (x5 + 1))]) (show ab_leL _ _ from ⟨rfl, ⟨rfl, ⟨rfl, ⟨rfl, ⟨rfl, ⟨rfl, trivial⟩⟩⟩⟩⟩⟩) ht
        · have ht := ht.2 c11
          refine ab_iconst (v := 1) dX12_brightIn_70 (by decide) ?_
          refine ab_goto (tgt := 75) dX12_brightIn_71 (by decide) ?_
          refine ab_istore (i := 4) (L' := [some (.ref 82), some (.int x1), some (.int x2), some (.int x3), some (.int 1), some (.int x5)]) dX12_brightIn_75 (by exact (Nat.le_of_ble_eq_true rfl)) rfl rfl ?_
          refine ab_iinc (i := 5) (x := x5) (v := (x5 + 1)) (L' := [some (.ref 82), some (.int x1), some (.int x2), some (.int x3), some (.int 1), some (.int (x5 + 1))]) dX12_brightIn_77 rfl rfl (by exact (Nat.le_of_ble_eq_true rfl)) rfl rfl ?_
          refine ab_goto (tgt := 16) dX12_brightIn_80 (by decide) ?_
          exact Wp.fewer (L' := [some (.ref 82), some (.int x1), some (.int x2), some (.int x3), some (.int 1), some (.int (x5 + 1))]) (show ab_leL _ _ from ⟨rfl, ⟨rfl, ⟨rfl, ⟨rfl, ⟨rfl, ⟨rfl, trivial⟩⟩⟩⟩⟩⟩) ht
set_option maxRecDepth 20000 in
theorem T_X12_brightIn_86 {Q : Option Value → ah_T → Prop} {h : ah_T} (hs : Sh h) (x1 : Int32) (x2 : Int32) (x3 : Int32) (x4 : Int32) (x5 : Int32) (ht : (((ah_i h 82 42) ≤ x5 → ((x4 = 0 → Wp mX12_brightIn Q 0 0 4 [some (.ref 82), some (.int x1), some (.int (x2 ||| 0)), some (.int (x3 + 1)), none, none] [] h) ∧ (¬ x4 = 0 → Wp mX12_brightIn Q 0 0 4 [some (.ref 82), some (.int x1), some (.int (x2 ||| ((1 : Int32) <<< (x3 &&& 31)))), some (.int (x3 + 1)), none, none] [] h))) ∧ (¬ (ah_i h 82 42) ≤ x5 → ((¬ x4 = 0 → ((x4 = 0 → Wp mX12_brightIn Q 0 0 4 [some (.ref 82), some (.int x1), some (.int (x2 ||| 0)), some (.int (x3 + 1)), none, none] [] h) ∧ (¬ x4 = 0 → Wp mX12_brightIn Q 0 0 4 [some (.ref 82), some (.int x1), some (.int (x2 ||| ((1 : Int32) <<< (x3 &&& 31)))), some (.int (x3 + 1)), none, none] [] h))) ∧ (x4 = 0 → (vp_in ((120 * x5) + x1) (ah_n h 107)) ∧ (((ah_i h 107 (Int32.toNatClampNeg ((120 * x5) + x1))) = (-1) → Wp mX12_brightIn Q 0 0 86 [some (.ref 82), some (.int x1), some (.int x2), some (.int x3), some (.int 0), some (.int (x5 + 1))] [] h) ∧ (¬ (ah_i h 107 (Int32.toNatClampNeg ((120 * x5) + x1))) = (-1) → (vp_in ((120 * x5) + x1) (ah_n h 107)) ∧ (vp_in x5 (ah_n h 108)) ∧ (Mt mX12_isReached [.ref 82, .int (-1), .int (ah_i h 107 (Int32.toNatClampNeg ((120 * x5) + x1))), .int (ah_i h 108 (Int32.toNatClampNeg x5)), .int x3, .int x1] h (ab_qi fun v22 h20 => Sh h20 ∧ ((v22 = 0 → Wp mX12_brightIn Q 0 0 86 [some (.ref 82), some (.int x1), some (.int x2), some (.int x3), some (.int 0), some (.int (x5 + 1))] [] h20) ∧ (¬ v22 = 0 → Wp mX12_brightIn Q 0 0 86 [some (.ref 82), some (.int x1), some (.int x2), some (.int x3), some (.int 1), some (.int (x5 + 1))] [] h20))))))))))) : Wp mX12_brightIn Q 0 0 86 [some (.ref 82), some (.int x1), some (.int x2), some (.int x3), some (.int x4), some (.int x5)] [] h := by
  refine ab_iload (i := 5) dX12_brightIn_86 rfl ?_
  refine ab_aload_n (i := 0) dX12_brightIn_88 rfl rfl ?_
  refine ab_getI f_X12_381 rfl (sh_k hs 82 12 (by decide) rfl) dX12_brightIn_89 ?_
  refine ab_icmp_ge (tgt := 158) dX12_brightIn_92 (by decide) (fun c12 => ?_) (fun c12 => ?_)
  · have ht := ht.1 c12
    refine ab_iload_n (i := 2) dX12_brightIn_158 rfl rfl ?_
    refine ab_iload (i := 4) dX12_brightIn_159 rfl ?_
    refine ab_if_eq (tgt := 170) dX12_brightIn_161 (by decide) (fun c13 => ?_) (fun c13 => ?_)
    · have ht := ht.1 c13
      refine ab_iconst (v := 0) dX12_brightIn_170 (by decide) ?_
      refine ab_ior dX12_brightIn_171 ?_
      refine ab_istore_n (i := 2) (L' := [some (.ref 82), some (.int x1), some (.int (x2 ||| 0)), some (.int x3), some (.int x4), some (.int x5)]) dX12_brightIn_172 rfl (by exact (Nat.le_of_ble_eq_true rfl)) rfl rfl ?_
      refine ab_iinc (i := 3) (x := x3) (v := (x3 + 1)) (L' := [some (.ref 82), some (.int x1), some (.int (x2 ||| 0)), some (.int (x3 + 1)), some (.int x4), some (.int x5)]) dX12_brightIn_173 rfl rfl (by exact (Nat.le_of_ble_eq_true rfl)) rfl rfl ?_
      refine ab_goto (tgt := 4) dX12_brightIn_176 (by decide) ?_
      exact Wp.fewer (L' := [some (.ref 82), some (.int x1), some (.int (x2 ||| 0)), some (.int (x3 + 1)), none, none]) (show ab_leL _ _ from ⟨rfl, ⟨rfl, ⟨rfl, ⟨rfl, trivial⟩⟩⟩⟩) ht
    · have ht := ht.2 c13
      refine ab_iconst (v := 1) dX12_brightIn_164 (by decide) ?_
      refine ab_iload_n (i := 3) dX12_brightIn_165 rfl rfl ?_
      refine ab_ishl dX12_brightIn_166 ?_
      refine ab_goto (tgt := 171) dX12_brightIn_167 (by decide) ?_
      refine ab_ior dX12_brightIn_171 ?_
      refine ab_istore_n (i := 2) (L' := [some (.ref 82), some (.int x1), some (.int (x2 ||| ((1 : Int32) <<< (x3 &&& 31)))), some (.int x3), some (.int x4), some (.int x5)]) dX12_brightIn_172 rfl (by exact (Nat.le_of_ble_eq_true rfl)) rfl rfl ?_
      refine ab_iinc (i := 3) (x := x3) (v := (x3 + 1)) (L' := [some (.ref 82), some (.int x1), some (.int (x2 ||| ((1 : Int32) <<< (x3 &&& 31)))), some (.int (x3 + 1)), some (.int x4), some (.int x5)]) dX12_brightIn_173 rfl rfl (by exact (Nat.le_of_ble_eq_true rfl)) rfl rfl ?_
      refine ab_goto (tgt := 4) dX12_brightIn_176 (by decide) ?_
      exact Wp.fewer (L' := [some (.ref 82), some (.int x1), some (.int (x2 ||| ((1 : Int32) <<< (x3 &&& 31)))), some (.int (x3 + 1)), none, none]) (show ab_leL _ _ from ⟨rfl, ⟨rfl, ⟨rfl, ⟨rfl, trivial⟩⟩⟩⟩) ht
  · have ht := ht.2 c12
    refine ab_iload (i := 4) dX12_brightIn_95 rfl ?_
    refine ab_if_ne (tgt := 158) dX12_brightIn_97 (by decide) (fun c14 => ?_) (fun c14 => ?_)
    · have ht := ht.1 c14
      refine ab_iload_n (i := 2) dX12_brightIn_158 rfl rfl ?_
      refine ab_iload (i := 4) dX12_brightIn_159 rfl ?_
      refine ab_if_eq (tgt := 170) dX12_brightIn_161 (by decide) (fun c15 => ?_) (fun c15 => ?_)
      · have ht := ht.1 c15
        refine ab_iconst (v := 0) dX12_brightIn_170 (by decide) ?_
        refine ab_ior dX12_brightIn_171 ?_
        refine ab_istore_n (i := 2) (L' := [some (.ref 82), some (.int x1), some (.int (x2 ||| 0)), some (.int x3), some (.int x4), some (.int x5)]) dX12_brightIn_172 rfl (by exact (Nat.le_of_ble_eq_true rfl)) rfl rfl ?_
        refine ab_iinc (i := 3) (x := x3) (v := (x3 + 1)) (L' := [some (.ref 82), some (.int x1), some (.int (x2 ||| 0)), some (.int (x3 + 1)), some (.int x4), some (.int x5)]) dX12_brightIn_173 rfl rfl (by exact (Nat.le_of_ble_eq_true rfl)) rfl rfl ?_
        refine ab_goto (tgt := 4) dX12_brightIn_176 (by decide) ?_
        exact Wp.fewer (L' := [some (.ref 82), some (.int x1), some (.int (x2 ||| 0)), some (.int (x3 + 1)), none, none]) (show ab_leL _ _ from ⟨rfl, ⟨rfl, ⟨rfl, ⟨rfl, trivial⟩⟩⟩⟩) ht
      · have ht := ht.2 c15
        refine ab_iconst (v := 1) dX12_brightIn_164 (by decide) ?_
        refine ab_iload_n (i := 3) dX12_brightIn_165 rfl rfl ?_
        refine ab_ishl dX12_brightIn_166 ?_
        refine ab_goto (tgt := 171) dX12_brightIn_167 (by decide) ?_
        refine ab_ior dX12_brightIn_171 ?_
        refine ab_istore_n (i := 2) (L' := [some (.ref 82), some (.int x1), some (.int (x2 ||| ((1 : Int32) <<< (x3 &&& 31)))), some (.int x3), some (.int x4), some (.int x5)]) dX12_brightIn_172 rfl (by exact (Nat.le_of_ble_eq_true rfl)) rfl rfl ?_
        refine ab_iinc (i := 3) (x := x3) (v := (x3 + 1)) (L' := [some (.ref 82), some (.int x1), some (.int (x2 ||| ((1 : Int32) <<< (x3 &&& 31)))), some (.int (x3 + 1)), some (.int x4), some (.int x5)]) dX12_brightIn_173 rfl rfl (by exact (Nat.le_of_ble_eq_true rfl)) rfl rfl ?_
        refine ab_goto (tgt := 4) dX12_brightIn_176 (by decide) ?_
        exact Wp.fewer (L' := [some (.ref 82), some (.int x1), some (.int (x2 ||| ((1 : Int32) <<< (x3 &&& 31)))), some (.int (x3 + 1)), none, none]) (show ab_leL _ _ from ⟨rfl, ⟨rfl, ⟨rfl, ⟨rfl, trivial⟩⟩⟩⟩) ht
    · have ht := ht.2 c14
      refine ab_aload_n (i := 0) dX12_brightIn_100 rfl rfl ?_
      refine ab_getR (b := 107) f_X12_98 rfl (sh_k hs 82 12 (by decide) rfl) (sh_r hs 123 rfl) dX12_brightIn_101 ?_
      refine ab_bipush (v := 120) dX12_brightIn_104 (by decide) ?_
      refine ab_iload (i := 5) dX12_brightIn_106 rfl ?_
      refine ab_imul dX12_brightIn_108 ?_
      refine ab_iload_n (i := 1) dX12_brightIn_109 rfl rfl ?_
      refine ab_iadd dX12_brightIn_110 ?_
      obtain ⟨hc16, ht⟩ := ht
      refine ab_iald (sh_k hs 107 14 (by decide) rfl) hc16 dX12_brightIn_111 ?_
      refine ab_iconst (v := (-1)) dX12_brightIn_112 (by decide) ?_
      refine ab_icmp_eq (tgt := 149) dX12_brightIn_113 (by decide) (fun c17 => ?_) (fun c17 => ?_)
      · have ht := ht.1 c17
        refine ab_iconst (v := 0) dX12_brightIn_149 (by decide) ?_
        refine ab_istore (i := 4) (L' := [some (.ref 82), some (.int x1), some (.int x2), some (.int x3), some (.int 0), some (.int x5)]) dX12_brightIn_150 (by exact (Nat.le_of_ble_eq_true rfl)) rfl rfl ?_
        refine ab_iinc (i := 5) (x := x5) (v := (x5 + 1)) (L' := [some (.ref 82), some (.int x1), some (.int x2), some (.int x3), some (.int 0), some (.int (x5 + 1))]) dX12_brightIn_152 rfl rfl (by exact (Nat.le_of_ble_eq_true rfl)) rfl rfl ?_
        refine ab_goto (tgt := 86) dX12_brightIn_155 (by decide) ?_
        exact Wp.fewer (L' := [some (.ref 82), some (.int x1), some (.int x2), some (.int x3), some (.int 0), some (.int (x5 + 1))]) (show ab_leL _ _ from ⟨rfl, ⟨rfl, ⟨rfl, ⟨rfl, ⟨rfl, ⟨rfl, trivial⟩⟩⟩⟩⟩⟩) ht
      · have ht := ht.2 c17
        refine ab_aload_n (i := 0) dX12_brightIn_116 rfl rfl ?_
        refine ab_iconst (v := (-1)) dX12_brightIn_117 (by decide) ?_
        refine ab_aload_n (i := 0) dX12_brightIn_118 rfl rfl ?_
        refine ab_getR (b := 107) f_X12_98 rfl (sh_k hs 82 12 (by decide) rfl) (sh_r hs 123 rfl) dX12_brightIn_119 ?_
        refine ab_bipush (v := 120) dX12_brightIn_122 (by decide) ?_
        refine ab_iload (i := 5) dX12_brightIn_124 rfl ?_
        refine ab_imul dX12_brightIn_126 ?_
        refine ab_iload_n (i := 1) dX12_brightIn_127 rfl rfl ?_
        refine ab_iadd dX12_brightIn_128 ?_
        obtain ⟨hc18, ht⟩ := ht
        refine ab_iald (sh_k hs 107 14 (by decide) rfl) hc18 dX12_brightIn_129 ?_
        refine ab_aload_n (i := 0) dX12_brightIn_130 rfl rfl ?_
        refine ab_getR (b := 108) f_X12_101 rfl (sh_k hs 82 12 (by decide) rfl) (sh_r hs 124 rfl) dX12_brightIn_131 ?_
        refine ab_iload (i := 5) dX12_brightIn_134 rfl ?_
        obtain ⟨hc19, ht⟩ := ht
        refine ab_iald (sh_k hs 108 14 (by decide) rfl) hc19 dX12_brightIn_136 ?_
        refine ab_iload_n (i := 3) dX12_brightIn_137 rfl rfl ?_
        refine ab_iload_n (i := 1) dX12_brightIn_138 rfl rfl ?_
        refine ab_callV (b := 82) (As := [.int (-1), .int (ah_i h 107 (Int32.toNatClampNeg ((120 * x5) + x1))), .int (ah_i h 108 (Int32.toNatClampNeg x5)), .int x3, .int x1]) ht (Y_X12_isReached) l_X12_423 in_X12_isReached se_X12_isReached (sh_k hs 82 12 (by decide) rfl) (by decide) rfl rfl ⟨(Nat.le_of_ble_eq_true rfl), (Nat.le_of_ble_eq_true rfl), (Nat.le_of_ble_eq_true rfl), (Nat.le_of_ble_eq_true rfl)⟩ dX12_brightIn_139 ?_
        rintro _ h20 ⟨v22, rfl, hs21, ht⟩
        refine ab_if_eq (tgt := 149) dX12_brightIn_142 (by decide) (fun c23 => ?_) (fun c23 => ?_)
        · have ht := ht.1 c23
          refine ab_iconst (v := 0) dX12_brightIn_149 (by decide) ?_
          refine ab_istore (i := 4) (L' := [some (.ref 82), some (.int x1), some (.int x2), some (.int x3), some (.int 0), some (.int x5)]) dX12_brightIn_150 (by exact (Nat.le_of_ble_eq_true rfl)) rfl rfl ?_
          refine ab_iinc (i := 5) (x := x5) (v := (x5 + 1)) (L' := [some (.ref 82), some (.int x1), some (.int x2), some (.int x3), some (.int 0), some (.int (x5 + 1))]) dX12_brightIn_152 rfl rfl (by exact (Nat.le_of_ble_eq_true rfl)) rfl rfl ?_
          refine ab_goto (tgt := 86) dX12_brightIn_155 (by decide) ?_
          exact Wp.fewer (L' := [some (.ref 82), some (.int x1), some (.int x2), some (.int x3), some (.int 0), some (.int (x5 + 1))]) (show ab_leL _ _ from ⟨rfl, ⟨rfl, ⟨rfl, ⟨rfl, ⟨rfl, ⟨rfl, trivial⟩⟩⟩⟩⟩⟩) ht
        · have ht := ht.2 c23
          refine ab_iconst (v := 1) dX12_brightIn_145 (by decide) ?_
          refine ab_goto (tgt := 150) dX12_brightIn_146 (by decide) ?_
          refine ab_istore (i := 4) (L' := [some (.ref 82), some (.int x1), some (.int x2), some (.int x3), some (.int 1), some (.int x5)]) dX12_brightIn_150 (by exact (Nat.le_of_ble_eq_true rfl)) rfl rfl ?_
          refine ab_iinc (i := 5) (x := x5) (v := (x5 + 1)) (L' := [some (.ref 82), some (.int x1), some (.int x2), some (.int x3), some (.int 1), some (.int (x5 + 1))]) dX12_brightIn_152 rfl rfl (by exact (Nat.le_of_ble_eq_true rfl)) rfl rfl ?_
          refine ab_goto (tgt := 86) dX12_brightIn_155 (by decide) ?_
          exact Wp.fewer (L' := [some (.ref 82), some (.int x1), some (.int x2), some (.int x3), some (.int 1), some (.int (x5 + 1))]) (show ab_leL _ _ from ⟨rfl, ⟨rfl, ⟨rfl, ⟨rfl, ⟨rfl, ⟨rfl, trivial⟩⟩⟩⟩⟩⟩) ht
set_option maxRecDepth 20000 in
theorem T_X12_brightIn {Q : Option Value → ah_T → Prop} {h : ah_T} (hs : Sh h) (x1 : Int32) (ht : Wp mX12_brightIn Q 0 0 4 [some (.ref 82), some (.int x1), some (.int 0), some (.int 0), none, none] [] h) : Mt mX12_brightIn [.ref 82, .int x1] h Q := by
  refine Mt.ofWp rfl (by exact (Nat.le_of_ble_eq_true rfl)) (Wp.fewer (L' := [some (.ref 82), some (.int x1), none, none, none, none]) (show ab_leL _ _ from ⟨rfl, ⟨rfl, trivial⟩⟩) ?_)
  refine ab_iconst (v := 0) dX12_brightIn_0 (by decide) ?_
  refine ab_istore_n (i := 2) (L' := [some (.ref 82), some (.int x1), some (.int 0), none, none, none]) dX12_brightIn_1 rfl (by exact (Nat.le_of_ble_eq_true rfl)) rfl rfl ?_
  refine ab_iconst (v := 0) dX12_brightIn_2 (by decide) ?_
  refine ab_istore_n (i := 3) (L' := [some (.ref 82), some (.int x1), some (.int 0), some (.int 0), none, none]) dX12_brightIn_3 rfl (by exact (Nat.le_of_ble_eq_true rfl)) rfl rfl ?_
  exact Wp.fewer (L' := [some (.ref 82), some (.int x1), some (.int 0), some (.int 0), none, none]) (show ab_leL _ _ from ⟨rfl, ⟨rfl, ⟨rfl, ⟨rfl, trivial⟩⟩⟩⟩) ht
theorem dX12_isReached_0 : decode cX12_isReached 0 = .ok (.aload_n 0, 1) := by decide +kernel
theorem dX12_isReached_1 : decode cX12_isReached 1 = .ok (.getfield 74, 3) := by decide +kernel
theorem dX12_isReached_4 : decode cX12_isReached 4 = .ok (.bipush 12, 2) := by decide +kernel
theorem dX12_isReached_6 : decode cX12_isReached 6 = .ok (.iload_n 2, 1) := by decide +kernel
theorem dX12_isReached_7 : decode cX12_isReached 7 = .ok (.imul, 1) := by decide +kernel
theorem dX12_isReached_8 : decode cX12_isReached 8 = .ok (.iload 4, 2) := by decide +kernel
theorem dX12_isReached_10 : decode cX12_isReached 10 = .ok (.iadd, 1) := by decide +kernel
theorem dX12_isReached_11 : decode cX12_isReached 11 = .ok (.iaload, 1) := by decide +kernel
theorem dX12_isReached_12 : decode cX12_isReached 12 = .ok (.iconst (-1), 1) := by decide +kernel
theorem dX12_isReached_13 : decode cX12_isReached 13 = .ok (.if_icmp .eq 30, 3) := by decide +kernel
theorem dX12_isReached_16 : decode cX12_isReached 16 = .ok (.aload_n 0, 1) := by decide +kernel
theorem dX12_isReached_17 : decode cX12_isReached 17 = .ok (.getfield 74, 3) := by decide +kernel
theorem dX12_isReached_20 : decode cX12_isReached 20 = .ok (.bipush 12, 2) := by decide +kernel
theorem dX12_isReached_22 : decode cX12_isReached 22 = .ok (.iload_n 2, 1) := by decide +kernel
theorem dX12_isReached_23 : decode cX12_isReached 23 = .ok (.imul, 1) := by decide +kernel
theorem dX12_isReached_24 : decode cX12_isReached 24 = .ok (.iload 4, 2) := by decide +kernel
theorem dX12_isReached_26 : decode cX12_isReached 26 = .ok (.iadd, 1) := by decide +kernel
theorem dX12_isReached_27 : decode cX12_isReached 27 = .ok (.iaload, 1) := by decide +kernel
theorem dX12_isReached_28 : decode cX12_isReached 28 = .ok (.aload_n 0, 1) := by decide +kernel
theorem dX12_isReached_29 : decode cX12_isReached 29 = .ok (.iload_n 1, 1) := by decide +kernel
theorem dX12_isReached_30 : decode cX12_isReached 30 = .ok (.iload_n 3, 1) := by decide +kernel
theorem dX12_isReached_31 : decode cX12_isReached 31 = .ok (.iload 5, 2) := by decide +kernel
theorem dX12_isReached_33 : decode cX12_isReached 33 = .ok (.invokevirtual 427, 3) := by decide +kernel
theorem dX12_isReached_36 : decode cX12_isReached 36 = .ok (.if_icmp .gt 7, 3) := by decide +kernel
theorem dX12_isReached_39 : decode cX12_isReached 39 = .ok (.iconst 1, 1) := by decide +kernel
theorem dX12_isReached_40 : decode cX12_isReached 40 = .ok (.goto 4, 3) := by decide +kernel
theorem dX12_isReached_43 : decode cX12_isReached 43 = .ok (.iconst 0, 1) := by decide +kernel
theorem dX12_isReached_44 : decode cX12_isReached 44 = .ok (.ireturn, 1) := by decide +kernel
set_option maxRecDepth 20000 in
theorem T_X12_isReached {Q : Option Value → ah_T → Prop} {h : ah_T} (hs : Sh h) (x1 : Int32) (x2 : Int32) (x3 : Int32) (x4 : Int32) (x5 : Int32) (ht : (vp_in ((12 * x2) + x4) (ah_n h 99)) ∧ (((ah_i h 99 (Int32.toNatClampNeg ((12 * x2) + x4))) = (-1) → Q (some (.int 0)) h) ∧ (¬ (ah_i h 99 (Int32.toNatClampNeg ((12 * x2) + x4))) = (-1) → (vp_in ((12 * x2) + x4) (ah_n h 99)) ∧ (Mt mX12_reachOf [.ref 82, .int x1, .int x3, .int x5] h (ab_qi fun v6 h4 => Sh h4 ∧ ((v6 < (ah_i h 99 (Int32.toNatClampNeg ((12 * x2) + x4))) → Q (some (.int 0)) h4) ∧ (¬ v6 < (ah_i h 99 (Int32.toNatClampNeg ((12 * x2) + x4))) → Q (some (.int 1)) h4))))))) : Mt mX12_isReached [.ref 82, .int x1, .int x2, .int x3, .int x4, .int x5] h Q := by
  refine Mt.ofWp rfl (by exact (Nat.le_of_ble_eq_true rfl)) (Wp.fewer (L' := [some (.ref 82), some (.int x1), some (.int x2), some (.int x3), some (.int x4), some (.int x5)]) (show ab_leL _ _ from ⟨rfl, ⟨rfl, ⟨rfl, ⟨rfl, ⟨rfl, ⟨rfl, trivial⟩⟩⟩⟩⟩⟩) ?_)
  refine ab_aload_n (i := 0) dX12_isReached_0 rfl rfl ?_
  refine ab_getR (b := 99) f_X12_74 rfl (sh_k hs 82 12 (by decide) rfl) (sh_r hs 115 rfl) dX12_isReached_1 ?_
  refine ab_bipush (v := 12) dX12_isReached_4 (by decide) ?_
  refine ab_iload_n (i := 2) dX12_isReached_6 rfl rfl ?_
  refine ab_imul dX12_isReached_7 ?_
  refine ab_iload (i := 4) dX12_isReached_8 rfl ?_
  refine ab_iadd dX12_isReached_10 ?_
  obtain ⟨hc1, ht⟩ := ht
  refine ab_iald (sh_k hs 99 14 (by decide) rfl) hc1 dX12_isReached_11 ?_
  refine ab_iconst (v := (-1)) dX12_isReached_12 (by decide) ?_
  refine ab_icmp_eq (tgt := 43) dX12_isReached_13 (by decide) (fun c2 => ?_) (fun c2 => ?_)
  · have ht := ht.1 c2
    refine ab_iconst (v := 0) dX12_isReached_43 (by decide) ?_
    exact ab_zret rfl rfl dX12_isReached_44 (Nat.le_of_ble_eq_true rfl) (Nat.le_of_ble_eq_true rfl) ht
  · have ht := ht.2 c2
    refine ab_aload_n (i := 0) dX12_isReached_16 rfl rfl ?_
    refine ab_getR (b := 99) f_X12_74 rfl (sh_k hs 82 12 (by decide) rfl) (sh_r hs 115 rfl) dX12_isReached_17 ?_
    refine ab_bipush (v := 12) dX12_isReached_20 (by decide) ?_
    refine ab_iload_n (i := 2) dX12_isReached_22 rfl rfl ?_
    refine ab_imul dX12_isReached_23 ?_
    refine ab_iload (i := 4) dX12_isReached_24 rfl ?_
    refine ab_iadd dX12_isReached_26 ?_
    obtain ⟨hc3, ht⟩ := ht
    refine ab_iald (sh_k hs 99 14 (by decide) rfl) hc3 dX12_isReached_27 ?_
    refine ab_aload_n (i := 0) dX12_isReached_28 rfl rfl ?_
    refine ab_iload_n (i := 1) dX12_isReached_29 rfl rfl ?_
    refine ab_iload_n (i := 3) dX12_isReached_30 rfl rfl ?_
    refine ab_iload (i := 5) dX12_isReached_31 rfl ?_
    refine ab_callV (b := 82) (As := [.int x1, .int x3, .int x5]) ht (Y_X12_reachOf) l_X12_427 in_X12_reachOf se_X12_reachOf (sh_k hs 82 12 (by decide) rfl) (by decide) rfl rfl ⟨(Nat.le_of_ble_eq_true rfl), (Nat.le_of_ble_eq_true rfl), (Nat.le_of_ble_eq_true rfl), (Nat.le_of_ble_eq_true rfl)⟩ dX12_isReached_33 ?_
    rintro _ h4 ⟨v6, rfl, hs5, ht⟩
    refine ab_icmp_gt (tgt := 43) dX12_isReached_36 (by decide) (fun c7 => ?_) (fun c7 => ?_)
    · have ht := ht.1 c7
      refine ab_iconst (v := 0) dX12_isReached_43 (by decide) ?_
      exact ab_zret rfl rfl dX12_isReached_44 (Nat.le_of_ble_eq_true rfl) (Nat.le_of_ble_eq_true rfl) ht
    · have ht := ht.2 c7
      refine ab_iconst (v := 1) dX12_isReached_39 (by decide) ?_
      refine ab_goto (tgt := 44) dX12_isReached_40 (by decide) ?_
      exact ab_zret rfl rfl dX12_isReached_44 (Nat.le_of_ble_eq_true rfl) (Nat.le_of_ble_eq_true rfl) ht
theorem dX12_asks_0 : decode cX12_asks 0 = .ok (.aload_n 0, 1) := by decide +kernel
theorem dX12_asks_1 : decode cX12_asks 1 = .ok (.iload_n 1, 1) := by decide +kernel
theorem dX12_asks_2 : decode cX12_asks 2 = .ok (.invokevirtual 198, 3) := by decide +kernel
theorem dX12_asks_5 : decode cX12_asks 5 = .ok (.ifCond .eq 20, 3) := by decide +kernel
theorem dX12_asks_8 : decode cX12_asks 8 = .ok (.iload_n 3, 1) := by decide +kernel
theorem dX12_asks_9 : decode cX12_asks 9 = .ok (.invokestatic 201, 3) := by decide +kernel
theorem dX12_asks_12 : decode cX12_asks 12 = .ok (.ifCond .eq 13, 3) := by decide +kernel
theorem dX12_asks_15 : decode cX12_asks 15 = .ok (.iload 4, 2) := by decide +kernel
theorem dX12_asks_17 : decode cX12_asks 17 = .ok (.iconst 0, 1) := by decide +kernel
theorem dX12_asks_18 : decode cX12_asks 18 = .ok (.iconst 2, 1) := by decide +kernel
theorem dX12_asks_19 : decode cX12_asks 19 = .ok (.invokestatic 156, 3) := by decide +kernel
theorem dX12_asks_22 : decode cX12_asks 22 = .ok (.ifCond .ne 5, 3) := by decide +kernel
theorem dX12_asks_25 : decode cX12_asks 25 = .ok (.iconst (-1), 1) := by decide +kernel
theorem dX12_asks_26 : decode cX12_asks 26 = .ok (.ireturn, 1) := by decide +kernel
theorem dX12_asks_27 : decode cX12_asks 27 = .ok (.aload_n 0, 1) := by decide +kernel
theorem dX12_asks_28 : decode cX12_asks 28 = .ok (.invokevirtual 416, 3) := by decide +kernel
theorem dX12_asks_31 : decode cX12_asks 31 = .ok (.iload 4, 2) := by decide +kernel
theorem dX12_asks_33 : decode cX12_asks 33 = .ok (.iconst 1, 1) := by decide +kernel
theorem dX12_asks_34 : decode cX12_asks 34 = .ok (.if_icmp .ne 16, 3) := by decide +kernel
theorem dX12_asks_37 : decode cX12_asks 37 = .ok (.aload_n 0, 1) := by decide +kernel
theorem dX12_asks_38 : decode cX12_asks 38 = .ok (.iload_n 1, 1) := by decide +kernel
theorem dX12_asks_39 : decode cX12_asks 39 = .ok (.aload_n 0, 1) := by decide +kernel
theorem dX12_asks_40 : decode cX12_asks 40 = .ok (.getfield 80, 3) := by decide +kernel
theorem dX12_asks_43 : decode cX12_asks 43 = .ok (.iload_n 1, 1) := by decide +kernel
theorem dX12_asks_44 : decode cX12_asks 44 = .ok (.iaload, 1) := by decide +kernel
theorem dX12_asks_45 : decode cX12_asks 45 = .ok (.iload_n 3, 1) := by decide +kernel
theorem dX12_asks_46 : decode cX12_asks 46 = .ok (.invokevirtual 427, 3) := by decide +kernel
theorem dX12_asks_49 : decode cX12_asks 49 = .ok (.ireturn, 1) := by decide +kernel
theorem dX12_asks_50 : decode cX12_asks 50 = .ok (.iload 4, 2) := by decide +kernel
theorem dX12_asks_52 : decode cX12_asks 52 = .ok (.iconst 2, 1) := by decide +kernel
theorem dX12_asks_53 : decode cX12_asks 53 = .ok (.if_icmp .ne 16, 3) := by decide +kernel
theorem dX12_asks_56 : decode cX12_asks 56 = .ok (.aload_n 0, 1) := by decide +kernel
theorem dX12_asks_57 : decode cX12_asks 57 = .ok (.iload_n 1, 1) := by decide +kernel
theorem dX12_asks_58 : decode cX12_asks 58 = .ok (.aload_n 0, 1) := by decide +kernel
theorem dX12_asks_59 : decode cX12_asks 59 = .ok (.getfield 80, 3) := by decide +kernel
theorem dX12_asks_62 : decode cX12_asks 62 = .ok (.iload_n 1, 1) := by decide +kernel
theorem dX12_asks_63 : decode cX12_asks 63 = .ok (.iaload, 1) := by decide +kernel
theorem dX12_asks_64 : decode cX12_asks 64 = .ok (.iload_n 3, 1) := by decide +kernel
theorem dX12_asks_65 : decode cX12_asks 65 = .ok (.invokevirtual 406, 3) := by decide +kernel
theorem dX12_asks_68 : decode cX12_asks 68 = .ok (.ireturn, 1) := by decide +kernel
theorem dX12_asks_69 : decode cX12_asks 69 = .ok (.aload_n 0, 1) := by decide +kernel
theorem dX12_asks_70 : decode cX12_asks 70 = .ok (.iload_n 2, 1) := by decide +kernel
theorem dX12_asks_71 : decode cX12_asks 71 = .ok (.invokevirtual 198, 3) := by decide +kernel
theorem dX12_asks_74 : decode cX12_asks 74 = .ok (.ifCond .eq 8, 3) := by decide +kernel
theorem dX12_asks_77 : decode cX12_asks 77 = .ok (.iload_n 2, 1) := by decide +kernel
theorem dX12_asks_78 : decode cX12_asks 78 = .ok (.iload_n 1, 1) := by decide +kernel
theorem dX12_asks_79 : decode cX12_asks 79 = .ok (.if_icmp .ne 5, 3) := by decide +kernel
theorem dX12_asks_82 : decode cX12_asks 82 = .ok (.iconst (-1), 1) := by decide +kernel
theorem dX12_asks_83 : decode cX12_asks 83 = .ok (.ireturn, 1) := by decide +kernel
theorem dX12_asks_84 : decode cX12_asks 84 = .ok (.aload_n 0, 1) := by decide +kernel
theorem dX12_asks_85 : decode cX12_asks 85 = .ok (.iload_n 1, 1) := by decide +kernel
theorem dX12_asks_86 : decode cX12_asks 86 = .ok (.aload_n 0, 1) := by decide +kernel
theorem dX12_asks_87 : decode cX12_asks 87 = .ok (.getfield 80, 3) := by decide +kernel
theorem dX12_asks_90 : decode cX12_asks 90 = .ok (.iload_n 1, 1) := by decide +kernel
theorem dX12_asks_91 : decode cX12_asks 91 = .ok (.iaload, 1) := by decide +kernel
theorem dX12_asks_92 : decode cX12_asks 92 = .ok (.aload_n 0, 1) := by decide +kernel
theorem dX12_asks_93 : decode cX12_asks 93 = .ok (.getfield 80, 3) := by decide +kernel
theorem dX12_asks_96 : decode cX12_asks 96 = .ok (.iload_n 2, 1) := by decide +kernel
theorem dX12_asks_97 : decode cX12_asks 97 = .ok (.iaload, 1) := by decide +kernel
theorem dX12_asks_98 : decode cX12_asks 98 = .ok (.aload_n 0, 1) := by decide +kernel
theorem dX12_asks_99 : decode cX12_asks 99 = .ok (.getfield 74, 3) := by decide +kernel
theorem dX12_asks_102 : decode cX12_asks 102 = .ok (.bipush 12, 2) := by decide +kernel
theorem dX12_asks_104 : decode cX12_asks 104 = .ok (.aload_n 0, 1) := by decide +kernel
theorem dX12_asks_105 : decode cX12_asks 105 = .ok (.getfield 77, 3) := by decide +kernel
theorem dX12_asks_108 : decode cX12_asks 108 = .ok (.iload_n 1, 1) := by decide +kernel
theorem dX12_asks_109 : decode cX12_asks 109 = .ok (.iaload, 1) := by decide +kernel
theorem dX12_asks_110 : decode cX12_asks 110 = .ok (.imul, 1) := by decide +kernel
theorem dX12_asks_111 : decode cX12_asks 111 = .ok (.aload_n 0, 1) := by decide +kernel
theorem dX12_asks_112 : decode cX12_asks 112 = .ok (.getfield 77, 3) := by decide +kernel
theorem dX12_asks_115 : decode cX12_asks 115 = .ok (.iload_n 2, 1) := by decide +kernel
theorem dX12_asks_116 : decode cX12_asks 116 = .ok (.iaload, 1) := by decide +kernel
theorem dX12_asks_117 : decode cX12_asks 117 = .ok (.iadd, 1) := by decide +kernel
theorem dX12_asks_118 : decode cX12_asks 118 = .ok (.iaload, 1) := by decide +kernel
theorem dX12_asks_119 : decode cX12_asks 119 = .ok (.iload_n 1, 1) := by decide +kernel
theorem dX12_asks_120 : decode cX12_asks 120 = .ok (.iload_n 2, 1) := by decide +kernel
theorem dX12_asks_121 : decode cX12_asks 121 = .ok (.if_icmp .le 7, 3) := by decide +kernel
theorem dX12_asks_124 : decode cX12_asks 124 = .ok (.iconst 1, 1) := by decide +kernel
theorem dX12_asks_125 : decode cX12_asks 125 = .ok (.goto 4, 3) := by decide +kernel
theorem dX12_asks_128 : decode cX12_asks 128 = .ok (.iconst 0, 1) := by decide +kernel
theorem dX12_asks_129 : decode cX12_asks 129 = .ok (.iload_n 3, 1) := by decide +kernel
theorem dX12_asks_130 : decode cX12_asks 130 = .ok (.invokevirtual 409, 3) := by decide +kernel
theorem dX12_asks_133 : decode cX12_asks 133 = .ok (.ifCond .eq 7, 3) := by decide +kernel
theorem dX12_asks_136 : decode cX12_asks 136 = .ok (.iconst 1, 1) := by decide +kernel
theorem dX12_asks_137 : decode cX12_asks 137 = .ok (.goto 4, 3) := by decide +kernel
theorem dX12_asks_140 : decode cX12_asks 140 = .ok (.iconst 0, 1) := by decide +kernel
theorem dX12_asks_141 : decode cX12_asks 141 = .ok (.ireturn, 1) := by decide +kernel
set_option maxRecDepth 20000 in
theorem T_X12_asks {Q : Option Value → ah_T → Prop} {h : ah_T} (hs : Sh h) (x1 : Int32) (x2 : Int32) (x3 : Int32) (x4 : Int32) (ht : (((f_X12_isLamp h x1) = 0 → Q (some (.int (-1))) h) ∧ (¬ (f_X12_isLamp h x1) = 0 → (((f_X12_isMinute x3) = 0 → Q (some (.int (-1))) h) ∧ (¬ (f_X12_isMinute x3) = 0 → ((¬ (f_X12_lies x4 0 2) = 0 → (Mt mX12_looks [.ref 82] h (ab_qv fun h4 => Sh h4 ∧ ((¬ x4 = 1 → ((¬ x4 = 2 → (((f_X12_isLamp h4 x2) = 0 → Q (some (.int (-1))) h4) ∧ (¬ (f_X12_isLamp h4 x2) = 0 → ((¬ x2 = x1 → (vp_in x1 (ah_n h4 101)) ∧ (vp_in x2 (ah_n h4 101)) ∧ (vp_in x1 (ah_n h4 100)) ∧ (vp_in x2 (ah_n h4 100)) ∧ (vp_in ((12 * (ah_i h4 100 (Int32.toNatClampNeg x1))) + (ah_i h4 100 (Int32.toNatClampNeg x2))) (ah_n h4 99)) ∧ ((x1 ≤ x2 → (Mt mX12_doesShun [.ref 82, .int x1, .int (ah_i h4 101 (Int32.toNatClampNeg x1)), .int (ah_i h4 101 (Int32.toNatClampNeg x2)), .int (ah_i h4 99 (Int32.toNatClampNeg ((12 * (ah_i h4 100 (Int32.toNatClampNeg x1))) + (ah_i h4 100 (Int32.toNatClampNeg x2))))), .int 0, .int x3] h4 (ab_qi fun v19 h17 => Sh h17 ∧ ((v19 = 0 → Q (some (.int 0)) h17) ∧ (¬ v19 = 0 → Q (some (.int 1)) h17))))) ∧ (¬ x1 ≤ x2 → (Mt mX12_doesShun [.ref 82, .int x1, .int (ah_i h4 101 (Int32.toNatClampNeg x1)), .int (ah_i h4 101 (Int32.toNatClampNeg x2)), .int (ah_i h4 99 (Int32.toNatClampNeg ((12 * (ah_i h4 100 (Int32.toNatClampNeg x1))) + (ah_i h4 100 (Int32.toNatClampNeg x2))))), .int 1, .int x3] h4 (ab_qi fun v23 h21 => Sh h21 ∧ ((v23 = 0 → Q (some (.int 0)) h21) ∧ (¬ v23 = 0 → Q (some (.int 1)) h21))))))) ∧ (x2 = x1 → Q (some (.int (-1))) h4))))) ∧ (x4 = 2 → (vp_in x1 (ah_n h4 101)) ∧ (Mt mX12_drinkOf [.ref 82, .int x1, .int (ah_i h4 101 (Int32.toNatClampNeg x1)), .int x3] h4 (ab_qi fun v28 h26 => Sh h26 ∧ Q (some (.int v28)) h26))))) ∧ (x4 = 1 → (vp_in x1 (ah_n h4 101)) ∧ (Mt mX12_reachOf [.ref 82, .int x1, .int (ah_i h4 101 (Int32.toNatClampNeg x1)), .int x3] h4 (ab_qi fun v32 h30 => Sh h30 ∧ Q (some (.int v32)) h30))))))) ∧ ((f_X12_lies x4 0 2) = 0 → Q (some (.int (-1))) h))))))) : Mt mX12_asks [.ref 82, .int x1, .int x2, .int x3, .int x4] h Q := by
  refine Mt.ofWp rfl (by exact (Nat.le_of_ble_eq_true rfl)) (Wp.fewer (L' := [some (.ref 82), some (.int x1), some (.int x2), some (.int x3), some (.int x4)]) (show ab_leL _ _ from ⟨rfl, ⟨rfl, ⟨rfl, ⟨rfl, ⟨rfl, trivial⟩⟩⟩⟩⟩) ?_)
  refine ab_aload_n (i := 0) dX12_asks_0 rfl rfl ?_
  refine ab_iload_n (i := 1) dX12_asks_1 rfl rfl ?_
  refine ab_callV (b := 82) (Q' := fun r h' => r = some (.int (f_X12_isLamp h x1)) ∧ h = h') (As := [.int x1]) (c_X12_isLamp hs x1 ⟨rfl, rfl⟩) (Y_X12_isLamp) l_X12_198 in_X12_isLamp se_X12_isLamp (sh_k hs 82 12 (by decide) rfl) (by decide) rfl rfl ⟨(Nat.le_of_ble_eq_true rfl), (Nat.le_of_ble_eq_true rfl), (Nat.le_of_ble_eq_true rfl), (Nat.le_of_ble_eq_true rfl)⟩ dX12_asks_2 ?_
  rintro _ _ ⟨rfl, rfl⟩
  refine ab_if_eq (tgt := 25) dX12_asks_5 (by decide) (fun c1 => ?_) (fun c1 => ?_)
  · have ht := ht.1 c1
    refine ab_iconst (v := (-1)) dX12_asks_25 (by decide) ?_
    exact ab_iret rfl dX12_asks_26 (Nat.le_of_ble_eq_true rfl) (Nat.le_of_ble_eq_true rfl) ht
  · have ht := ht.2 c1
    refine ab_iload_n (i := 3) dX12_asks_8 rfl rfl ?_
    refine ab_callS (Q' := fun r h' => r = some (.int (f_X12_isMinute x3)) ∧ h = h') (As := [.int x3]) (c_X12_isMinute hs x3 ⟨rfl, rfl⟩) (Y_X12_isMinute) l_X12_201 st_X12_isMinute rfl ⟨(Nat.le_of_ble_eq_true rfl), (Nat.le_of_ble_eq_true rfl), (Nat.le_of_ble_eq_true rfl), (Nat.le_of_ble_eq_true rfl)⟩ dX12_asks_9 ?_
    rintro _ _ ⟨rfl, rfl⟩
    refine ab_if_eq (tgt := 25) dX12_asks_12 (by decide) (fun c2 => ?_) (fun c2 => ?_)
    · have ht := ht.1 c2
      refine ab_iconst (v := (-1)) dX12_asks_25 (by decide) ?_
      exact ab_iret rfl dX12_asks_26 (Nat.le_of_ble_eq_true rfl) (Nat.le_of_ble_eq_true rfl) ht
    · have ht := ht.2 c2
      refine ab_iload (i := 4) dX12_asks_15 rfl ?_
      refine ab_iconst (v := 0) dX12_asks_17 (by decide) ?_
      refine ab_iconst (v := 2) dX12_asks_18 (by decide) ?_
      refine ab_callS (Q' := fun r h' => r = some (.int (f_X12_lies x4 0 2)) ∧ h = h') (As := [.int x4, .int 0, .int 2]) (c_X12_lies hs x4 0 2 ⟨rfl, rfl⟩) (Y_X12_lies) l_X12_156 st_X12_lies rfl ⟨(Nat.le_of_ble_eq_true rfl), (Nat.le_of_ble_eq_true rfl), (Nat.le_of_ble_eq_true rfl), (Nat.le_of_ble_eq_true rfl)⟩ dX12_asks_19 ?_
      rintro _ _ ⟨rfl, rfl⟩
      refine ab_if_ne (tgt := 27) dX12_asks_22 (by decide) (fun c3 => ?_) (fun c3 => ?_)
      · have ht := ht.1 c3
        refine ab_aload_n (i := 0) dX12_asks_27 rfl rfl ?_
        refine ab_callV (b := 82) (As := []) ht (Y_X12_looks) l_X12_416 in_X12_looks se_X12_looks (sh_k hs 82 12 (by decide) rfl) (by decide) rfl rfl ⟨(Nat.le_of_ble_eq_true rfl), (Nat.le_of_ble_eq_true rfl), (Nat.le_of_ble_eq_true rfl), (Nat.le_of_ble_eq_true rfl)⟩ dX12_asks_28 ?_
        rintro _ h4 ⟨rfl, hs5, ht⟩
        refine ab_iload (i := 4) dX12_asks_31 rfl ?_
        refine ab_iconst (v := 1) dX12_asks_33 (by decide) ?_
        refine ab_icmp_ne (tgt := 50) dX12_asks_34 (by decide) (fun c7 => ?_) (fun c7 => ?_)
        · have ht := ht.1 c7
          refine ab_iload (i := 4) dX12_asks_50 rfl ?_
          refine ab_iconst (v := 2) dX12_asks_52 (by decide) ?_
          refine ab_icmp_ne (tgt := 69) dX12_asks_53 (by decide) (fun c8 => ?_) (fun c8 => ?_)
          · have ht := ht.1 c8
            refine ab_aload_n (i := 0) dX12_asks_69 rfl rfl ?_
            refine ab_iload_n (i := 2) dX12_asks_70 rfl rfl ?_
            refine ab_callV (b := 82) (Q' := fun r h' => r = some (.int (f_X12_isLamp h4 x2)) ∧ h4 = h') (As := [.int x2]) (c_X12_isLamp hs5 x2 ⟨rfl, rfl⟩) (Y_X12_isLamp) l_X12_198 in_X12_isLamp se_X12_isLamp (sh_k hs5 82 12 (by decide) rfl) (by decide) rfl rfl ⟨(Nat.le_of_ble_eq_true rfl), (Nat.le_of_ble_eq_true rfl), (Nat.le_of_ble_eq_true rfl), (Nat.le_of_ble_eq_true rfl)⟩ dX12_asks_71 ?_
            rintro _ _ ⟨rfl, rfl⟩
            refine ab_if_eq (tgt := 82) dX12_asks_74 (by decide) (fun c9 => ?_) (fun c9 => ?_)
            · have ht := ht.1 c9
              refine ab_iconst (v := (-1)) dX12_asks_82 (by decide) ?_
              exact ab_iret rfl dX12_asks_83 (Nat.le_of_ble_eq_true rfl) (Nat.le_of_ble_eq_true rfl) ht
            · have ht := ht.2 c9
              refine ab_iload_n (i := 2) dX12_asks_77 rfl rfl ?_
              refine ab_iload_n (i := 1) dX12_asks_78 rfl rfl ?_
              refine ab_icmp_ne (tgt := 84) dX12_asks_79 (by decide) (fun c10 => ?_) (fun c10 => ?_)
              · have ht := ht.1 c10
                refine ab_aload_n (i := 0) dX12_asks_84 rfl rfl ?_
                refine ab_iload_n (i := 1) dX12_asks_85 rfl rfl ?_
                refine ab_aload_n (i := 0) dX12_asks_86 rfl rfl ?_
                refine ab_getR (b := 101) f_X12_80 rfl (sh_k hs5 82 12 (by decide) rfl) (sh_r hs5 117 rfl) dX12_asks_87 ?_
                refine ab_iload_n (i := 1) dX12_asks_90 rfl rfl ?_
                obtain ⟨hc11, ht⟩ := ht
                refine ab_iald (sh_k hs5 101 14 (by decide) rfl) hc11 dX12_asks_91 ?_
                refine ab_aload_n (i := 0) dX12_asks_92 rfl rfl ?_
                refine ab_getR (b := 101) f_X12_80 rfl (sh_k hs5 82 12 (by decide) rfl) (sh_r hs5 117 rfl) dX12_asks_93 ?_
                refine ab_iload_n (i := 2) dX12_asks_96 rfl rfl ?_
                obtain ⟨hc12, ht⟩ := ht
                refine ab_iald (sh_k hs5 101 14 (by decide) rfl) hc12 dX12_asks_97 ?_
                refine ab_aload_n (i := 0) dX12_asks_98 rfl rfl ?_
                refine ab_getR (b := 99) f_X12_74 rfl (sh_k hs5 82 12 (by decide) rfl) (sh_r hs5 115 rfl) dX12_asks_99 ?_
                refine ab_bipush (v := 12) dX12_asks_102 (by decide) ?_
                refine ab_aload_n (i := 0) dX12_asks_104 rfl rfl ?_
                refine ab_getR (b := 100) f_X12_77 rfl (sh_k hs5 82 12 (by decide) rfl) (sh_r hs5 116 rfl) dX12_asks_105 ?_
                refine ab_iload_n (i := 1) dX12_asks_108 rfl rfl ?_
                obtain ⟨hc13, ht⟩ := ht
                refine ab_iald (sh_k hs5 100 14 (by decide) rfl) hc13 dX12_asks_109 ?_
                refine ab_imul dX12_asks_110 ?_
                refine ab_aload_n (i := 0) dX12_asks_111 rfl rfl ?_
                refine ab_getR (b := 100) f_X12_77 rfl (sh_k hs5 82 12 (by decide) rfl) (sh_r hs5 116 rfl) dX12_asks_112 ?_
                refine ab_iload_n (i := 2) dX12_asks_115 rfl rfl ?_
                obtain ⟨hc14, ht⟩ := ht
                refine ab_iald (sh_k hs5 100 14 (by decide) rfl) hc14 dX12_asks_116 ?_
                refine ab_iadd dX12_asks_117 ?_
                obtain ⟨hc15, ht⟩ := ht
                refine ab_iald (sh_k hs5 99 14 (by decide) rfl) hc15 dX12_asks_118 ?_
                refine ab_iload_n (i := 1) dX12_asks_119 rfl rfl ?_
                refine ab_iload_n (i := 2) dX12_asks_120 rfl rfl ?_
                refine ab_icmp_le (tgt := 128) dX12_asks_121 (by decide) (fun c16 => ?_) (fun c16 => ?_)
                · have ht := ht.1 c16
                  refine ab_iconst (v := 0) dX12_asks_128 (by decide) ?_
                  refine ab_iload_n (i := 3) dX12_asks_129 rfl rfl ?_
                  refine ab_callV (b := 82) (As := [.int x1, .int (ah_i h4 101 (Int32.toNatClampNeg x1)), .int (ah_i h4 101 (Int32.toNatClampNeg x2)), .int (ah_i h4 99 (Int32.toNatClampNeg ((12 * (ah_i h4 100 (Int32.toNatClampNeg x1))) + (ah_i h4 100 (Int32.toNatClampNeg x2))))), .int 0, .int x3]) ht (Y_X12_doesShun) l_X12_409 in_X12_doesShun se_X12_doesShun (sh_k hs5 82 12 (by decide) rfl) (by decide) rfl rfl ⟨(Nat.le_of_ble_eq_true rfl), (Nat.le_of_ble_eq_true rfl), (Nat.le_of_ble_eq_true rfl), (Nat.le_of_ble_eq_true rfl)⟩ dX12_asks_130 ?_
                  rintro _ h17 ⟨v19, rfl, hs18, ht⟩
                  refine ab_if_eq (tgt := 140) dX12_asks_133 (by decide) (fun c20 => ?_) (fun c20 => ?_)
                  · have ht := ht.1 c20
                    refine ab_iconst (v := 0) dX12_asks_140 (by decide) ?_
                    exact ab_iret rfl dX12_asks_141 (Nat.le_of_ble_eq_true rfl) (Nat.le_of_ble_eq_true rfl) ht
                  · have ht := ht.2 c20
                    refine ab_iconst (v := 1) dX12_asks_136 (by decide) ?_
                    refine ab_goto (tgt := 141) dX12_asks_137 (by decide) ?_
                    exact ab_iret rfl dX12_asks_141 (Nat.le_of_ble_eq_true rfl) (Nat.le_of_ble_eq_true rfl) ht
                · have ht := ht.2 c16
                  refine ab_iconst (v := 1) dX12_asks_124 (by decide) ?_
                  refine ab_goto (tgt := 129) dX12_asks_125 (by decide) ?_
                  refine ab_iload_n (i := 3) dX12_asks_129 rfl rfl ?_
                  refine ab_callV (b := 82) (As := [.int x1, .int (ah_i h4 101 (Int32.toNatClampNeg x1)), .int (ah_i h4 101 (Int32.toNatClampNeg x2)), .int (ah_i h4 99 (Int32.toNatClampNeg ((12 * (ah_i h4 100 (Int32.toNatClampNeg x1))) + (ah_i h4 100 (Int32.toNatClampNeg x2))))), .int 1, .int x3]) ht (Y_X12_doesShun) l_X12_409 in_X12_doesShun se_X12_doesShun (sh_k hs5 82 12 (by decide) rfl) (by decide) rfl rfl ⟨(Nat.le_of_ble_eq_true rfl), (Nat.le_of_ble_eq_true rfl), (Nat.le_of_ble_eq_true rfl), (Nat.le_of_ble_eq_true rfl)⟩ dX12_asks_130 ?_
                  rintro _ h21 ⟨v23, rfl, hs22, ht⟩
                  refine ab_if_eq (tgt := 140) dX12_asks_133 (by decide) (fun c24 => ?_) (fun c24 => ?_)
                  · have ht := ht.1 c24
                    refine ab_iconst (v := 0) dX12_asks_140 (by decide) ?_
                    exact ab_iret rfl dX12_asks_141 (Nat.le_of_ble_eq_true rfl) (Nat.le_of_ble_eq_true rfl) ht
                  · have ht := ht.2 c24
                    refine ab_iconst (v := 1) dX12_asks_136 (by decide) ?_
                    refine ab_goto (tgt := 141) dX12_asks_137 (by decide) ?_
                    exact ab_iret rfl dX12_asks_141 (Nat.le_of_ble_eq_true rfl) (Nat.le_of_ble_eq_true rfl) ht
              · have ht := ht.2 c10
                refine ab_iconst (v := (-1)) dX12_asks_82 (by decide) ?_
                exact ab_iret rfl dX12_asks_83 (Nat.le_of_ble_eq_true rfl) (Nat.le_of_ble_eq_true rfl) ht
          · have ht := ht.2 c8
            refine ab_aload_n (i := 0) dX12_asks_56 rfl rfl ?_
            refine ab_iload_n (i := 1) dX12_asks_57 rfl rfl ?_
            refine ab_aload_n (i := 0) dX12_asks_58 rfl rfl ?_
            refine ab_getR (b := 101) f_X12_80 rfl (sh_k hs5 82 12 (by decide) rfl) (sh_r hs5 117 rfl) dX12_asks_59 ?_
            refine ab_iload_n (i := 1) dX12_asks_62 rfl rfl ?_
            obtain ⟨hc25, ht⟩ := ht
            refine ab_iald (sh_k hs5 101 14 (by decide) rfl) hc25 dX12_asks_63 ?_
            refine ab_iload_n (i := 3) dX12_asks_64 rfl rfl ?_
            refine ab_callV (b := 82) (As := [.int x1, .int (ah_i h4 101 (Int32.toNatClampNeg x1)), .int x3]) ht (Y_X12_drinkOf) l_X12_406 in_X12_drinkOf se_X12_drinkOf (sh_k hs5 82 12 (by decide) rfl) (by decide) rfl rfl ⟨(Nat.le_of_ble_eq_true rfl), (Nat.le_of_ble_eq_true rfl), (Nat.le_of_ble_eq_true rfl), (Nat.le_of_ble_eq_true rfl)⟩ dX12_asks_65 ?_
            rintro _ h26 ⟨v28, rfl, hs27, ht⟩
            exact ab_iret rfl dX12_asks_68 (Nat.le_of_ble_eq_true rfl) (Nat.le_of_ble_eq_true rfl) ht
        · have ht := ht.2 c7
          refine ab_aload_n (i := 0) dX12_asks_37 rfl rfl ?_
          refine ab_iload_n (i := 1) dX12_asks_38 rfl rfl ?_
          refine ab_aload_n (i := 0) dX12_asks_39 rfl rfl ?_
          refine ab_getR (b := 101) f_X12_80 rfl (sh_k hs5 82 12 (by decide) rfl) (sh_r hs5 117 rfl) dX12_asks_40 ?_
          refine ab_iload_n (i := 1) dX12_asks_43 rfl rfl ?_
          obtain ⟨hc29, ht⟩ := ht
          refine ab_iald (sh_k hs5 101 14 (by decide) rfl) hc29 dX12_asks_44 ?_
          refine ab_iload_n (i := 3) dX12_asks_45 rfl rfl ?_
          refine ab_callV (b := 82) (As := [.int x1, .int (ah_i h4 101 (Int32.toNatClampNeg x1)), .int x3]) ht (Y_X12_reachOf) l_X12_427 in_X12_reachOf se_X12_reachOf (sh_k hs5 82 12 (by decide) rfl) (by decide) rfl rfl ⟨(Nat.le_of_ble_eq_true rfl), (Nat.le_of_ble_eq_true rfl), (Nat.le_of_ble_eq_true rfl), (Nat.le_of_ble_eq_true rfl)⟩ dX12_asks_46 ?_
          rintro _ h30 ⟨v32, rfl, hs31, ht⟩
          exact ab_iret rfl dX12_asks_49 (Nat.le_of_ble_eq_true rfl) (Nat.le_of_ble_eq_true rfl) ht
      · have ht := ht.2 c3
        refine ab_iconst (v := (-1)) dX12_asks_25 (by decide) ?_
        exact ab_iret rfl dX12_asks_26 (Nat.le_of_ble_eq_true rfl) (Nat.le_of_ble_eq_true rfl) ht
theorem dX12_burns_0 : decode cX12_burns 0 = .ok (.aload_n 0, 1) := by decide +kernel
theorem dX12_burns_1 : decode cX12_burns 1 = .ok (.iload_n 1, 1) := by decide +kernel
theorem dX12_burns_2 : decode cX12_burns 2 = .ok (.invokevirtual 198, 3) := by decide +kernel
theorem dX12_burns_5 : decode cX12_burns 5 = .ok (.ifCond .eq 19, 3) := by decide +kernel
theorem dX12_burns_8 : decode cX12_burns 8 = .ok (.iload_n 2, 1) := by decide +kernel
theorem dX12_burns_9 : decode cX12_burns 9 = .ok (.invokestatic 201, 3) := by decide +kernel
theorem dX12_burns_12 : decode cX12_burns 12 = .ok (.ifCond .eq 12, 3) := by decide +kernel
theorem dX12_burns_15 : decode cX12_burns 15 = .ok (.iload_n 3, 1) := by decide +kernel
theorem dX12_burns_16 : decode cX12_burns 16 = .ok (.iconst 0, 1) := by decide +kernel
theorem dX12_burns_17 : decode cX12_burns 17 = .ok (.iconst 3, 1) := by decide +kernel
theorem dX12_burns_18 : decode cX12_burns 18 = .ok (.invokestatic 156, 3) := by decide +kernel
theorem dX12_burns_21 : decode cX12_burns 21 = .ok (.ifCond .ne 5, 3) := by decide +kernel
theorem dX12_burns_24 : decode cX12_burns 24 = .ok (.iconst (-1), 1) := by decide +kernel
theorem dX12_burns_25 : decode cX12_burns 25 = .ok (.ireturn, 1) := by decide +kernel
theorem dX12_burns_26 : decode cX12_burns 26 = .ok (.aload_n 0, 1) := by decide +kernel
theorem dX12_burns_27 : decode cX12_burns 27 = .ok (.invokevirtual 430, 3) := by decide +kernel
theorem dX12_burns_30 : decode cX12_burns 30 = .ok (.bipush 10, 2) := by decide +kernel
theorem dX12_burns_32 : decode cX12_burns 32 = .ok (.iload_n 2, 1) := by decide +kernel
theorem dX12_burns_33 : decode cX12_burns 33 = .ok (.imul, 1) := by decide +kernel
theorem dX12_burns_34 : decode cX12_burns 34 = .ok (.iload_n 1, 1) := by decide +kernel
theorem dX12_burns_35 : decode cX12_burns 35 = .ok (.iadd, 1) := by decide +kernel
theorem dX12_burns_36 : decode cX12_burns 36 = .ok (.istore 4, 2) := by decide +kernel
theorem dX12_burns_38 : decode cX12_burns 38 = .ok (.iload_n 3, 1) := by decide +kernel
theorem dX12_burns_39 : decode cX12_burns 39 = .ok (.ifCond .ne 19, 3) := by decide +kernel
theorem dX12_burns_42 : decode cX12_burns 42 = .ok (.aload_n 0, 1) := by decide +kernel
theorem dX12_burns_43 : decode cX12_burns 43 = .ok (.getfield 104, 3) := by decide +kernel
theorem dX12_burns_46 : decode cX12_burns 46 = .ok (.iload 4, 2) := by decide +kernel
theorem dX12_burns_48 : decode cX12_burns 48 = .ok (.baload, 1) := by decide +kernel
theorem dX12_burns_49 : decode cX12_burns 49 = .ok (.ifCond .eq 7, 3) := by decide +kernel
theorem dX12_burns_52 : decode cX12_burns 52 = .ok (.iconst 1, 1) := by decide +kernel
theorem dX12_burns_53 : decode cX12_burns 53 = .ok (.goto 4, 3) := by decide +kernel
theorem dX12_burns_56 : decode cX12_burns 56 = .ok (.iconst 0, 1) := by decide +kernel
theorem dX12_burns_57 : decode cX12_burns 57 = .ok (.ireturn, 1) := by decide +kernel
theorem dX12_burns_58 : decode cX12_burns 58 = .ok (.iload_n 3, 1) := by decide +kernel
theorem dX12_burns_59 : decode cX12_burns 59 = .ok (.iconst 1, 1) := by decide +kernel
theorem dX12_burns_60 : decode cX12_burns 60 = .ok (.if_icmp .ne 11, 3) := by decide +kernel
theorem dX12_burns_63 : decode cX12_burns 63 = .ok (.aload_n 0, 1) := by decide +kernel
theorem dX12_burns_64 : decode cX12_burns 64 = .ok (.getfield 107, 3) := by decide +kernel
theorem dX12_burns_67 : decode cX12_burns 67 = .ok (.iload 4, 2) := by decide +kernel
theorem dX12_burns_69 : decode cX12_burns 69 = .ok (.iaload, 1) := by decide +kernel
theorem dX12_burns_70 : decode cX12_burns 70 = .ok (.ireturn, 1) := by decide +kernel
theorem dX12_burns_71 : decode cX12_burns 71 = .ok (.iload_n 3, 1) := by decide +kernel
theorem dX12_burns_72 : decode cX12_burns 72 = .ok (.iconst 3, 1) := by decide +kernel
theorem dX12_burns_73 : decode cX12_burns 73 = .ok (.if_icmp .ne 19, 3) := by decide +kernel
theorem dX12_burns_76 : decode cX12_burns 76 = .ok (.aload_n 0, 1) := by decide +kernel
theorem dX12_burns_77 : decode cX12_burns 77 = .ok (.getfield 110, 3) := by decide +kernel
theorem dX12_burns_80 : decode cX12_burns 80 = .ok (.iload 4, 2) := by decide +kernel
theorem dX12_burns_82 : decode cX12_burns 82 = .ok (.baload, 1) := by decide +kernel
theorem dX12_burns_83 : decode cX12_burns 83 = .ok (.ifCond .eq 7, 3) := by decide +kernel
theorem dX12_burns_86 : decode cX12_burns 86 = .ok (.iconst 1, 1) := by decide +kernel
theorem dX12_burns_87 : decode cX12_burns 87 = .ok (.goto 4, 3) := by decide +kernel
theorem dX12_burns_90 : decode cX12_burns 90 = .ok (.iconst 0, 1) := by decide +kernel
theorem dX12_burns_91 : decode cX12_burns 91 = .ok (.ireturn, 1) := by decide +kernel
theorem dX12_burns_92 : decode cX12_burns 92 = .ok (.iconst 0, 1) := by decide +kernel
theorem dX12_burns_93 : decode cX12_burns 93 = .ok (.istore 5, 2) := by decide +kernel
theorem dX12_burns_95 : decode cX12_burns 95 = .ok (.iconst 0, 1) := by decide +kernel
theorem dX12_burns_96 : decode cX12_burns 96 = .ok (.istore 6, 2) := by decide +kernel
theorem dX12_burns_98 : decode cX12_burns 98 = .ok (.iload 6, 2) := by decide +kernel
theorem dX12_burns_100 : decode cX12_burns 100 = .ok (.iload_n 2, 1) := by decide +kernel
theorem dX12_burns_101 : decode cX12_burns 101 = .ok (.if_icmp .gt 34, 3) := by decide +kernel
theorem dX12_burns_104 : decode cX12_burns 104 = .ok (.iload 5, 2) := by decide +kernel
theorem dX12_burns_106 : decode cX12_burns 106 = .ok (.aload_n 0, 1) := by decide +kernel
theorem dX12_burns_107 : decode cX12_burns 107 = .ok (.getfield 110, 3) := by decide +kernel
theorem dX12_burns_110 : decode cX12_burns 110 = .ok (.bipush 10, 2) := by decide +kernel
theorem dX12_burns_112 : decode cX12_burns 112 = .ok (.iload 6, 2) := by decide +kernel
theorem dX12_burns_114 : decode cX12_burns 114 = .ok (.imul, 1) := by decide +kernel
theorem dX12_burns_115 : decode cX12_burns 115 = .ok (.iload_n 1, 1) := by decide +kernel
theorem dX12_burns_116 : decode cX12_burns 116 = .ok (.iadd, 1) := by decide +kernel
theorem dX12_burns_117 : decode cX12_burns 117 = .ok (.baload, 1) := by decide +kernel
theorem dX12_burns_118 : decode cX12_burns 118 = .ok (.ifCond .eq 7, 3) := by decide +kernel
theorem dX12_burns_121 : decode cX12_burns 121 = .ok (.iconst 1, 1) := by decide +kernel
theorem dX12_burns_122 : decode cX12_burns 122 = .ok (.goto 4, 3) := by decide +kernel
theorem dX12_burns_125 : decode cX12_burns 125 = .ok (.iconst 0, 1) := by decide +kernel
theorem dX12_burns_126 : decode cX12_burns 126 = .ok (.iadd, 1) := by decide +kernel
theorem dX12_burns_127 : decode cX12_burns 127 = .ok (.istore 5, 2) := by decide +kernel
theorem dX12_burns_129 : decode cX12_burns 129 = .ok (.iinc 6 1, 3) := by decide +kernel
theorem dX12_burns_132 : decode cX12_burns 132 = .ok (.goto (-34), 3) := by decide +kernel
theorem dX12_burns_135 : decode cX12_burns 135 = .ok (.iload 5, 2) := by decide +kernel
theorem dX12_burns_137 : decode cX12_burns 137 = .ok (.ireturn, 1) := by decide +kernel
set_option maxRecDepth 20000 in
theorem T_X12_burns_98 {Q : Option Value → ah_T → Prop} {h : ah_T} (hs : Sh h) (x1 : Int32) (x2 : Int32) (x5 : Int32) (x6 : Int32) (ht : ((x2 < x6 → Q (some (.int x5)) h) ∧ (¬ x2 < x6 → (vp_in ((10 * x6) + x1) (ah_n h 111)) ∧ (((ah_i h 111 (Int32.toNatClampNeg ((10 * x6) + x1))) = 0 → Wp mX12_burns Q 0 0 98 [some (.ref 82), some (.int x1), some (.int x2), none, none, some (.int (x5 + 0)), some (.int (x6 + 1))] [] h) ∧ (¬ (ah_i h 111 (Int32.toNatClampNeg ((10 * x6) + x1))) = 0 → Wp mX12_burns Q 0 0 98 [some (.ref 82), some (.int x1), some (.int x2), none, none, some (.int (x5 + 1)), some (.int (x6 + 1))] [] h))))) : Wp mX12_burns Q 0 0 98 [some (.ref 82), some (.int x1), some (.int x2), none, none, some (.int x5), some (.int x6)] [] h := by
  refine ab_iload (i := 6) dX12_burns_98 rfl ?_
  refine ab_iload_n (i := 2) dX12_burns_100 rfl rfl ?_
  refine ab_icmp_gt (tgt := 135) dX12_burns_101 (by decide) (fun c15 => ?_) (fun c15 => ?_)
  · have ht := ht.1 c15
    refine ab_iload (i := 5) dX12_burns_135 rfl ?_
    exact ab_iret rfl dX12_burns_137 (Nat.le_of_ble_eq_true rfl) (Nat.le_of_ble_eq_true rfl) ht
  · have ht := ht.2 c15
    refine ab_iload (i := 5) dX12_burns_104 rfl ?_
    refine ab_aload_n (i := 0) dX12_burns_106 rfl rfl ?_
    refine ab_getR (b := 111) f_X12_110 rfl (sh_k hs 82 12 (by decide) rfl) (sh_r hs 127 rfl) dX12_burns_107 ?_
    refine ab_bipush (v := 10) dX12_burns_110 (by decide) ?_
    refine ab_iload (i := 6) dX12_burns_112 rfl ?_
    refine ab_imul dX12_burns_114 ?_
    refine ab_iload_n (i := 1) dX12_burns_115 rfl rfl ?_
    refine ab_iadd dX12_burns_116 ?_
    obtain ⟨hc16, ht⟩ := ht
    refine ab_zald (sh_k hs 111 16 (by decide) rfl) hc16 dX12_burns_117 ?_
    refine ab_if_eq (tgt := 125) dX12_burns_118 (by decide) (fun c17 => ?_) (fun c17 => ?_)
    · have ht := ht.1 c17
      refine ab_iconst (v := 0) dX12_burns_125 (by decide) ?_
      refine ab_iadd dX12_burns_126 ?_
      refine ab_istore (i := 5) (L' := [some (.ref 82), some (.int x1), some (.int x2), none, none, some (.int (x5 + 0)), some (.int x6)]) dX12_burns_127 (by exact (Nat.le_of_ble_eq_true rfl)) rfl rfl ?_
      refine ab_iinc (i := 6) (x := x6) (v := (x6 + 1)) (L' := [some (.ref 82), some (.int x1), some (.int x2), none, none, some (.int (x5 + 0)), some (.int (x6 + 1))]) dX12_burns_129 rfl rfl (by exact (Nat.le_of_ble_eq_true rfl)) rfl rfl ?_
      refine ab_goto (tgt := 98) dX12_burns_132 (by decide) ?_
      exact Wp.fewer (L' := [some (.ref 82), some (.int x1), some (.int x2), none, none, some (.int (x5 + 0)), some (.int (x6 + 1))]) (show ab_leL _ _ from ⟨rfl, ⟨rfl, ⟨rfl, ⟨rfl, ⟨rfl, trivial⟩⟩⟩⟩⟩) ht
    · have ht := ht.2 c17
      refine ab_iconst (v := 1) dX12_burns_121 (by decide) ?_
      refine ab_goto (tgt := 126) dX12_burns_122 (by decide) ?_
      refine ab_iadd dX12_burns_126 ?_
      refine ab_istore (i := 5) (L' := [some (.ref 82), some (.int x1), some (.int x2), none, none, some (.int (x5 + 1)), some (.int x6)]) dX12_burns_127 (by exact (Nat.le_of_ble_eq_true rfl)) rfl rfl ?_
      refine ab_iinc (i := 6) (x := x6) (v := (x6 + 1)) (L' := [some (.ref 82), some (.int x1), some (.int x2), none, none, some (.int (x5 + 1)), some (.int (x6 + 1))]) dX12_burns_129 rfl rfl (by exact (Nat.le_of_ble_eq_true rfl)) rfl rfl ?_
      refine ab_goto (tgt := 98) dX12_burns_132 (by decide) ?_
      exact Wp.fewer (L' := [some (.ref 82), some (.int x1), some (.int x2), none, none, some (.int (x5 + 1)), some (.int (x6 + 1))]) (show ab_leL _ _ from ⟨rfl, ⟨rfl, ⟨rfl, ⟨rfl, ⟨rfl, trivial⟩⟩⟩⟩⟩) ht
set_option maxRecDepth 20000 in
theorem T_X12_burns {Q : Option Value → ah_T → Prop} {h : ah_T} (hs : Sh h) (x1 : Int32) (x2 : Int32) (x3 : Int32) (ht : (((f_X12_isLamp h x1) = 0 → Q (some (.int (-1))) h) ∧ (¬ (f_X12_isLamp h x1) = 0 → (((f_X12_isMinute x2) = 0 → Q (some (.int (-1))) h) ∧ (¬ (f_X12_isMinute x2) = 0 → ((¬ (f_X12_lies x3 0 3) = 0 → (Mt mX12_laysNight [.ref 82] h (ab_qv fun h4 => Sh h4 ∧ ((¬ x3 = 0 → ((¬ x3 = 1 → ((¬ x3 = 3 → Wp mX12_burns Q 0 0 98 [some (.ref 82), some (.int x1), some (.int x2), none, none, some (.int 0), some (.int 0)] [] h4) ∧ (x3 = 3 → (vp_in ((10 * x2) + x1) (ah_n h4 111)) ∧ (((ah_i h4 111 (Int32.toNatClampNeg ((10 * x2) + x1))) = 0 → Q (some (.int 0)) h4) ∧ (¬ (ah_i h4 111 (Int32.toNatClampNeg ((10 * x2) + x1))) = 0 → Q (some (.int 1)) h4))))) ∧ (x3 = 1 → (vp_in ((10 * x2) + x1) (ah_n h4 110)) ∧ Q (some (.int (ah_i h4 110 (Int32.toNatClampNeg ((10 * x2) + x1))))) h4))) ∧ (x3 = 0 → (vp_in ((10 * x2) + x1) (ah_n h4 109)) ∧ (((ah_i h4 109 (Int32.toNatClampNeg ((10 * x2) + x1))) = 0 → Q (some (.int 0)) h4) ∧ (¬ (ah_i h4 109 (Int32.toNatClampNeg ((10 * x2) + x1))) = 0 → Q (some (.int 1)) h4))))))) ∧ ((f_X12_lies x3 0 3) = 0 → Q (some (.int (-1))) h))))))) : Mt mX12_burns [.ref 82, .int x1, .int x2, .int x3] h Q := by
  refine Mt.ofWp rfl (by exact (Nat.le_of_ble_eq_true rfl)) (Wp.fewer (L' := [some (.ref 82), some (.int x1), some (.int x2), some (.int x3), none, none, none]) (show ab_leL _ _ from ⟨rfl, ⟨rfl, ⟨rfl, ⟨rfl, trivial⟩⟩⟩⟩) ?_)
  refine ab_aload_n (i := 0) dX12_burns_0 rfl rfl ?_
  refine ab_iload_n (i := 1) dX12_burns_1 rfl rfl ?_
  refine ab_callV (b := 82) (Q' := fun r h' => r = some (.int (f_X12_isLamp h x1)) ∧ h = h') (As := [.int x1]) (c_X12_isLamp hs x1 ⟨rfl, rfl⟩) (Y_X12_isLamp) l_X12_198 in_X12_isLamp se_X12_isLamp (sh_k hs 82 12 (by decide) rfl) (by decide) rfl rfl ⟨(Nat.le_of_ble_eq_true rfl), (Nat.le_of_ble_eq_true rfl), (Nat.le_of_ble_eq_true rfl), (Nat.le_of_ble_eq_true rfl)⟩ dX12_burns_2 ?_
  rintro _ _ ⟨rfl, rfl⟩
  refine ab_if_eq (tgt := 24) dX12_burns_5 (by decide) (fun c1 => ?_) (fun c1 => ?_)
  · have ht := ht.1 c1
    refine ab_iconst (v := (-1)) dX12_burns_24 (by decide) ?_
    exact ab_iret rfl dX12_burns_25 (Nat.le_of_ble_eq_true rfl) (Nat.le_of_ble_eq_true rfl) ht
  · have ht := ht.2 c1
    refine ab_iload_n (i := 2) dX12_burns_8 rfl rfl ?_
    refine ab_callS (Q' := fun r h' => r = some (.int (f_X12_isMinute x2)) ∧ h = h') (As := [.int x2]) (c_X12_isMinute hs x2 ⟨rfl, rfl⟩) (Y_X12_isMinute) l_X12_201 st_X12_isMinute rfl ⟨(Nat.le_of_ble_eq_true rfl), (Nat.le_of_ble_eq_true rfl), (Nat.le_of_ble_eq_true rfl), (Nat.le_of_ble_eq_true rfl)⟩ dX12_burns_9 ?_
    rintro _ _ ⟨rfl, rfl⟩
    refine ab_if_eq (tgt := 24) dX12_burns_12 (by decide) (fun c2 => ?_) (fun c2 => ?_)
    · have ht := ht.1 c2
      refine ab_iconst (v := (-1)) dX12_burns_24 (by decide) ?_
      exact ab_iret rfl dX12_burns_25 (Nat.le_of_ble_eq_true rfl) (Nat.le_of_ble_eq_true rfl) ht
    · have ht := ht.2 c2
      refine ab_iload_n (i := 3) dX12_burns_15 rfl rfl ?_
      refine ab_iconst (v := 0) dX12_burns_16 (by decide) ?_
      refine ab_iconst (v := 3) dX12_burns_17 (by decide) ?_
      refine ab_callS (Q' := fun r h' => r = some (.int (f_X12_lies x3 0 3)) ∧ h = h') (As := [.int x3, .int 0, .int 3]) (c_X12_lies hs x3 0 3 ⟨rfl, rfl⟩) (Y_X12_lies) l_X12_156 st_X12_lies rfl ⟨(Nat.le_of_ble_eq_true rfl), (Nat.le_of_ble_eq_true rfl), (Nat.le_of_ble_eq_true rfl), (Nat.le_of_ble_eq_true rfl)⟩ dX12_burns_18 ?_
      rintro _ _ ⟨rfl, rfl⟩
      refine ab_if_ne (tgt := 26) dX12_burns_21 (by decide) (fun c3 => ?_) (fun c3 => ?_)
      · have ht := ht.1 c3
        refine ab_aload_n (i := 0) dX12_burns_26 rfl rfl ?_
        refine ab_callV (b := 82) (As := []) ht (Y_X12_laysNight) l_X12_430 in_X12_laysNight se_X12_laysNight (sh_k hs 82 12 (by decide) rfl) (by decide) rfl rfl ⟨(Nat.le_of_ble_eq_true rfl), (Nat.le_of_ble_eq_true rfl), (Nat.le_of_ble_eq_true rfl), (Nat.le_of_ble_eq_true rfl)⟩ dX12_burns_27 ?_
        rintro _ h4 ⟨rfl, hs5, ht⟩
        refine ab_bipush (v := 10) dX12_burns_30 (by decide) ?_
        refine ab_iload_n (i := 2) dX12_burns_32 rfl rfl ?_
        refine ab_imul dX12_burns_33 ?_
        refine ab_iload_n (i := 1) dX12_burns_34 rfl rfl ?_
        refine ab_iadd dX12_burns_35 ?_
        refine ab_istore (i := 4) (L' := [some (.ref 82), some (.int x1), some (.int x2), some (.int x3), some (.int ((10 * x2) + x1)), none, none]) dX12_burns_36 (by exact (Nat.le_of_ble_eq_true rfl)) rfl rfl ?_
        refine ab_iload_n (i := 3) dX12_burns_38 rfl rfl ?_
        refine ab_if_ne (tgt := 58) dX12_burns_39 (by decide) (fun c7 => ?_) (fun c7 => ?_)
        · have ht := ht.1 c7
          refine ab_iload_n (i := 3) dX12_burns_58 rfl rfl ?_
          refine ab_iconst (v := 1) dX12_burns_59 (by decide) ?_
          refine ab_icmp_ne (tgt := 71) dX12_burns_60 (by decide) (fun c8 => ?_) (fun c8 => ?_)
          · have ht := ht.1 c8
            refine ab_iload_n (i := 3) dX12_burns_71 rfl rfl ?_
            refine ab_iconst (v := 3) dX12_burns_72 (by decide) ?_
            refine ab_icmp_ne (tgt := 92) dX12_burns_73 (by decide) (fun c9 => ?_) (fun c9 => ?_)
            · have ht := ht.1 c9
              refine ab_iconst (v := 0) dX12_burns_92 (by decide) ?_
              refine ab_istore (i := 5) (L' := [some (.ref 82), some (.int x1), some (.int x2), some (.int x3), some (.int ((10 * x2) + x1)), some (.int 0), none]) dX12_burns_93 (by exact (Nat.le_of_ble_eq_true rfl)) rfl rfl ?_
              refine ab_iconst (v := 0) dX12_burns_95 (by decide) ?_
              refine ab_istore (i := 6) (L' := [some (.ref 82), some (.int x1), some (.int x2), some (.int x3), some (.int ((10 * x2) + x1)), some (.int 0), some (.int 0)]) dX12_burns_96 (by exact (Nat.le_of_ble_eq_true rfl)) rfl rfl ?_
              exact Wp.fewer (L' := [some (.ref 82), some (.int x1), some (.int x2), none, none, some (.int 0), some (.int 0)]) (show ab_leL _ _ from ⟨rfl, ⟨rfl, ⟨rfl, ⟨rfl, ⟨rfl, trivial⟩⟩⟩⟩⟩) ht
            · have ht := ht.2 c9
              refine ab_aload_n (i := 0) dX12_burns_76 rfl rfl ?_
              refine ab_getR (b := 111) f_X12_110 rfl (sh_k hs5 82 12 (by decide) rfl) (sh_r hs5 127 rfl) dX12_burns_77 ?_
              refine ab_iload (i := 4) dX12_burns_80 rfl ?_
              obtain ⟨hc10, ht⟩ := ht
              refine ab_zald (sh_k hs5 111 16 (by decide) rfl) hc10 dX12_burns_82 ?_
              refine ab_if_eq (tgt := 90) dX12_burns_83 (by decide) (fun c11 => ?_) (fun c11 => ?_)
              · have ht := ht.1 c11
                refine ab_iconst (v := 0) dX12_burns_90 (by decide) ?_
                exact ab_iret rfl dX12_burns_91 (Nat.le_of_ble_eq_true rfl) (Nat.le_of_ble_eq_true rfl) ht
              · have ht := ht.2 c11
                refine ab_iconst (v := 1) dX12_burns_86 (by decide) ?_
                refine ab_goto (tgt := 91) dX12_burns_87 (by decide) ?_
                exact ab_iret rfl dX12_burns_91 (Nat.le_of_ble_eq_true rfl) (Nat.le_of_ble_eq_true rfl) ht
          · have ht := ht.2 c8
            refine ab_aload_n (i := 0) dX12_burns_63 rfl rfl ?_
            refine ab_getR (b := 110) f_X12_107 rfl (sh_k hs5 82 12 (by decide) rfl) (sh_r hs5 126 rfl) dX12_burns_64 ?_
            refine ab_iload (i := 4) dX12_burns_67 rfl ?_
            obtain ⟨hc12, ht⟩ := ht
            refine ab_iald (sh_k hs5 110 14 (by decide) rfl) hc12 dX12_burns_69 ?_
            exact ab_iret rfl dX12_burns_70 (Nat.le_of_ble_eq_true rfl) (Nat.le_of_ble_eq_true rfl) ht
        · have ht := ht.2 c7
          refine ab_aload_n (i := 0) dX12_burns_42 rfl rfl ?_
          refine ab_getR (b := 109) f_X12_104 rfl (sh_k hs5 82 12 (by decide) rfl) (sh_r hs5 125 rfl) dX12_burns_43 ?_
          refine ab_iload (i := 4) dX12_burns_46 rfl ?_
          obtain ⟨hc13, ht⟩ := ht
          refine ab_zald (sh_k hs5 109 16 (by decide) rfl) hc13 dX12_burns_48 ?_
          refine ab_if_eq (tgt := 56) dX12_burns_49 (by decide) (fun c14 => ?_) (fun c14 => ?_)
          · have ht := ht.1 c14
            refine ab_iconst (v := 0) dX12_burns_56 (by decide) ?_
            exact ab_iret rfl dX12_burns_57 (Nat.le_of_ble_eq_true rfl) (Nat.le_of_ble_eq_true rfl) ht
          · have ht := ht.2 c14
            refine ab_iconst (v := 1) dX12_burns_52 (by decide) ?_
            refine ab_goto (tgt := 57) dX12_burns_53 (by decide) ?_
            exact ab_iret rfl dX12_burns_57 (Nat.le_of_ble_eq_true rfl) (Nat.le_of_ble_eq_true rfl) ht
      · have ht := ht.2 c3
        refine ab_iconst (v := (-1)) dX12_burns_24 (by decide) ?_
        exact ab_iret rfl dX12_burns_25 (Nat.le_of_ble_eq_true rfl) (Nat.le_of_ble_eq_true rfl) ht
theorem dX12_bright_0 : decode cX12_bright 0 = .ok (.iload_n 1, 1) := by decide +kernel
theorem dX12_bright_1 : decode cX12_bright 1 = .ok (.invokestatic 201, 3) := by decide +kernel
theorem dX12_bright_4 : decode cX12_bright 4 = .ok (.ifCond .ne 5, 3) := by decide +kernel
theorem dX12_bright_7 : decode cX12_bright 7 = .ok (.iconst (-1), 1) := by decide +kernel
theorem dX12_bright_8 : decode cX12_bright 8 = .ok (.ireturn, 1) := by decide +kernel
theorem dX12_bright_9 : decode cX12_bright 9 = .ok (.aload_n 0, 1) := by decide +kernel
theorem dX12_bright_10 : decode cX12_bright 10 = .ok (.invokevirtual 430, 3) := by decide +kernel
theorem dX12_bright_13 : decode cX12_bright 13 = .ok (.aload_n 0, 1) := by decide +kernel
theorem dX12_bright_14 : decode cX12_bright 14 = .ok (.iload_n 1, 1) := by decide +kernel
theorem dX12_bright_15 : decode cX12_bright 15 = .ok (.invokevirtual 433, 3) := by decide +kernel
theorem dX12_bright_18 : decode cX12_bright 18 = .ok (.ireturn, 1) := by decide +kernel
set_option maxRecDepth 20000 in
theorem T_X12_bright {Q : Option Value → ah_T → Prop} {h : ah_T} (hs : Sh h) (x1 : Int32) (ht : ((¬ (f_X12_isMinute x1) = 0 → (Mt mX12_laysNight [.ref 82] h (ab_qv fun h2 => Sh h2 ∧ (Mt mX12_brightIn [.ref 82, .int x1] h2 (ab_qi fun v7 h5 => Sh h5 ∧ Q (some (.int v7)) h5))))) ∧ ((f_X12_isMinute x1) = 0 → Q (some (.int (-1))) h))) : Mt mX12_bright [.ref 82, .int x1] h Q := by
  refine Mt.ofWp rfl (by exact (Nat.le_of_ble_eq_true rfl)) (Wp.fewer (L' := [some (.ref 82), some (.int x1)]) (show ab_leL _ _ from ⟨rfl, ⟨rfl, trivial⟩⟩) ?_)
  refine ab_iload_n (i := 1) dX12_bright_0 rfl rfl ?_
  refine ab_callS (Q' := fun r h' => r = some (.int (f_X12_isMinute x1)) ∧ h = h') (As := [.int x1]) (c_X12_isMinute hs x1 ⟨rfl, rfl⟩) (Y_X12_isMinute) l_X12_201 st_X12_isMinute rfl ⟨(Nat.le_of_ble_eq_true rfl), (Nat.le_of_ble_eq_true rfl), (Nat.le_of_ble_eq_true rfl), (Nat.le_of_ble_eq_true rfl)⟩ dX12_bright_1 ?_
  rintro _ _ ⟨rfl, rfl⟩
  refine ab_if_ne (tgt := 9) dX12_bright_4 (by decide) (fun c1 => ?_) (fun c1 => ?_)
  · have ht := ht.1 c1
    refine ab_aload_n (i := 0) dX12_bright_9 rfl rfl ?_
    refine ab_callV (b := 82) (As := []) ht (Y_X12_laysNight) l_X12_430 in_X12_laysNight se_X12_laysNight (sh_k hs 82 12 (by decide) rfl) (by decide) rfl rfl ⟨(Nat.le_of_ble_eq_true rfl), (Nat.le_of_ble_eq_true rfl), (Nat.le_of_ble_eq_true rfl), (Nat.le_of_ble_eq_true rfl)⟩ dX12_bright_10 ?_
    rintro _ h2 ⟨rfl, hs3, ht⟩
    refine ab_aload_n (i := 0) dX12_bright_13 rfl rfl ?_
    refine ab_iload_n (i := 1) dX12_bright_14 rfl rfl ?_
    refine ab_callV (b := 82) (As := [.int x1]) ht (Y_X12_brightIn) l_X12_433 in_X12_brightIn se_X12_brightIn (sh_k hs3 82 12 (by decide) rfl) (by decide) rfl rfl ⟨(Nat.le_of_ble_eq_true rfl), (Nat.le_of_ble_eq_true rfl), (Nat.le_of_ble_eq_true rfl), (Nat.le_of_ble_eq_true rfl)⟩ dX12_bright_15 ?_
    rintro _ h5 ⟨v7, rfl, hs6, ht⟩
    exact ab_iret rfl dX12_bright_18 (Nat.le_of_ble_eq_true rfl) (Nat.le_of_ble_eq_true rfl) ht
  · have ht := ht.2 c1
    refine ab_iconst (v := (-1)) dX12_bright_7 (by decide) ?_
    exact ab_iret rfl dX12_bright_8 (Nat.le_of_ble_eq_true rfl) (Nat.le_of_ble_eq_true rfl) ht
theorem dX12_night_0 : decode cX12_night 0 = .ok (.iload_n 1, 1) := by decide +kernel
theorem dX12_night_1 : decode cX12_night 1 = .ok (.iconst (-1), 1) := by decide +kernel
theorem dX12_night_2 : decode cX12_night 2 = .ok (.if_icmp .eq 11, 3) := by decide +kernel
theorem dX12_night_5 : decode cX12_night 5 = .ok (.aload_n 0, 1) := by decide +kernel
theorem dX12_night_6 : decode cX12_night 6 = .ok (.iload_n 1, 1) := by decide +kernel
theorem dX12_night_7 : decode cX12_night 7 = .ok (.invokevirtual 198, 3) := by decide +kernel
theorem dX12_night_10 : decode cX12_night 10 = .ok (.ifCond .eq 12, 3) := by decide +kernel
theorem dX12_night_13 : decode cX12_night 13 = .ok (.iload_n 2, 1) := by decide +kernel
theorem dX12_night_14 : decode cX12_night 14 = .ok (.iconst 0, 1) := by decide +kernel
theorem dX12_night_15 : decode cX12_night 15 = .ok (.iconst 2, 1) := by decide +kernel
theorem dX12_night_16 : decode cX12_night 16 = .ok (.invokestatic 156, 3) := by decide +kernel
theorem dX12_night_19 : decode cX12_night 19 = .ok (.ifCond .ne 5, 3) := by decide +kernel
theorem dX12_night_22 : decode cX12_night 22 = .ok (.iconst (-1), 1) := by decide +kernel
theorem dX12_night_23 : decode cX12_night 23 = .ok (.ireturn, 1) := by decide +kernel
theorem dX12_night_24 : decode cX12_night 24 = .ok (.aload_n 0, 1) := by decide +kernel
theorem dX12_night_25 : decode cX12_night 25 = .ok (.invokevirtual 430, 3) := by decide +kernel
theorem dX12_night_28 : decode cX12_night 28 = .ok (.iconst 0, 1) := by decide +kernel
theorem dX12_night_29 : decode cX12_night 29 = .ok (.istore_n 3, 1) := by decide +kernel
theorem dX12_night_30 : decode cX12_night 30 = .ok (.iconst 0, 1) := by decide +kernel
theorem dX12_night_31 : decode cX12_night 31 = .ok (.istore 4, 2) := by decide +kernel
theorem dX12_night_33 : decode cX12_night 33 = .ok (.iconst (-1), 1) := by decide +kernel
theorem dX12_night_34 : decode cX12_night 34 = .ok (.istore 5, 2) := by decide +kernel
theorem dX12_night_36 : decode cX12_night 36 = .ok (.iconst 0, 1) := by decide +kernel
theorem dX12_night_37 : decode cX12_night 37 = .ok (.istore 6, 2) := by decide +kernel
theorem dX12_night_39 : decode cX12_night 39 = .ok (.iload 6, 2) := by decide +kernel
theorem dX12_night_41 : decode cX12_night 41 = .ok (.bipush 120, 2) := by decide +kernel
theorem dX12_night_43 : decode cX12_night 43 = .ok (.if_icmp .ge 102, 3) := by decide +kernel
theorem dX12_night_46 : decode cX12_night 46 = .ok (.iconst 0, 1) := by decide +kernel
theorem dX12_night_47 : decode cX12_night 47 = .ok (.istore 7, 2) := by decide +kernel
theorem dX12_night_49 : decode cX12_night 49 = .ok (.iload 7, 2) := by decide +kernel
theorem dX12_night_51 : decode cX12_night 51 = .ok (.aload_n 0, 1) := by decide +kernel
theorem dX12_night_52 : decode cX12_night 52 = .ok (.getfield 378, 3) := by decide +kernel
theorem dX12_night_55 : decode cX12_night 55 = .ok (.if_icmp .ge 84, 3) := by decide +kernel
theorem dX12_night_58 : decode cX12_night 58 = .ok (.iload_n 1, 1) := by decide +kernel
theorem dX12_night_59 : decode cX12_night 59 = .ok (.iconst (-1), 1) := by decide +kernel
theorem dX12_night_60 : decode cX12_night 60 = .ok (.if_icmp .eq 12, 3) := by decide +kernel
theorem dX12_night_63 : decode cX12_night 63 = .ok (.iload 7, 2) := by decide +kernel
theorem dX12_night_65 : decode cX12_night 65 = .ok (.iload_n 1, 1) := by decide +kernel
theorem dX12_night_66 : decode cX12_night 66 = .ok (.if_icmp .eq 6, 3) := by decide +kernel
theorem dX12_night_69 : decode cX12_night 69 = .ok (.goto 64, 3) := by decide +kernel
theorem dX12_night_72 : decode cX12_night 72 = .ok (.iload_n 3, 1) := by decide +kernel
theorem dX12_night_73 : decode cX12_night 73 = .ok (.aload_n 0, 1) := by decide +kernel
theorem dX12_night_74 : decode cX12_night 74 = .ok (.getfield 104, 3) := by decide +kernel
theorem dX12_night_77 : decode cX12_night 77 = .ok (.bipush 10, 2) := by decide +kernel
theorem dX12_night_79 : decode cX12_night 79 = .ok (.iload 6, 2) := by decide +kernel
theorem dX12_night_81 : decode cX12_night 81 = .ok (.imul, 1) := by decide +kernel
theorem dX12_night_82 : decode cX12_night 82 = .ok (.iload 7, 2) := by decide +kernel
theorem dX12_night_84 : decode cX12_night 84 = .ok (.iadd, 1) := by decide +kernel
theorem dX12_night_85 : decode cX12_night 85 = .ok (.baload, 1) := by decide +kernel
theorem dX12_night_86 : decode cX12_night 86 = .ok (.ifCond .eq 7, 3) := by decide +kernel
theorem dX12_night_89 : decode cX12_night 89 = .ok (.iconst 1, 1) := by decide +kernel
theorem dX12_night_90 : decode cX12_night 90 = .ok (.goto 4, 3) := by decide +kernel
theorem dX12_night_93 : decode cX12_night 93 = .ok (.iconst 0, 1) := by decide +kernel
theorem dX12_night_94 : decode cX12_night 94 = .ok (.iadd, 1) := by decide +kernel
theorem dX12_night_95 : decode cX12_night 95 = .ok (.istore_n 3, 1) := by decide +kernel
theorem dX12_night_96 : decode cX12_night 96 = .ok (.aload_n 0, 1) := by decide +kernel
theorem dX12_night_97 : decode cX12_night 97 = .ok (.getfield 110, 3) := by decide +kernel
theorem dX12_night_100 : decode cX12_night 100 = .ok (.bipush 10, 2) := by decide +kernel
theorem dX12_night_102 : decode cX12_night 102 = .ok (.iload 6, 2) := by decide +kernel
theorem dX12_night_104 : decode cX12_night 104 = .ok (.imul, 1) := by decide +kernel
theorem dX12_night_105 : decode cX12_night 105 = .ok (.iload 7, 2) := by decide +kernel
theorem dX12_night_107 : decode cX12_night 107 = .ok (.iadd, 1) := by decide +kernel
theorem dX12_night_108 : decode cX12_night 108 = .ok (.baload, 1) := by decide +kernel
theorem dX12_night_109 : decode cX12_night 109 = .ok (.ifCond .ne 6, 3) := by decide +kernel
theorem dX12_night_112 : decode cX12_night 112 = .ok (.goto 21, 3) := by decide +kernel
theorem dX12_night_115 : decode cX12_night 115 = .ok (.iinc 4 1, 3) := by decide +kernel
theorem dX12_night_118 : decode cX12_night 118 = .ok (.iload 5, 2) := by decide +kernel
theorem dX12_night_120 : decode cX12_night 120 = .ok (.iconst (-1), 1) := by decide +kernel
theorem dX12_night_121 : decode cX12_night 121 = .ok (.if_icmp .ne 8, 3) := by decide +kernel
theorem dX12_night_124 : decode cX12_night 124 = .ok (.iload 6, 2) := by decide +kernel
theorem dX12_night_126 : decode cX12_night 126 = .ok (.goto 5, 3) := by decide +kernel
theorem dX12_night_129 : decode cX12_night 129 = .ok (.iload 5, 2) := by decide +kernel
theorem dX12_night_131 : decode cX12_night 131 = .ok (.istore 5, 2) := by decide +kernel
theorem dX12_night_133 : decode cX12_night 133 = .ok (.iinc 7 1, 3) := by decide +kernel
theorem dX12_night_136 : decode cX12_night 136 = .ok (.goto (-87), 3) := by decide +kernel
theorem dX12_night_139 : decode cX12_night 139 = .ok (.iinc 6 1, 3) := by decide +kernel
theorem dX12_night_142 : decode cX12_night 142 = .ok (.goto (-103), 3) := by decide +kernel
theorem dX12_night_145 : decode cX12_night 145 = .ok (.iload_n 2, 1) := by decide +kernel
theorem dX12_night_146 : decode cX12_night 146 = .ok (.ifCond .ne 7, 3) := by decide +kernel
theorem dX12_night_149 : decode cX12_night 149 = .ok (.iload_n 3, 1) := by decide +kernel
theorem dX12_night_150 : decode cX12_night 150 = .ok (.goto 15, 3) := by decide +kernel
theorem dX12_night_153 : decode cX12_night 153 = .ok (.iload_n 2, 1) := by decide +kernel
theorem dX12_night_154 : decode cX12_night 154 = .ok (.iconst 1, 1) := by decide +kernel
theorem dX12_night_155 : decode cX12_night 155 = .ok (.if_icmp .ne 8, 3) := by decide +kernel
theorem dX12_night_158 : decode cX12_night 158 = .ok (.iload 4, 2) := by decide +kernel
theorem dX12_night_160 : decode cX12_night 160 = .ok (.goto 5, 3) := by decide +kernel
theorem dX12_night_163 : decode cX12_night 163 = .ok (.iload 5, 2) := by decide +kernel
theorem dX12_night_165 : decode cX12_night 165 = .ok (.ireturn, 1) := by decide +kernel
set_option maxRecDepth 20000 in
theorem T_X12_night_39 {Q : Option Value → ah_T → Prop} {h : ah_T} (hs : Sh h) (x1 : Int32) (x2 : Int32) (x3 : Int32) (x4 : Int32) (x5 : Int32) (x6 : Int32) (ht : ((120 ≤ x6 → ((¬ x2 = 0 → ((¬ x2 = 1 → Q (some (.int x5)) h) ∧ (x2 = 1 → Q (some (.int x4)) h))) ∧ (x2 = 0 → Q (some (.int x3)) h))) ∧ (¬ 120 ≤ x6 → Wp mX12_night Q 0 0 49 [some (.ref 82), some (.int x1), some (.int x2), some (.int x3), some (.int x4), some (.int x5), some (.int x6), some (.int 0)] [] h))) : Wp mX12_night Q 0 0 39 [some (.ref 82), some (.int x1), some (.int x2), some (.int x3), some (.int x4), some (.int x5), some (.int x6), none] [] h := by
  refine ab_iload (i := 6) dX12_night_39 rfl ?_
  refine ab_bipush (v := 120) dX12_night_41 (by decide) ?_
  refine ab_icmp_ge (tgt := 145) dX12_night_43 (by decide) (fun c11 => ?_) (fun c11 => ?_)
  · have ht := ht.1 c11
    refine ab_iload_n (i := 2) dX12_night_145 rfl rfl ?_
    refine ab_if_ne (tgt := 153) dX12_night_146 (by decide) (fun c12 => ?_) (fun c12 => ?_)
    · have ht := ht.1 c12
      refine ab_iload_n (i := 2) dX12_night_153 rfl rfl ?_
      refine ab_iconst (v := 1) dX12_night_154 (by decide) ?_
      refine ab_icmp_ne (tgt := 163) dX12_night_155 (by decide) (fun c13 => ?_) (fun c13 => ?_)
      · have ht := ht.1 c13
        refine ab_iload (i := 5) dX12_night_163 rfl ?_
        exact ab_iret rfl dX12_night_165 (Nat.le_of_ble_eq_true rfl) (Nat.le_of_ble_eq_true rfl) ht
      · have ht := ht.2 c13
        refine ab_iload (i := 4) dX12_night_158 rfl ?_
        refine ab_goto (tgt := 165) dX12_night_160 (by decide) ?_
        exact ab_iret rfl dX12_night_165 (Nat.le_of_ble_eq_true rfl) (Nat.le_of_ble_eq_true rfl) ht
    · have ht := ht.2 c12
      refine ab_iload_n (i := 3) dX12_night_149 rfl rfl ?_
      refine ab_goto (tgt := 165) dX12_night_150 (by decide) ?_
      exact ab_iret rfl dX12_night_165 (Nat.le_of_ble_eq_true rfl) (Nat.le_of_ble_eq_true rfl) ht
  · have ht := ht.2 c11
    refine ab_iconst (v := 0) dX12_night_46 (by decide) ?_
    refine ab_istore (i := 7) (L' := [some (.ref 82), some (.int x1), some (.int x2), some (.int x3), some (.int x4), some (.int x5), some (.int x6), some (.int 0)]) dX12_night_47 (by exact (Nat.le_of_ble_eq_true rfl)) rfl rfl ?_
    exact Wp.fewer (L' := [some (.ref 82), some (.int x1), some (.int x2), some (.int x3), some (.int x4), some (.int x5), some (.int x6), some (.int 0)]) (show ab_leL _ _ from ⟨rfl, ⟨rfl, ⟨rfl, ⟨rfl, ⟨rfl, ⟨rfl, ⟨rfl, ⟨rfl, trivial⟩⟩⟩⟩⟩⟩⟩⟩) ht
set_option maxRecDepth 20000 in
theorem T_X12_night_49 {Q : Option Value → ah_T → Prop} {h : ah_T} (hs : Sh h) (x1 : Int32) (x2 : Int32) (x3 : Int32) (x4 : Int32) (x5 : Int32) (x6 : Int32) (x7 : Int32) (ht : (((ah_i h 82 41) ≤ x7 → Wp mX12_night Q 0 0 39 [some (.ref 82), some (.int x1), some (.int x2), some (.int x3), some (.int x4), some (.int x5), some (.int (x6 + 1)), none] [] h) ∧ (¬ (ah_i h 82 41) ≤ x7 → ((x1 = (-1) → (vp_in ((10 * x6) + x7) (ah_n h 109)) ∧ (((ah_i h 109 (Int32.toNatClampNeg ((10 * x6) + x7))) = 0 → (vp_in ((10 * x6) + x7) (ah_n h 111)) ∧ ((¬ (ah_i h 111 (Int32.toNatClampNeg ((10 * x6) + x7))) = 0 → ((¬ x5 = (-1) → Wp mX12_night Q 0 0 49 [some (.ref 82), some (.int x1), some (.int x2), some (.int (x3 + 0)), some (.int (x4 + 1)), some (.int x5), some (.int x6), some (.int (x7 + 1))] [] h) ∧ (x5 = (-1) → Wp mX12_night Q 0 0 49 [some (.ref 82), some (.int x1), some (.int x2), some (.int (x3 + 0)), some (.int (x4 + 1)), some (.int x6), some (.int x6), some (.int (x7 + 1))] [] h))) ∧ ((ah_i h 111 (Int32.toNatClampNeg ((10 * x6) + x7))) = 0 → Wp mX12_night Q 0 0 49 [some (.ref 82), some (.int x1), some (.int x2), some (.int (x3 + 0)), some (.int x4), some (.int x5), some (.int x6), some (.int (x7 + 1))] [] h))) ∧ (¬ (ah_i h 109 (Int32.toNatClampNeg ((10 * x6) + x7))) = 0 → (vp_in ((10 * x6) + x7) (ah_n h 111)) ∧ ((¬ (ah_i h 111 (Int32.toNatClampNeg ((10 * x6) + x7))) = 0 → ((¬ x5 = (-1) → Wp mX12_night Q 0 0 49 [some (.ref 82), some (.int x1), some (.int x2), some (.int (x3 + 1)), some (.int (x4 + 1)), some (.int x5), some (.int x6), some (.int (x7 + 1))] [] h) ∧ (x5 = (-1) → Wp mX12_night Q 0 0 49 [some (.ref 82), some (.int x1), some (.int x2), some (.int (x3 + 1)), some (.int (x4 + 1)), some (.int x6), some (.int x6), some (.int (x7 + 1))] [] h))) ∧ ((ah_i h 111 (Int32.toNatClampNeg ((10 * x6) + x7))) = 0 → Wp mX12_night Q 0 0 49 [some (.ref 82), some (.int x1), some (.int x2), some (.int (x3 + 1)), some (.int x4), some (.int x5), some (.int x6), some (.int (x7 + 1))] [] h))))) ∧ (¬ x1 = (-1) → ((x7 = x1 → (vp_in ((10 * x6) + x7) (ah_n h 109)) ∧ (((ah_i h 109 (Int32.toNatClampNeg ((10 * x6) + x7))) = 0 → (vp_in ((10 * x6) + x7) (ah_n h 111)) ∧ ((¬ (ah_i h 111 (Int32.toNatClampNeg ((10 * x6) + x7))) = 0 → ((¬ x5 = (-1) → Wp mX12_night Q 0 0 49 [some (.ref 82), some (.int x1), some (.int x2), some (.int (x3 + 0)), some (.int (x4 + 1)), some (.int x5), some (.int x6), some (.int (x7 + 1))] [] h) ∧ (x5 = (-1) → Wp mX12_night Q 0 0 49 [some (.ref 82), some (.int x1), some (.int x2), some (.int (x3 + 0)), some (.int (x4 + 1)), some (.int x6), some (.int x6), some (.int (x7 + 1))] [] h))) ∧ ((ah_i h 111 (Int32.toNatClampNeg ((10 * x6) + x7))) = 0 → Wp mX12_night Q 0 0 49 [some (.ref 82), some (.int x1), some (.int x2), some (.int (x3 + 0)), some (.int x4), some (.int x5), some (.int x6), some (.int (x7 + 1))] [] h))) ∧ (¬ (ah_i h 109 (Int32.toNatClampNeg ((10 * x6) + x7))) = 0 → (vp_in ((10 * x6) + x7) (ah_n h 111)) ∧ ((¬ (ah_i h 111 (Int32.toNatClampNeg ((10 * x6) + x7))) = 0 → ((¬ x5 = (-1) → Wp mX12_night Q 0 0 49 [some (.ref 82), some (.int x1), some (.int x2), some (.int (x3 + 1)), some (.int (x4 + 1)), some (.int x5), some (.int x6), some (.int (x7 + 1))] [] h) ∧ (x5 = (-1) → Wp mX12_night Q 0 0 49 [some (.ref 82), some (.int x1), some (.int x2), some (.int (x3 + 1)), some (.int (x4 + 1)), some (.int x6), some (.int x6), some (.int (x7 + 1))] [] h))) ∧ ((ah_i h 111 (Int32.toNatClampNeg ((10 * x6) + x7))) = 0 → Wp mX12_night Q 0 0 49 [some (.ref 82), some (.int x1), some (.int x2), some (.int (x3 + 1)), some (.int x4), some (.int x5), some (.int x6), some (.int (x7 + 1))] [] h))))) ∧ (¬ x7 = x1 → Wp mX12_night Q 0 0 49 [some (.ref 82), some (.int x1), some (.int x2), some (.int x3), some (.int x4), some (.int x5), some (.int x6), some (.int (x7 + 1))] [] h))))))) : Wp mX12_night Q 0 0 49 [some (.ref 82), some (.int x1), some (.int x2), some (.int x3), some (.int x4), some (.int x5), some (.int x6), some (.int x7)] [] h := by
  refine ab_iload (i := 7) dX12_night_49 rfl ?_
  refine ab_aload_n (i := 0) dX12_night_51 rfl rfl ?_
  refine ab_getI f_X12_378 rfl (sh_k hs 82 12 (by decide) rfl) dX12_night_52 ?_
  refine ab_icmp_ge (tgt := 139) dX12_night_55 (by decide) (fun c14 => ?_) (fun c14 => ?_)
  · have ht := ht.1 c14
    refine ab_iinc (i := 6) (x := x6) (v := (x6 + 1)) (L' := [some (.ref 82), some (.int x1), some (.int x2), some (.int x3), some (.int x4), some (.int x5), some (.int (x6 + 1)), some (.int x7)]) dX12_night_139 rfl rfl (by exact (Nat.le_of_ble_eq_true rfl)) rfl rfl ?_
    refine ab_goto (tgt := 39) dX12_night_142 (by decide) ?_
    exact Wp.fewer (L' := [some (.ref 82), some (.int x1), some (.int x2), some (.int x3), some (.int x4), some (.int x5), some (.int (x6 + 1)), none]) (show ab_leL _ _ from ⟨rfl, ⟨rfl, ⟨rfl, ⟨rfl, ⟨rfl, ⟨rfl, ⟨rfl, trivial⟩⟩⟩⟩⟩⟩⟩) ht
  · have ht := ht.2 c14
    refine ab_iload_n (i := 1) dX12_night_58 rfl rfl ?_
    refine ab_iconst (v := (-1)) dX12_night_59 (by decide) ?_
    refine ab_icmp_eq (tgt := 72) dX12_night_60 (by decide) (fun c15 => ?_) (fun c15 => ?_)
    · have ht := ht.1 c15
      refine ab_iload_n (i := 3) dX12_night_72 rfl rfl ?_
      refine ab_aload_n (i := 0) dX12_night_73 rfl rfl ?_
      refine ab_getR (b := 109) f_X12_104 rfl (sh_k hs 82 12 (by decide) rfl) (sh_r hs 125 rfl) dX12_night_74 ?_
      refine ab_bipush (v := 10) dX12_night_77 (by decide) ?_
      refine ab_iload (i := 6) dX12_night_79 rfl ?_
      refine ab_imul dX12_night_81 ?_
      refine ab_iload (i := 7) dX12_night_82 rfl ?_
      refine ab_iadd dX12_night_84 ?_
      obtain ⟨hc16, ht⟩ := ht
      refine ab_zald (sh_k hs 109 16 (by decide) rfl) hc16 dX12_night_85 ?_
      refine ab_if_eq (tgt := 93) dX12_night_86 (by decide) (fun c17 => ?_) (fun c17 => ?_)
      · have ht := ht.1 c17
        refine ab_iconst (v := 0) dX12_night_93 (by decide) ?_
        refine ab_iadd dX12_night_94 ?_
        refine ab_istore_n (i := 3) (L' := [some (.ref 82), some (.int x1), some (.int x2), some (.int (x3 + 0)), some (.int x4), some (.int x5), some (.int x6), some (.int x7)]) dX12_night_95 rfl (by exact (Nat.le_of_ble_eq_true rfl)) rfl rfl ?_
        refine ab_aload_n (i := 0) dX12_night_96 rfl rfl ?_
        refine ab_getR (b := 111) f_X12_110 rfl (sh_k hs 82 12 (by decide) rfl) (sh_r hs 127 rfl) dX12_night_97 ?_
        refine ab_bipush (v := 10) dX12_night_100 (by decide) ?_
        refine ab_iload (i := 6) dX12_night_102 rfl ?_
        refine ab_imul dX12_night_104 ?_
        refine ab_iload (i := 7) dX12_night_105 rfl ?_
        refine ab_iadd dX12_night_107 ?_
        obtain ⟨hc18, ht⟩ := ht
        refine ab_zald (sh_k hs 111 16 (by decide) rfl) hc18 dX12_night_108 ?_
        refine ab_if_ne (tgt := 115) dX12_night_109 (by decide) (fun c19 => ?_) (fun c19 => ?_)
        · have ht := ht.1 c19
          refine ab_iinc (i := 4) (x := x4) (v := (x4 + 1)) (L' := [some (.ref 82), some (.int x1), some (.int x2), some (.int (x3 + 0)), some (.int (x4 + 1)), some (.int x5), some (.int x6), some (.int x7)]) dX12_night_115 rfl rfl (by exact (Nat.le_of_ble_eq_true rfl)) rfl rfl ?_
          refine ab_iload (i := 5) dX12_night_118 rfl ?_
          refine ab_iconst (v := (-1)) dX12_night_120 (by decide) ?_
          refine ab_icmp_ne (tgt := 129) dX12_night_121 (by decide) (fun c20 => ?_) (fun c20 => ?_)
          · have ht := ht.1 c20
            refine ab_iload (i := 5) dX12_night_129 rfl ?_
            refine ab_istore (i := 5) (L' := [some (.ref 82), some (.int x1), some (.int x2), some (.int (x3 + 0)), some (.int (x4 + 1)), some (.int x5), some (.int x6), some (.int x7)]) dX12_night_131 (by exact (Nat.le_of_ble_eq_true rfl)) rfl rfl ?_
            refine ab_iinc (i := 7) (x := x7) (v := (x7 + 1)) (L' := [some (.ref 82), some (.int x1), some (.int x2), some (.int (x3 + 0)), some (.int (x4 + 1)), some (.int x5), some (.int x6), some (.int (x7 + 1))]) dX12_night_133 rfl rfl (by exact (Nat.le_of_ble_eq_true rfl)) rfl rfl ?_
            refine ab_goto (tgt := 49) dX12_night_136 (by decide) ?_
            exact Wp.fewer (L' := [some (.ref 82), some (.int x1), some (.int x2), some (.int (x3 + 0)), some (.int (x4 + 1)), some (.int x5), some (.int x6), some (.int (x7 + 1))]) (show ab_leL _ _ from ⟨rfl, ⟨rfl, ⟨rfl, ⟨rfl, ⟨rfl, ⟨rfl, ⟨rfl, ⟨rfl, trivial⟩⟩⟩⟩⟩⟩⟩⟩) ht
          · have ht := ht.2 c20
            refine ab_iload (i := 6) dX12_night_124 rfl ?_
            refine ab_goto (tgt := 131) dX12_night_126 (by decide) ?_
            refine ab_istore (i := 5) (L' := [some (.ref 82), some (.int x1), some (.int x2), some (.int (x3 + 0)), some (.int (x4 + 1)), some (.int x6), some (.int x6), some (.int x7)]) dX12_night_131 (by exact (Nat.le_of_ble_eq_true rfl)) rfl rfl ?_
            refine ab_iinc (i := 7) (x := x7) (v := (x7 + 1)) (L' := [some (.ref 82), some (.int x1), some (.int x2), some (.int (x3 + 0)), some (.int (x4 + 1)), some (.int x6), some (.int x6), some (.int (x7 + 1))]) dX12_night_133 rfl rfl (by exact (Nat.le_of_ble_eq_true rfl)) rfl rfl ?_
            refine ab_goto (tgt := 49) dX12_night_136 (by decide) ?_
            exact Wp.fewer (L' := [some (.ref 82), some (.int x1), some (.int x2), some (.int (x3 + 0)), some (.int (x4 + 1)), some (.int x6), some (.int x6), some (.int (x7 + 1))]) (show ab_leL _ _ from ⟨rfl, ⟨rfl, ⟨rfl, ⟨rfl, ⟨rfl, ⟨rfl, ⟨rfl, ⟨rfl, trivial⟩⟩⟩⟩⟩⟩⟩⟩) ht
        · have ht := ht.2 c19
          refine ab_goto (tgt := 133) dX12_night_112 (by decide) ?_
          refine ab_iinc (i := 7) (x := x7) (v := (x7 + 1)) (L' := [some (.ref 82), some (.int x1), some (.int x2), some (.int (x3 + 0)), some (.int x4), some (.int x5), some (.int x6), some (.int (x7 + 1))]) dX12_night_133 rfl rfl (by exact (Nat.le_of_ble_eq_true rfl)) rfl rfl ?_
          refine ab_goto (tgt := 49) dX12_night_136 (by decide) ?_
          exact Wp.fewer (L' := [some (.ref 82), some (.int x1), some (.int x2), some (.int (x3 + 0)), some (.int x4), some (.int x5), some (.int x6), some (.int (x7 + 1))]) (show ab_leL _ _ from ⟨rfl, ⟨rfl, ⟨rfl, ⟨rfl, ⟨rfl, ⟨rfl, ⟨rfl, ⟨rfl, trivial⟩⟩⟩⟩⟩⟩⟩⟩) ht
      · have ht := ht.2 c17
        refine ab_iconst (v := 1) dX12_night_89 (by decide) ?_
        refine ab_goto (tgt := 94) dX12_night_90 (by decide) ?_
        refine ab_iadd dX12_night_94 ?_
        refine ab_istore_n (i := 3) (L' := [some (.ref 82), some (.int x1), some (.int x2), some (.int (x3 + 1)), some (.int x4), some (.int x5), some (.int x6), some (.int x7)]) dX12_night_95 rfl (by exact (Nat.le_of_ble_eq_true rfl)) rfl rfl ?_
        refine ab_aload_n (i := 0) dX12_night_96 rfl rfl ?_
        refine ab_getR (b := 111) f_X12_110 rfl (sh_k hs 82 12 (by decide) rfl) (sh_r hs 127 rfl) dX12_night_97 ?_
        refine ab_bipush (v := 10) dX12_night_100 (by decide) ?_
        refine ab_iload (i := 6) dX12_night_102 rfl ?_
        refine ab_imul dX12_night_104 ?_
        refine ab_iload (i := 7) dX12_night_105 rfl ?_
        refine ab_iadd dX12_night_107 ?_
        obtain ⟨hc21, ht⟩ := ht
        refine ab_zald (sh_k hs 111 16 (by decide) rfl) hc21 dX12_night_108 ?_
        refine ab_if_ne (tgt := 115) dX12_night_109 (by decide) (fun c22 => ?_) (fun c22 => ?_)
        · have ht := ht.1 c22
          refine ab_iinc (i := 4) (x := x4) (v := (x4 + 1)) (L' := [some (.ref 82), some (.int x1), some (.int x2), some (.int (x3 + 1)), some (.int (x4 + 1)), some (.int x5), some (.int x6), some (.int x7)]) dX12_night_115 rfl rfl (by exact (Nat.le_of_ble_eq_true rfl)) rfl rfl ?_
          refine ab_iload (i := 5) dX12_night_118 rfl ?_
          refine ab_iconst (v := (-1)) dX12_night_120 (by decide) ?_
          refine ab_icmp_ne (tgt := 129) dX12_night_121 (by decide) (fun c23 => ?_) (fun c23 => ?_)
          · have ht := ht.1 c23
            refine ab_iload (i := 5) dX12_night_129 rfl ?_
            refine ab_istore (i := 5) (L' := [some (.ref 82), some (.int x1), some (.int x2), some (.int (x3 + 1)), some (.int (x4 + 1)), some (.int x5), some (.int x6), some (.int x7)]) dX12_night_131 (by exact (Nat.le_of_ble_eq_true rfl)) rfl rfl ?_
            refine ab_iinc (i := 7) (x := x7) (v := (x7 + 1)) (L' := [some (.ref 82), some (.int x1), some (.int x2), some (.int (x3 + 1)), some (.int (x4 + 1)), some (.int x5), some (.int x6), some (.int (x7 + 1))]) dX12_night_133 rfl rfl (by exact (Nat.le_of_ble_eq_true rfl)) rfl rfl ?_
            refine ab_goto (tgt := 49) dX12_night_136 (by decide) ?_
            exact Wp.fewer (L' := [some (.ref 82), some (.int x1), some (.int x2), some (.int (x3 + 1)), some (.int (x4 + 1)), some (.int x5), some (.int x6), some (.int (x7 + 1))]) (show ab_leL _ _ from ⟨rfl, ⟨rfl, ⟨rfl, ⟨rfl, ⟨rfl, ⟨rfl, ⟨rfl, ⟨rfl, trivial⟩⟩⟩⟩⟩⟩⟩⟩) ht
          · have ht := ht.2 c23
            refine ab_iload (i := 6) dX12_night_124 rfl ?_
            refine ab_goto (tgt := 131) dX12_night_126 (by decide) ?_
            refine ab_istore (i := 5) (L' := [some (.ref 82), some (.int x1), some (.int x2), some (.int (x3 + 1)), some (.int (x4 + 1)), some (.int x6), some (.int x6), some (.int x7)]) dX12_night_131 (by exact (Nat.le_of_ble_eq_true rfl)) rfl rfl ?_
            refine ab_iinc (i := 7) (x := x7) (v := (x7 + 1)) (L' := [some (.ref 82), some (.int x1), some (.int x2), some (.int (x3 + 1)), some (.int (x4 + 1)), some (.int x6), some (.int x6), some (.int (x7 + 1))]) dX12_night_133 rfl rfl (by exact (Nat.le_of_ble_eq_true rfl)) rfl rfl ?_
            refine ab_goto (tgt := 49) dX12_night_136 (by decide) ?_
            exact Wp.fewer (L' := [some (.ref 82), some (.int x1), some (.int x2), some (.int (x3 + 1)), some (.int (x4 + 1)), some (.int x6), some (.int x6), some (.int (x7 + 1))]) (show ab_leL _ _ from ⟨rfl, ⟨rfl, ⟨rfl, ⟨rfl, ⟨rfl, ⟨rfl, ⟨rfl, ⟨rfl, trivial⟩⟩⟩⟩⟩⟩⟩⟩) ht
        · have ht := ht.2 c22
          refine ab_goto (tgt := 133) dX12_night_112 (by decide) ?_
          refine ab_iinc (i := 7) (x := x7) (v := (x7 + 1)) (L' := [some (.ref 82), some (.int x1), some (.int x2), some (.int (x3 + 1)), some (.int x4), some (.int x5), some (.int x6), some (.int (x7 + 1))]) dX12_night_133 rfl rfl (by exact (Nat.le_of_ble_eq_true rfl)) rfl rfl ?_
          refine ab_goto (tgt := 49) dX12_night_136 (by decide) ?_
          exact Wp.fewer (L' := [some (.ref 82), some (.int x1), some (.int x2), some (.int (x3 + 1)), some (.int x4), some (.int x5), some (.int x6), some (.int (x7 + 1))]) (show ab_leL _ _ from ⟨rfl, ⟨rfl, ⟨rfl, ⟨rfl, ⟨rfl, ⟨rfl, ⟨rfl, ⟨rfl, trivial⟩⟩⟩⟩⟩⟩⟩⟩) ht
    · have ht := ht.2 c15
      refine ab_iload (i := 7) dX12_night_63 rfl ?_
      refine ab_iload_n (i := 1) dX12_night_65 rfl rfl ?_
      refine ab_icmp_eq (tgt := 72) dX12_night_66 (by decide) (fun c24 => ?_) (fun c24 => ?_)
      · have ht := ht.1 c24
        refine ab_iload_n (i := 3) dX12_night_72 rfl rfl ?_
        refine ab_aload_n (i := 0) dX12_night_73 rfl rfl ?_
        refine ab_getR (b := 109) f_X12_104 rfl (sh_k hs 82 12 (by decide) rfl) (sh_r hs 125 rfl) dX12_night_74 ?_
        refine ab_bipush (v := 10) dX12_night_77 (by decide) ?_
        refine ab_iload (i := 6) dX12_night_79 rfl ?_
        refine ab_imul dX12_night_81 ?_
        refine ab_iload (i := 7) dX12_night_82 rfl ?_
        refine ab_iadd dX12_night_84 ?_
        obtain ⟨hc25, ht⟩ := ht
        refine ab_zald (sh_k hs 109 16 (by decide) rfl) hc25 dX12_night_85 ?_
        refine ab_if_eq (tgt := 93) dX12_night_86 (by decide) (fun c26 => ?_) (fun c26 => ?_)
        · have ht := ht.1 c26
          refine ab_iconst (v := 0) dX12_night_93 (by decide) ?_
          refine ab_iadd dX12_night_94 ?_
          refine ab_istore_n (i := 3) (L' := [some (.ref 82), some (.int x1), some (.int x2), some (.int (x3 + 0)), some (.int x4), some (.int x5), some (.int x6), some (.int x7)]) dX12_night_95 rfl (by exact (Nat.le_of_ble_eq_true rfl)) rfl rfl ?_
          refine ab_aload_n (i := 0) dX12_night_96 rfl rfl ?_
          refine ab_getR (b := 111) f_X12_110 rfl (sh_k hs 82 12 (by decide) rfl) (sh_r hs 127 rfl) dX12_night_97 ?_
          refine ab_bipush (v := 10) dX12_night_100 (by decide) ?_
          refine ab_iload (i := 6) dX12_night_102 rfl ?_
          refine ab_imul dX12_night_104 ?_
          refine ab_iload (i := 7) dX12_night_105 rfl ?_
          refine ab_iadd dX12_night_107 ?_
          obtain ⟨hc27, ht⟩ := ht
          refine ab_zald (sh_k hs 111 16 (by decide) rfl) hc27 dX12_night_108 ?_
          refine ab_if_ne (tgt := 115) dX12_night_109 (by decide) (fun c28 => ?_) (fun c28 => ?_)
          · have ht := ht.1 c28
            refine ab_iinc (i := 4) (x := x4) (v := (x4 + 1)) (L' := [some (.ref 82), some (.int x1), some (.int x2), some (.int (x3 + 0)), some (.int (x4 + 1)), some (.int x5), some (.int x6), some (.int x7)]) dX12_night_115 rfl rfl (by exact (Nat.le_of_ble_eq_true rfl)) rfl rfl ?_
            refine ab_iload (i := 5) dX12_night_118 rfl ?_
            refine ab_iconst (v := (-1)) dX12_night_120 (by decide) ?_
            refine ab_icmp_ne (tgt := 129) dX12_night_121 (by decide) (fun c29 => ?_) (fun c29 => ?_)
            · have ht := ht.1 c29
              refine ab_iload (i := 5) dX12_night_129 rfl ?_
              refine ab_istore (i := 5) (L' := [some (.ref 82), some (.int x1), some (.int x2), some (.int (x3 + 0)), some (.int (x4 + 1)), some (.int x5), some (.int x6), some (.int x7)]) dX12_night_131 (by exact (Nat.le_of_ble_eq_true rfl)) rfl rfl ?_
              refine ab_iinc (i := 7) (x := x7) (v := (x7 + 1)) (L' := [some (.ref 82), some (.int x1), some (.int x2), some (.int (x3 + 0)), some (.int (x4 + 1)), some (.int x5), some (.int x6), some (.int (x7 + 1))]) dX12_night_133 rfl rfl (by exact (Nat.le_of_ble_eq_true rfl)) rfl rfl ?_
              refine ab_goto (tgt := 49) dX12_night_136 (by decide) ?_
              exact Wp.fewer (L' := [some (.ref 82), some (.int x1), some (.int x2), some (.int (x3 + 0)), some (.int (x4 + 1)), some (.int x5), some (.int x6), some (.int (x7 + 1))]) (show ab_leL _ _ from ⟨rfl, ⟨rfl, ⟨rfl, ⟨rfl, ⟨rfl, ⟨rfl, ⟨rfl, ⟨rfl, trivial⟩⟩⟩⟩⟩⟩⟩⟩) ht
            · have ht := ht.2 c29
              refine ab_iload (i := 6) dX12_night_124 rfl ?_
              refine ab_goto (tgt := 131) dX12_night_126 (by decide) ?_
              refine ab_istore (i := 5) (L' := [some (.ref 82), some (.int x1), some (.int x2), some (.int (x3 + 0)), some (.int (x4 + 1)), some (.int x6), some (.int x6), some (.int x7)]) dX12_night_131 (by exact (Nat.le_of_ble_eq_true rfl)) rfl rfl ?_
              refine ab_iinc (i := 7) (x := x7) (v := (x7 + 1)) (L' := [some (.ref 82), some (.int x1), some (.int x2), some (.int (x3 + 0)), some (.int (x4 + 1)), some (.int x6), some (.int x6), some (.int (x7 + 1))]) dX12_night_133 rfl rfl (by exact (Nat.le_of_ble_eq_true rfl)) rfl rfl ?_
              refine ab_goto (tgt := 49) dX12_night_136 (by decide) ?_
              exact Wp.fewer (L' := [some (.ref 82), some (.int x1), some (.int x2), some (.int (x3 + 0)), some (.int (x4 + 1)), some (.int x6), some (.int x6), some (.int (x7 + 1))]) (show ab_leL _ _ from ⟨rfl, ⟨rfl, ⟨rfl, ⟨rfl, ⟨rfl, ⟨rfl, ⟨rfl, ⟨rfl, trivial⟩⟩⟩⟩⟩⟩⟩⟩) ht
          · have ht := ht.2 c28
            refine ab_goto (tgt := 133) dX12_night_112 (by decide) ?_
            refine ab_iinc (i := 7) (x := x7) (v := (x7 + 1)) (L' := [some (.ref 82), some (.int x1), some (.int x2), some (.int (x3 + 0)), some (.int x4), some (.int x5), some (.int x6), some (.int (x7 + 1))]) dX12_night_133 rfl rfl (by exact (Nat.le_of_ble_eq_true rfl)) rfl rfl ?_
            refine ab_goto (tgt := 49) dX12_night_136 (by decide) ?_
            exact Wp.fewer (L' := [some (.ref 82), some (.int x1), some (.int x2), some (.int (x3 + 0)), some (.int x4), some (.int x5), some (.int x6), some (.int (x7 + 1))]) (show ab_leL _ _ from ⟨rfl, ⟨rfl, ⟨rfl, ⟨rfl, ⟨rfl, ⟨rfl, ⟨rfl, ⟨rfl, trivial⟩⟩⟩⟩⟩⟩⟩⟩) ht
        · have ht := ht.2 c26
          refine ab_iconst (v := 1) dX12_night_89 (by decide) ?_
          refine ab_goto (tgt := 94) dX12_night_90 (by decide) ?_
          refine ab_iadd dX12_night_94 ?_
          refine ab_istore_n (i := 3) (L' := [some (.ref 82), some (.int x1), some (.int x2), some (.int (x3 + 1)), some (.int x4), some (.int x5), some (.int x6), some (.int x7)]) dX12_night_95 rfl (by exact (Nat.le_of_ble_eq_true rfl)) rfl rfl ?_
          refine ab_aload_n (i := 0) dX12_night_96 rfl rfl ?_
          refine ab_getR (b := 111) f_X12_110 rfl (sh_k hs 82 12 (by decide) rfl) (sh_r hs 127 rfl) dX12_night_97 ?_
          refine ab_bipush (v := 10) dX12_night_100 (by decide) ?_
          refine ab_iload (i := 6) dX12_night_102 rfl ?_
          refine ab_imul dX12_night_104 ?_
          refine ab_iload (i := 7) dX12_night_105 rfl ?_
          refine ab_iadd dX12_night_107 ?_
          obtain ⟨hc30, ht⟩ := ht
          refine ab_zald (sh_k hs 111 16 (by decide) rfl) hc30 dX12_night_108 ?_
          refine ab_if_ne (tgt := 115) dX12_night_109 (by decide) (fun c31 => ?_) (fun c31 => ?_)
          · have ht := ht.1 c31
            refine ab_iinc (i := 4) (x := x4) (v := (x4 + 1)) (L' := [some (.ref 82), some (.int x1), some (.int x2), some (.int (x3 + 1)), some (.int (x4 + 1)), some (.int x5), some (.int x6), some (.int x7)]) dX12_night_115 rfl rfl (by exact (Nat.le_of_ble_eq_true rfl)) rfl rfl ?_
            refine ab_iload (i := 5) dX12_night_118 rfl ?_
            refine ab_iconst (v := (-1)) dX12_night_120 (by decide) ?_
            refine ab_icmp_ne (tgt := 129) dX12_night_121 (by decide) (fun c32 => ?_) (fun c32 => ?_)
            · have ht := ht.1 c32
              refine ab_iload (i := 5) dX12_night_129 rfl ?_
              refine ab_istore (i := 5) (L' := [some (.ref 82), some (.int x1), some (.int x2), some (.int (x3 + 1)), some (.int (x4 + 1)), some (.int x5), some (.int x6), some (.int x7)]) dX12_night_131 (by exact (Nat.le_of_ble_eq_true rfl)) rfl rfl ?_
              refine ab_iinc (i := 7) (x := x7) (v := (x7 + 1)) (L' := [some (.ref 82), some (.int x1), some (.int x2), some (.int (x3 + 1)), some (.int (x4 + 1)), some (.int x5), some (.int x6), some (.int (x7 + 1))]) dX12_night_133 rfl rfl (by exact (Nat.le_of_ble_eq_true rfl)) rfl rfl ?_
              refine ab_goto (tgt := 49) dX12_night_136 (by decide) ?_
              exact Wp.fewer (L' := [some (.ref 82), some (.int x1), some (.int x2), some (.int (x3 + 1)), some (.int (x4 + 1)), some (.int x5), some (.int x6), some (.int (x7 + 1))]) (show ab_leL _ _ from ⟨rfl, ⟨rfl, ⟨rfl, ⟨rfl, ⟨rfl, ⟨rfl, ⟨rfl, ⟨rfl, trivial⟩⟩⟩⟩⟩⟩⟩⟩) ht
            · have ht := ht.2 c32
              refine ab_iload (i := 6) dX12_night_124 rfl ?_
              refine ab_goto (tgt := 131) dX12_night_126 (by decide) ?_
              refine ab_istore (i := 5) (L' := [some (.ref 82), some (.int x1), some (.int x2), some (.int (x3 + 1)), some (.int (x4 + 1)), some (.int x6), some (.int x6), some (.int x7)]) dX12_night_131 (by exact (Nat.le_of_ble_eq_true rfl)) rfl rfl ?_
              refine ab_iinc (i := 7) (x := x7) (v := (x7 + 1)) (L' := [some (.ref 82), some (.int x1), some (.int x2), some (.int (x3 + 1)), some (.int (x4 + 1)), some (.int x6), some (.int x6), some (.int (x7 + 1))]) dX12_night_133 rfl rfl (by exact (Nat.le_of_ble_eq_true rfl)) rfl rfl ?_
              refine ab_goto (tgt := 49) dX12_night_136 (by decide) ?_
              exact Wp.fewer (L' := [some (.ref 82), some (.int x1), some (.int x2), some (.int (x3 + 1)), some (.int (x4 + 1)), some (.int x6), some (.int x6), some (.int (x7 + 1))]) (show ab_leL _ _ from ⟨rfl, ⟨rfl, ⟨rfl, ⟨rfl, ⟨rfl, ⟨rfl, ⟨rfl, ⟨rfl, trivial⟩⟩⟩⟩⟩⟩⟩⟩) ht
          · have ht := ht.2 c31
            refine ab_goto (tgt := 133) dX12_night_112 (by decide) ?_
            refine ab_iinc (i := 7) (x := x7) (v := (x7 + 1)) (L' := [some (.ref 82), some (.int x1), some (.int x2), some (.int (x3 + 1)), some (.int x4), some (.int x5), some (.int x6), some (.int (x7 + 1))]) dX12_night_133 rfl rfl (by exact (Nat.le_of_ble_eq_true rfl)) rfl rfl ?_
            refine ab_goto (tgt := 49) dX12_night_136 (by decide) ?_
            exact Wp.fewer (L' := [some (.ref 82), some (.int x1), some (.int x2), some (.int (x3 + 1)), some (.int x4), some (.int x5), some (.int x6), some (.int (x7 + 1))]) (show ab_leL _ _ from ⟨rfl, ⟨rfl, ⟨rfl, ⟨rfl, ⟨rfl, ⟨rfl, ⟨rfl, ⟨rfl, trivial⟩⟩⟩⟩⟩⟩⟩⟩) ht
      · have ht := ht.2 c24
        refine ab_goto (tgt := 133) dX12_night_69 (by decide) ?_
        refine ab_iinc (i := 7) (x := x7) (v := (x7 + 1)) (L' := [some (.ref 82), some (.int x1), some (.int x2), some (.int x3), some (.int x4), some (.int x5), some (.int x6), some (.int (x7 + 1))]) dX12_night_133 rfl rfl (by exact (Nat.le_of_ble_eq_true rfl)) rfl rfl ?_
        refine ab_goto (tgt := 49) dX12_night_136 (by decide) ?_
        exact Wp.fewer (L' := [some (.ref 82), some (.int x1), some (.int x2), some (.int x3), some (.int x4), some (.int x5), some (.int x6), some (.int (x7 + 1))]) (show ab_leL _ _ from ⟨rfl, ⟨rfl, ⟨rfl, ⟨rfl, ⟨rfl, ⟨rfl, ⟨rfl, ⟨rfl, trivial⟩⟩⟩⟩⟩⟩⟩⟩) ht
set_option maxRecDepth 20000 in
theorem T_X12_night {Q : Option Value → ah_T → Prop} {h : ah_T} (hs : Sh h) (x1 : Int32) (x2 : Int32) (ht : ((x1 = (-1) → ((¬ (f_X12_lies x2 0 2) = 0 → (Mt mX12_laysNight [.ref 82] h (ab_qv fun h3 => Sh h3 ∧ Wp mX12_night Q 0 0 39 [some (.ref 82), some (.int x1), some (.int x2), some (.int 0), some (.int 0), some (.int (-1)), some (.int 0), none] [] h3))) ∧ ((f_X12_lies x2 0 2) = 0 → Q (some (.int (-1))) h))) ∧ (¬ x1 = (-1) → (((f_X12_isLamp h x1) = 0 → Q (some (.int (-1))) h) ∧ (¬ (f_X12_isLamp h x1) = 0 → ((¬ (f_X12_lies x2 0 2) = 0 → (Mt mX12_laysNight [.ref 82] h (ab_qv fun h8 => Sh h8 ∧ Wp mX12_night Q 0 0 39 [some (.ref 82), some (.int x1), some (.int x2), some (.int 0), some (.int 0), some (.int (-1)), some (.int 0), none] [] h8))) ∧ ((f_X12_lies x2 0 2) = 0 → Q (some (.int (-1))) h))))))) : Mt mX12_night [.ref 82, .int x1, .int x2] h Q := by
  refine Mt.ofWp rfl (by exact (Nat.le_of_ble_eq_true rfl)) (Wp.fewer (L' := [some (.ref 82), some (.int x1), some (.int x2), none, none, none, none, none]) (show ab_leL _ _ from ⟨rfl, ⟨rfl, ⟨rfl, trivial⟩⟩⟩) ?_)
  refine ab_iload_n (i := 1) dX12_night_0 rfl rfl ?_
  refine ab_iconst (v := (-1)) dX12_night_1 (by decide) ?_
  refine ab_icmp_eq (tgt := 13) dX12_night_2 (by decide) (fun c1 => ?_) (fun c1 => ?_)
  · have ht := ht.1 c1
    refine ab_iload_n (i := 2) dX12_night_13 rfl rfl ?_
    refine ab_iconst (v := 0) dX12_night_14 (by decide) ?_
    refine ab_iconst (v := 2) dX12_night_15 (by decide) ?_
    refine ab_callS (Q' := fun r h' => r = some (.int (f_X12_lies x2 0 2)) ∧ h = h') (As := [.int x2, .int 0, .int 2]) (c_X12_lies hs x2 0 2 ⟨rfl, rfl⟩) (Y_X12_lies) l_X12_156 st_X12_lies rfl ⟨(Nat.le_of_ble_eq_true rfl), (Nat.le_of_ble_eq_true rfl), (Nat.le_of_ble_eq_true rfl), (Nat.le_of_ble_eq_true rfl)⟩ dX12_night_16 ?_
    rintro _ _ ⟨rfl, rfl⟩
    refine ab_if_ne (tgt := 24) dX12_night_19 (by decide) (fun c2 => ?_) (fun c2 => ?_)
    · have ht := ht.1 c2
      refine ab_aload_n (i := 0) dX12_night_24 rfl rfl ?_
      refine ab_callV (b := 82) (As := []) ht (Y_X12_laysNight) l_X12_430 in_X12_laysNight se_X12_laysNight (sh_k hs 82 12 (by decide) rfl) (by decide) rfl rfl ⟨(Nat.le_of_ble_eq_true rfl), (Nat.le_of_ble_eq_true rfl), (Nat.le_of_ble_eq_true rfl), (Nat.le_of_ble_eq_true rfl)⟩ dX12_night_25 ?_
      rintro _ h3 ⟨rfl, hs4, ht⟩
      refine ab_iconst (v := 0) dX12_night_28 (by decide) ?_
      refine ab_istore_n (i := 3) (L' := [some (.ref 82), some (.int x1), some (.int x2), some (.int 0), none, none, none, none]) dX12_night_29 rfl (by exact (Nat.le_of_ble_eq_true rfl)) rfl rfl ?_
      refine ab_iconst (v := 0) dX12_night_30 (by decide) ?_
      refine ab_istore (i := 4) (L' := [some (.ref 82), some (.int x1), some (.int x2), some (.int 0), some (.int 0), none, none, none]) dX12_night_31 (by exact (Nat.le_of_ble_eq_true rfl)) rfl rfl ?_
      refine ab_iconst (v := (-1)) dX12_night_33 (by decide) ?_
      refine ab_istore (i := 5) (L' := [some (.ref 82), some (.int x1), some (.int x2), some (.int 0), some (.int 0), some (.int (-1)), none, none]) dX12_night_34 (by exact (Nat.le_of_ble_eq_true rfl)) rfl rfl ?_
      refine ab_iconst (v := 0) dX12_night_36 (by decide) ?_
      refine ab_istore (i := 6) (L' := [some (.ref 82), some (.int x1), some (.int x2), some (.int 0), some (.int 0), some (.int (-1)), some (.int 0), none]) dX12_night_37 (by exact (Nat.le_of_ble_eq_true rfl)) rfl rfl ?_
      exact Wp.fewer (L' := [some (.ref 82), some (.int x1), some (.int x2), some (.int 0), some (.int 0), some (.int (-1)), some (.int 0), none]) (show ab_leL _ _ from ⟨rfl, ⟨rfl, ⟨rfl, ⟨rfl, ⟨rfl, ⟨rfl, ⟨rfl, trivial⟩⟩⟩⟩⟩⟩⟩) ht
    · have ht := ht.2 c2
      refine ab_iconst (v := (-1)) dX12_night_22 (by decide) ?_
      exact ab_iret rfl dX12_night_23 (Nat.le_of_ble_eq_true rfl) (Nat.le_of_ble_eq_true rfl) ht
  · have ht := ht.2 c1
    refine ab_aload_n (i := 0) dX12_night_5 rfl rfl ?_
    refine ab_iload_n (i := 1) dX12_night_6 rfl rfl ?_
    refine ab_callV (b := 82) (Q' := fun r h' => r = some (.int (f_X12_isLamp h x1)) ∧ h = h') (As := [.int x1]) (c_X12_isLamp hs x1 ⟨rfl, rfl⟩) (Y_X12_isLamp) l_X12_198 in_X12_isLamp se_X12_isLamp (sh_k hs 82 12 (by decide) rfl) (by decide) rfl rfl ⟨(Nat.le_of_ble_eq_true rfl), (Nat.le_of_ble_eq_true rfl), (Nat.le_of_ble_eq_true rfl), (Nat.le_of_ble_eq_true rfl)⟩ dX12_night_7 ?_
    rintro _ _ ⟨rfl, rfl⟩
    refine ab_if_eq (tgt := 22) dX12_night_10 (by decide) (fun c6 => ?_) (fun c6 => ?_)
    · have ht := ht.1 c6
      refine ab_iconst (v := (-1)) dX12_night_22 (by decide) ?_
      exact ab_iret rfl dX12_night_23 (Nat.le_of_ble_eq_true rfl) (Nat.le_of_ble_eq_true rfl) ht
    · have ht := ht.2 c6
      refine ab_iload_n (i := 2) dX12_night_13 rfl rfl ?_
      refine ab_iconst (v := 0) dX12_night_14 (by decide) ?_
      refine ab_iconst (v := 2) dX12_night_15 (by decide) ?_
      refine ab_callS (Q' := fun r h' => r = some (.int (f_X12_lies x2 0 2)) ∧ h = h') (As := [.int x2, .int 0, .int 2]) (c_X12_lies hs x2 0 2 ⟨rfl, rfl⟩) (Y_X12_lies) l_X12_156 st_X12_lies rfl ⟨(Nat.le_of_ble_eq_true rfl), (Nat.le_of_ble_eq_true rfl), (Nat.le_of_ble_eq_true rfl), (Nat.le_of_ble_eq_true rfl)⟩ dX12_night_16 ?_
      rintro _ _ ⟨rfl, rfl⟩
      refine ab_if_ne (tgt := 24) dX12_night_19 (by decide) (fun c7 => ?_) (fun c7 => ?_)
      · have ht := ht.1 c7
        refine ab_aload_n (i := 0) dX12_night_24 rfl rfl ?_
        refine ab_callV (b := 82) (As := []) ht (Y_X12_laysNight) l_X12_430 in_X12_laysNight se_X12_laysNight (sh_k hs 82 12 (by decide) rfl) (by decide) rfl rfl ⟨(Nat.le_of_ble_eq_true rfl), (Nat.le_of_ble_eq_true rfl), (Nat.le_of_ble_eq_true rfl), (Nat.le_of_ble_eq_true rfl)⟩ dX12_night_25 ?_
        rintro _ h8 ⟨rfl, hs9, ht⟩
        refine ab_iconst (v := 0) dX12_night_28 (by decide) ?_
        refine ab_istore_n (i := 3) (L' := [some (.ref 82), some (.int x1), some (.int x2), some (.int 0), none, none, none, none]) dX12_night_29 rfl (by exact (Nat.le_of_ble_eq_true rfl)) rfl rfl ?_
        refine ab_iconst (v := 0) dX12_night_30 (by decide) ?_
        refine ab_istore (i := 4) (L' := [some (.ref 82), some (.int x1), some (.int x2), some (.int 0), some (.int 0), none, none, none]) dX12_night_31 (by exact (Nat.le_of_ble_eq_true rfl)) rfl rfl ?_
        refine ab_iconst (v := (-1)) dX12_night_33 (by decide) ?_
        refine ab_istore (i := 5) (L' := [some (.ref 82), some (.int x1), some (.int x2), some (.int 0), some (.int 0), some (.int (-1)), none, none]) dX12_night_34 (by exact (Nat.le_of_ble_eq_true rfl)) rfl rfl ?_
        refine ab_iconst (v := 0) dX12_night_36 (by decide) ?_
        refine ab_istore (i := 6) (L' := [some (.ref 82), some (.int x1), some (.int x2), some (.int 0), some (.int 0), some (.int (-1)), some (.int 0), none]) dX12_night_37 (by exact (Nat.le_of_ble_eq_true rfl)) rfl rfl ?_
        exact Wp.fewer (L' := [some (.ref 82), some (.int x1), some (.int x2), some (.int 0), some (.int 0), some (.int (-1)), some (.int 0), none]) (show ab_leL _ _ from ⟨rfl, ⟨rfl, ⟨rfl, ⟨rfl, ⟨rfl, ⟨rfl, ⟨rfl, trivial⟩⟩⟩⟩⟩⟩⟩) ht
      · have ht := ht.2 c7
        refine ab_iconst (v := (-1)) dX12_night_22 (by decide) ?_
        exact ab_iret rfl dX12_night_23 (Nat.le_of_ble_eq_true rfl) (Nat.le_of_ble_eq_true rfl) ht
theorem dX12_judge_0 : decode cX12_judge 0 = .ok (.iload_n 1, 1) := by decide +kernel
theorem dX12_judge_1 : decode cX12_judge 1 = .ok (.iconst 0, 1) := by decide +kernel
theorem dX12_judge_2 : decode cX12_judge 2 = .ok (.iconst 2, 1) := by decide +kernel
theorem dX12_judge_3 : decode cX12_judge 3 = .ok (.invokestatic 156, 3) := by decide +kernel
theorem dX12_judge_6 : decode cX12_judge 6 = .ok (.ifCond .ne 5, 3) := by decide +kernel
theorem dX12_judge_9 : decode cX12_judge 9 = .ok (.iconst (-1), 1) := by decide +kernel
theorem dX12_judge_10 : decode cX12_judge 10 = .ok (.ireturn, 1) := by decide +kernel
theorem dX12_judge_11 : decode cX12_judge 11 = .ok (.aload_n 0, 1) := by decide +kernel
theorem dX12_judge_12 : decode cX12_judge 12 = .ok (.invokevirtual 430, 3) := by decide +kernel
theorem dX12_judge_15 : decode cX12_judge 15 = .ok (.iconst (-1), 1) := by decide +kernel
theorem dX12_judge_16 : decode cX12_judge 16 = .ok (.istore_n 2, 1) := by decide +kernel
theorem dX12_judge_17 : decode cX12_judge 17 = .ok (.iconst (-1), 1) := by decide +kernel
theorem dX12_judge_18 : decode cX12_judge 18 = .ok (.istore_n 3, 1) := by decide +kernel
theorem dX12_judge_19 : decode cX12_judge 19 = .ok (.iconst 0, 1) := by decide +kernel
theorem dX12_judge_20 : decode cX12_judge 20 = .ok (.istore 4, 2) := by decide +kernel
theorem dX12_judge_22 : decode cX12_judge 22 = .ok (.iconst 0, 1) := by decide +kernel
theorem dX12_judge_23 : decode cX12_judge 23 = .ok (.istore 5, 2) := by decide +kernel
theorem dX12_judge_25 : decode cX12_judge 25 = .ok (.iload 5, 2) := by decide +kernel
theorem dX12_judge_27 : decode cX12_judge 27 = .ok (.bipush 120, 2) := by decide +kernel
theorem dX12_judge_29 : decode cX12_judge 29 = .ok (.if_icmp .ge 130, 3) := by decide +kernel
theorem dX12_judge_32 : decode cX12_judge 32 = .ok (.aload_n 0, 1) := by decide +kernel
theorem dX12_judge_33 : decode cX12_judge 33 = .ok (.iload 5, 2) := by decide +kernel
theorem dX12_judge_35 : decode cX12_judge 35 = .ok (.invokevirtual 433, 3) := by decide +kernel
theorem dX12_judge_38 : decode cX12_judge 38 = .ok (.istore 6, 2) := by decide +kernel
theorem dX12_judge_40 : decode cX12_judge 40 = .ok (.iconst 0, 1) := by decide +kernel
theorem dX12_judge_41 : decode cX12_judge 41 = .ok (.istore 7, 2) := by decide +kernel
theorem dX12_judge_43 : decode cX12_judge 43 = .ok (.iload 7, 2) := by decide +kernel
theorem dX12_judge_45 : decode cX12_judge 45 = .ok (.aload_n 0, 1) := by decide +kernel
theorem dX12_judge_46 : decode cX12_judge 46 = .ok (.getfield 20, 3) := by decide +kernel
theorem dX12_judge_49 : decode cX12_judge 49 = .ok (.sipush 249, 3) := by decide +kernel
theorem dX12_judge_52 : decode cX12_judge 52 = .ok (.iaload, 1) := by decide +kernel
theorem dX12_judge_53 : decode cX12_judge 53 = .ok (.if_icmp .ge 100, 3) := by decide +kernel
theorem dX12_judge_56 : decode cX12_judge 56 = .ok (.iload 5, 2) := by decide +kernel
theorem dX12_judge_58 : decode cX12_judge 58 = .ok (.aload_n 0, 1) := by decide +kernel
theorem dX12_judge_59 : decode cX12_judge 59 = .ok (.getfield 20, 3) := by decide +kernel
theorem dX12_judge_62 : decode cX12_judge 62 = .ok (.sipush 200, 3) := by decide +kernel
theorem dX12_judge_65 : decode cX12_judge 65 = .ok (.iconst 3, 1) := by decide +kernel
theorem dX12_judge_66 : decode cX12_judge 66 = .ok (.iload 7, 2) := by decide +kernel
theorem dX12_judge_68 : decode cX12_judge 68 = .ok (.imul, 1) := by decide +kernel
theorem dX12_judge_69 : decode cX12_judge 69 = .ok (.iadd, 1) := by decide +kernel
theorem dX12_judge_70 : decode cX12_judge 70 = .ok (.iconst 1, 1) := by decide +kernel
theorem dX12_judge_71 : decode cX12_judge 71 = .ok (.iadd, 1) := by decide +kernel
theorem dX12_judge_72 : decode cX12_judge 72 = .ok (.iaload, 1) := by decide +kernel
theorem dX12_judge_73 : decode cX12_judge 73 = .ok (.aload_n 0, 1) := by decide +kernel
theorem dX12_judge_74 : decode cX12_judge 74 = .ok (.getfield 20, 3) := by decide +kernel
theorem dX12_judge_77 : decode cX12_judge 77 = .ok (.sipush 200, 3) := by decide +kernel
theorem dX12_judge_80 : decode cX12_judge 80 = .ok (.iconst 3, 1) := by decide +kernel
theorem dX12_judge_81 : decode cX12_judge 81 = .ok (.iload 7, 2) := by decide +kernel
theorem dX12_judge_83 : decode cX12_judge 83 = .ok (.imul, 1) := by decide +kernel
theorem dX12_judge_84 : decode cX12_judge 84 = .ok (.iadd, 1) := by decide +kernel
theorem dX12_judge_85 : decode cX12_judge 85 = .ok (.iconst 2, 1) := by decide +kernel
theorem dX12_judge_86 : decode cX12_judge 86 = .ok (.iadd, 1) := by decide +kernel
theorem dX12_judge_87 : decode cX12_judge 87 = .ok (.iaload, 1) := by decide +kernel
theorem dX12_judge_88 : decode cX12_judge 88 = .ok (.invokestatic 156, 3) := by decide +kernel
theorem dX12_judge_91 : decode cX12_judge 91 = .ok (.ifCond .eq 56, 3) := by decide +kernel
theorem dX12_judge_94 : decode cX12_judge 94 = .ok (.iload 6, 2) := by decide +kernel
theorem dX12_judge_96 : decode cX12_judge 96 = .ok (.aload_n 0, 1) := by decide +kernel
theorem dX12_judge_97 : decode cX12_judge 97 = .ok (.getfield 20, 3) := by decide +kernel
theorem dX12_judge_100 : decode cX12_judge 100 = .ok (.sipush 200, 3) := by decide +kernel
theorem dX12_judge_103 : decode cX12_judge 103 = .ok (.iconst 3, 1) := by decide +kernel
theorem dX12_judge_104 : decode cX12_judge 104 = .ok (.iload 7, 2) := by decide +kernel
theorem dX12_judge_106 : decode cX12_judge 106 = .ok (.imul, 1) := by decide +kernel
theorem dX12_judge_107 : decode cX12_judge 107 = .ok (.iadd, 1) := by decide +kernel
theorem dX12_judge_108 : decode cX12_judge 108 = .ok (.iaload, 1) := by decide +kernel
theorem dX12_judge_109 : decode cX12_judge 109 = .ok (.invokestatic 367, 3) := by decide +kernel
theorem dX12_judge_112 : decode cX12_judge 112 = .ok (.ifCond .eq 6, 3) := by decide +kernel
theorem dX12_judge_115 : decode cX12_judge 115 = .ok (.goto 32, 3) := by decide +kernel
theorem dX12_judge_118 : decode cX12_judge 118 = .ok (.iload_n 2, 1) := by decide +kernel
theorem dX12_judge_119 : decode cX12_judge 119 = .ok (.iconst (-1), 1) := by decide +kernel
theorem dX12_judge_120 : decode cX12_judge 120 = .ok (.if_icmp .ne 6, 3) := by decide +kernel
theorem dX12_judge_123 : decode cX12_judge 123 = .ok (.iload 5, 2) := by decide +kernel
theorem dX12_judge_125 : decode cX12_judge 125 = .ok (.istore_n 3, 1) := by decide +kernel
theorem dX12_judge_126 : decode cX12_judge 126 = .ok (.iload_n 2, 1) := by decide +kernel
theorem dX12_judge_127 : decode cX12_judge 127 = .ok (.iconst (-1), 1) := by decide +kernel
theorem dX12_judge_128 : decode cX12_judge 128 = .ok (.if_icmp .ne 8, 3) := by decide +kernel
theorem dX12_judge_131 : decode cX12_judge 131 = .ok (.iload 7, 2) := by decide +kernel
theorem dX12_judge_133 : decode cX12_judge 133 = .ok (.goto 4, 3) := by decide +kernel
theorem dX12_judge_136 : decode cX12_judge 136 = .ok (.iload_n 2, 1) := by decide +kernel
theorem dX12_judge_137 : decode cX12_judge 137 = .ok (.istore_n 2, 1) := by decide +kernel
theorem dX12_judge_138 : decode cX12_judge 138 = .ok (.iload 4, 2) := by decide +kernel
theorem dX12_judge_140 : decode cX12_judge 140 = .ok (.iconst 1, 1) := by decide +kernel
theorem dX12_judge_141 : decode cX12_judge 141 = .ok (.iload 7, 2) := by decide +kernel
theorem dX12_judge_143 : decode cX12_judge 143 = .ok (.ishl, 1) := by decide +kernel
theorem dX12_judge_144 : decode cX12_judge 144 = .ok (.ior, 1) := by decide +kernel
theorem dX12_judge_145 : decode cX12_judge 145 = .ok (.istore 4, 2) := by decide +kernel
theorem dX12_judge_147 : decode cX12_judge 147 = .ok (.iinc 7 1, 3) := by decide +kernel
theorem dX12_judge_150 : decode cX12_judge 150 = .ok (.goto (-107), 3) := by decide +kernel
theorem dX12_judge_153 : decode cX12_judge 153 = .ok (.iinc 5 1, 3) := by decide +kernel
theorem dX12_judge_156 : decode cX12_judge 156 = .ok (.goto (-131), 3) := by decide +kernel
theorem dX12_judge_159 : decode cX12_judge 159 = .ok (.iload_n 1, 1) := by decide +kernel
theorem dX12_judge_160 : decode cX12_judge 160 = .ok (.ifCond .ne 7, 3) := by decide +kernel
theorem dX12_judge_163 : decode cX12_judge 163 = .ok (.iload_n 2, 1) := by decide +kernel
theorem dX12_judge_164 : decode cX12_judge 164 = .ok (.goto 17, 3) := by decide +kernel
theorem dX12_judge_167 : decode cX12_judge 167 = .ok (.iload_n 1, 1) := by decide +kernel
theorem dX12_judge_168 : decode cX12_judge 168 = .ok (.iconst 1, 1) := by decide +kernel
theorem dX12_judge_169 : decode cX12_judge 169 = .ok (.if_icmp .ne 7, 3) := by decide +kernel
theorem dX12_judge_172 : decode cX12_judge 172 = .ok (.iload_n 3, 1) := by decide +kernel
theorem dX12_judge_173 : decode cX12_judge 173 = .ok (.goto 8, 3) := by decide +kernel
theorem dX12_judge_176 : decode cX12_judge 176 = .ok (.iload 4, 2) := by decide +kernel
theorem dX12_judge_178 : decode cX12_judge 178 = .ok (.invokestatic 436, 3) := by decide +kernel
theorem dX12_judge_181 : decode cX12_judge 181 = .ok (.ireturn, 1) := by decide +kernel
set_option maxRecDepth 20000 in
theorem T_X12_judge_25 {Q : Option Value → ah_T → Prop} {h : ah_T} (hs : Sh h) (x1 : Int32) (x2 : Int32) (x3 : Int32) (x4 : Int32) (x5 : Int32) (ht : ((120 ≤ x5 → ((¬ x1 = 0 → ((¬ x1 = 1 → (Mt mX12_ones [.int x4] h (ab_qi fun v10 h8 => Sh h8 ∧ Q (some (.int v10)) h8))) ∧ (x1 = 1 → Q (some (.int x3)) h))) ∧ (x1 = 0 → Q (some (.int x2)) h))) ∧ (¬ 120 ≤ x5 → (Mt mX12_brightIn [.ref 82, .int x5] h (ab_qi fun v13 h11 => Sh h11 ∧ Wp mX12_judge Q 0 0 43 [some (.ref 82), some (.int x1), some (.int x2), some (.int x3), some (.int x4), some (.int x5), some (.int v13), some (.int 0)] [] h11))))) : Wp mX12_judge Q 0 0 25 [some (.ref 82), some (.int x1), some (.int x2), some (.int x3), some (.int x4), some (.int x5), none, none] [] h := by
  refine ab_iload (i := 5) dX12_judge_25 rfl ?_
  refine ab_bipush (v := 120) dX12_judge_27 (by decide) ?_
  refine ab_icmp_ge (tgt := 159) dX12_judge_29 (by decide) (fun c5 => ?_) (fun c5 => ?_)
  · have ht := ht.1 c5
    refine ab_iload_n (i := 1) dX12_judge_159 rfl rfl ?_
    refine ab_if_ne (tgt := 167) dX12_judge_160 (by decide) (fun c6 => ?_) (fun c6 => ?_)
    · have ht := ht.1 c6
      refine ab_iload_n (i := 1) dX12_judge_167 rfl rfl ?_
      refine ab_iconst (v := 1) dX12_judge_168 (by decide) ?_
      refine ab_icmp_ne (tgt := 176) dX12_judge_169 (by decide) (fun c7 => ?_) (fun c7 => ?_)
      · have ht := ht.1 c7
        refine ab_iload (i := 4) dX12_judge_176 rfl ?_
        refine ab_callS (As := [.int x4]) ht (Y_X12_ones) l_X12_436 st_X12_ones rfl ⟨(Nat.le_of_ble_eq_true rfl), (Nat.le_of_ble_eq_true rfl), (Nat.le_of_ble_eq_true rfl), (Nat.le_of_ble_eq_true rfl)⟩ dX12_judge_178 ?_
        rintro _ h8 ⟨v10, rfl, hs9, ht⟩
        exact ab_iret rfl dX12_judge_181 (Nat.le_of_ble_eq_true rfl) (Nat.le_of_ble_eq_true rfl) ht
      · have ht := ht.2 c7
        refine ab_iload_n (i := 3) dX12_judge_172 rfl rfl ?_
        refine ab_goto (tgt := 181) dX12_judge_173 (by decide) ?_
        exact ab_iret rfl dX12_judge_181 (Nat.le_of_ble_eq_true rfl) (Nat.le_of_ble_eq_true rfl) ht
    · have ht := ht.2 c6
      refine ab_iload_n (i := 2) dX12_judge_163 rfl rfl ?_
      refine ab_goto (tgt := 181) dX12_judge_164 (by decide) ?_
      exact ab_iret rfl dX12_judge_181 (Nat.le_of_ble_eq_true rfl) (Nat.le_of_ble_eq_true rfl) ht
  · have ht := ht.2 c5
    refine ab_aload_n (i := 0) dX12_judge_32 rfl rfl ?_
    refine ab_iload (i := 5) dX12_judge_33 rfl ?_
    refine ab_callV (b := 82) (As := [.int x5]) ht (Y_X12_brightIn) l_X12_433 in_X12_brightIn se_X12_brightIn (sh_k hs 82 12 (by decide) rfl) (by decide) rfl rfl ⟨(Nat.le_of_ble_eq_true rfl), (Nat.le_of_ble_eq_true rfl), (Nat.le_of_ble_eq_true rfl), (Nat.le_of_ble_eq_true rfl)⟩ dX12_judge_35 ?_
    rintro _ h11 ⟨v13, rfl, hs12, ht⟩
    refine ab_istore (i := 6) (L' := [some (.ref 82), some (.int x1), some (.int x2), some (.int x3), some (.int x4), some (.int x5), some (.int v13), none]) dX12_judge_38 (by exact (Nat.le_of_ble_eq_true rfl)) rfl rfl ?_
    refine ab_iconst (v := 0) dX12_judge_40 (by decide) ?_
    refine ab_istore (i := 7) (L' := [some (.ref 82), some (.int x1), some (.int x2), some (.int x3), some (.int x4), some (.int x5), some (.int v13), some (.int 0)]) dX12_judge_41 (by exact (Nat.le_of_ble_eq_true rfl)) rfl rfl ?_
    exact Wp.fewer (L' := [some (.ref 82), some (.int x1), some (.int x2), some (.int x3), some (.int x4), some (.int x5), some (.int v13), some (.int 0)]) (show ab_leL _ _ from ⟨rfl, ⟨rfl, ⟨rfl, ⟨rfl, ⟨rfl, ⟨rfl, ⟨rfl, ⟨rfl, trivial⟩⟩⟩⟩⟩⟩⟩⟩) ht
set_option maxRecDepth 20000 in
theorem T_X12_judge_43 {Q : Option Value → ah_T → Prop} {h : ah_T} (hs : Sh h) (x1 : Int32) (x2 : Int32) (x3 : Int32) (x4 : Int32) (x5 : Int32) (x6 : Int32) (x7 : Int32) (ht : (((ah_i h 84 (Int32.toNatClampNeg 249)) ≤ x7 → Wp mX12_judge Q 0 0 25 [some (.ref 82), some (.int x1), some (.int x2), some (.int x3), some (.int x4), some (.int (x5 + 1)), none, none] [] h) ∧ (¬ (ah_i h 84 (Int32.toNatClampNeg 249)) ≤ x7 → (vp_in ((200 + (3 * x7)) + 1) (ah_n h 84)) ∧ (vp_in ((200 + (3 * x7)) + 2) (ah_n h 84)) ∧ (((f_X12_lies x5 (ah_i h 84 (Int32.toNatClampNeg ((200 + (3 * x7)) + 1))) (ah_i h 84 (Int32.toNatClampNeg ((200 + (3 * x7)) + 2)))) = 0 → Wp mX12_judge Q 0 0 43 [some (.ref 82), some (.int x1), some (.int x2), some (.int x3), some (.int x4), some (.int x5), some (.int x6), some (.int (x7 + 1))] [] h) ∧ (¬ (f_X12_lies x5 (ah_i h 84 (Int32.toNatClampNeg ((200 + (3 * x7)) + 1))) (ah_i h 84 (Int32.toNatClampNeg ((200 + (3 * x7)) + 2)))) = 0 → (vp_in (200 + (3 * x7)) (ah_n h 84)) ∧ (((f_X12_isIn x6 (ah_i h 84 (Int32.toNatClampNeg (200 + (3 * x7))))) = 0 → ((¬ x2 = (-1) → ((¬ x2 = (-1) → Wp mX12_judge Q 0 0 43 [some (.ref 82), some (.int x1), some (.int x2), some (.int x3), some (.int (x4 ||| ((1 : Int32) <<< (x7 &&& 31)))), some (.int x5), some (.int x6), some (.int (x7 + 1))] [] h) ∧ (x2 = (-1) → Wp mX12_judge Q 0 0 43 [some (.ref 82), some (.int x1), some (.int x7), some (.int x3), some (.int (x4 ||| ((1 : Int32) <<< (x7 &&& 31)))), some (.int x5), some (.int x6), some (.int (x7 + 1))] [] h))) ∧ (x2 = (-1) → ((¬ x2 = (-1) → Wp mX12_judge Q 0 0 43 [some (.ref 82), some (.int x1), some (.int x2), some (.int x5), some (.int (x4 ||| ((1 : Int32) <<< (x7 &&& 31)))), some (.int x5), some (.int x6), some (.int (x7 + 1))] [] h) ∧ (x2 = (-1) → Wp mX12_judge Q 0 0 43 [some (.ref 82), some (.int x1), some (.int x7), some (.int x5), some (.int (x4 ||| ((1 : Int32) <<< (x7 &&& 31)))), some (.int x5), some (.int x6), some (.int (x7 + 1))] [] h))))) ∧ (¬ (f_X12_isIn x6 (ah_i h 84 (Int32.toNatClampNeg (200 + (3 * x7))))) = 0 → Wp mX12_judge Q 0 0 43 [some (.ref 82), some (.int x1), some (.int x2), some (.int x3), some (.int x4), some (.int x5), some (.int x6), some (.int (x7 + 1))] [] h))))))) : Wp mX12_judge Q 0 0 43 [some (.ref 82), some (.int x1), some (.int x2), some (.int x3), some (.int x4), some (.int x5), some (.int x6), some (.int x7)] [] h := by
  refine ab_iload (i := 7) dX12_judge_43 rfl ?_
  refine ab_aload_n (i := 0) dX12_judge_45 rfl rfl ?_
  refine ab_getR (b := 84) f_X12_20 rfl (sh_k hs 82 12 (by decide) rfl) (sh_r hs 100 rfl) dX12_judge_46 ?_
  refine ab_sipush (v := 249) dX12_judge_49 (by decide) ?_
  refine ab_iald (sh_k hs 84 14 (by decide) rfl) (sh_in hs 84 5860 (by decide) (by decide) rfl (by unfold vp_in; decide)) dX12_judge_52 ?_
  refine ab_icmp_ge (tgt := 153) dX12_judge_53 (by decide) (fun c14 => ?_) (fun c14 => ?_)
  · have ht := ht.1 c14
    refine ab_iinc (i := 5) (x := x5) (v := (x5 + 1)) (L' := [some (.ref 82), some (.int x1), some (.int x2), some (.int x3), some (.int x4), some (.int (x5 + 1)), some (.int x6), some (.int x7)]) dX12_judge_153 rfl rfl (by exact (Nat.le_of_ble_eq_true rfl)) rfl rfl ?_
    refine ab_goto (tgt := 25) dX12_judge_156 (by decide) ?_
    exact Wp.fewer (L' := [some (.ref 82), some (.int x1), some (.int x2), some (.int x3), some (.int x4), some (.int (x5 + 1)), none, none]) (show ab_leL _ _ from ⟨rfl, ⟨rfl, ⟨rfl, ⟨rfl, ⟨rfl, ⟨rfl, trivial⟩⟩⟩⟩⟩⟩) ht
  · have ht := ht.2 c14
    refine ab_iload (i := 5) dX12_judge_56 rfl ?_
    refine ab_aload_n (i := 0) dX12_judge_58 rfl rfl ?_
    refine ab_getR (b := 84) f_X12_20 rfl (sh_k hs 82 12 (by decide) rfl) (sh_r hs 100 rfl) dX12_judge_59 ?_
    refine ab_sipush (v := 200) dX12_judge_62 (by decide) ?_
    refine ab_iconst (v := 3) dX12_judge_65 (by decide) ?_
    refine ab_iload (i := 7) dX12_judge_66 rfl ?_
    refine ab_imul dX12_judge_68 ?_
    refine ab_iadd dX12_judge_69 ?_
    refine ab_iconst (v := 1) dX12_judge_70 (by decide) ?_
    refine ab_iadd dX12_judge_71 ?_
    obtain ⟨hc15, ht⟩ := ht
    refine ab_iald (sh_k hs 84 14 (by decide) rfl) hc15 dX12_judge_72 ?_
    refine ab_aload_n (i := 0) dX12_judge_73 rfl rfl ?_
    refine ab_getR (b := 84) f_X12_20 rfl (sh_k hs 82 12 (by decide) rfl) (sh_r hs 100 rfl) dX12_judge_74 ?_
    refine ab_sipush (v := 200) dX12_judge_77 (by decide) ?_
    refine ab_iconst (v := 3) dX12_judge_80 (by decide) ?_
    refine ab_iload (i := 7) dX12_judge_81 rfl ?_
    refine ab_imul dX12_judge_83 ?_
    refine ab_iadd dX12_judge_84 ?_
    refine ab_iconst (v := 2) dX12_judge_85 (by decide) ?_
    refine ab_iadd dX12_judge_86 ?_
    obtain ⟨hc16, ht⟩ := ht
    refine ab_iald (sh_k hs 84 14 (by decide) rfl) hc16 dX12_judge_87 ?_
    refine ab_callS (Q' := fun r h' => r = some (.int (f_X12_lies x5 (ah_i h 84 (Int32.toNatClampNeg ((200 + (3 * x7)) + 1))) (ah_i h 84 (Int32.toNatClampNeg ((200 + (3 * x7)) + 2))))) ∧ h = h') (As := [.int x5, .int (ah_i h 84 (Int32.toNatClampNeg ((200 + (3 * x7)) + 1))), .int (ah_i h 84 (Int32.toNatClampNeg ((200 + (3 * x7)) + 2)))]) (c_X12_lies hs x5 (ah_i h 84 (Int32.toNatClampNeg ((200 + (3 * x7)) + 1))) (ah_i h 84 (Int32.toNatClampNeg ((200 + (3 * x7)) + 2))) ⟨rfl, rfl⟩) (Y_X12_lies) l_X12_156 st_X12_lies rfl ⟨(Nat.le_of_ble_eq_true rfl), (Nat.le_of_ble_eq_true rfl), (Nat.le_of_ble_eq_true rfl), (Nat.le_of_ble_eq_true rfl)⟩ dX12_judge_88 ?_
    rintro _ _ ⟨rfl, rfl⟩
    refine ab_if_eq (tgt := 147) dX12_judge_91 (by decide) (fun c17 => ?_) (fun c17 => ?_)
    · have ht := ht.1 c17
      refine ab_iinc (i := 7) (x := x7) (v := (x7 + 1)) (L' := [some (.ref 82), some (.int x1), some (.int x2), some (.int x3), some (.int x4), some (.int x5), some (.int x6), some (.int (x7 + 1))]) dX12_judge_147 rfl rfl (by exact (Nat.le_of_ble_eq_true rfl)) rfl rfl ?_
      refine ab_goto (tgt := 43) dX12_judge_150 (by decide) ?_
      exact Wp.fewer (L' := [some (.ref 82), some (.int x1), some (.int x2), some (.int x3), some (.int x4), some (.int x5), some (.int x6), some (.int (x7 + 1))]) (show ab_leL _ _ from ⟨rfl, ⟨rfl, ⟨rfl, ⟨rfl, ⟨rfl, ⟨rfl, ⟨rfl, ⟨rfl, trivial⟩⟩⟩⟩⟩⟩⟩⟩) ht
    · have ht := ht.2 c17
      refine ab_iload (i := 6) dX12_judge_94 rfl ?_
      refine ab_aload_n (i := 0) dX12_judge_96 rfl rfl ?_
      refine ab_getR (b := 84) f_X12_20 rfl (sh_k hs 82 12 (by decide) rfl) (sh_r hs 100 rfl) dX12_judge_97 ?_
      refine ab_sipush (v := 200) dX12_judge_100 (by decide) ?_
      refine ab_iconst (v := 3) dX12_judge_103 (by decide) ?_
      refine ab_iload (i := 7) dX12_judge_104 rfl ?_
      refine ab_imul dX12_judge_106 ?_
      refine ab_iadd dX12_judge_107 ?_
      obtain ⟨hc18, ht⟩ := ht
      refine ab_iald (sh_k hs 84 14 (by decide) rfl) hc18 dX12_judge_108 ?_
      refine ab_callS (Q' := fun r h' => r = some (.int (f_X12_isIn x6 (ah_i h 84 (Int32.toNatClampNeg (200 + (3 * x7)))))) ∧ h = h') (As := [.int x6, .int (ah_i h 84 (Int32.toNatClampNeg (200 + (3 * x7))))]) (c_X12_isIn hs x6 (ah_i h 84 (Int32.toNatClampNeg (200 + (3 * x7)))) ⟨rfl, rfl⟩) (Y_X12_isIn) l_X12_367 st_X12_isIn rfl ⟨(Nat.le_of_ble_eq_true rfl), (Nat.le_of_ble_eq_true rfl), (Nat.le_of_ble_eq_true rfl), (Nat.le_of_ble_eq_true rfl)⟩ dX12_judge_109 ?_
      rintro _ _ ⟨rfl, rfl⟩
      refine ab_if_eq (tgt := 118) dX12_judge_112 (by decide) (fun c19 => ?_) (fun c19 => ?_)
      · have ht := ht.1 c19
        refine ab_iload_n (i := 2) dX12_judge_118 rfl rfl ?_
        refine ab_iconst (v := (-1)) dX12_judge_119 (by decide) ?_
        refine ab_icmp_ne (tgt := 126) dX12_judge_120 (by decide) (fun c20 => ?_) (fun c20 => ?_)
        · have ht := ht.1 c20
          refine ab_iload_n (i := 2) dX12_judge_126 rfl rfl ?_
          refine ab_iconst (v := (-1)) dX12_judge_127 (by decide) ?_
          refine ab_icmp_ne (tgt := 136) dX12_judge_128 (by decide) (fun c21 => ?_) (fun c21 => ?_)
          · have ht := ht.1 c21
            refine ab_iload_n (i := 2) dX12_judge_136 rfl rfl ?_
            refine ab_istore_n (i := 2) (L' := [some (.ref 82), some (.int x1), some (.int x2), some (.int x3), some (.int x4), some (.int x5), some (.int x6), some (.int x7)]) dX12_judge_137 rfl (by exact (Nat.le_of_ble_eq_true rfl)) rfl rfl ?_
            refine ab_iload (i := 4) dX12_judge_138 rfl ?_
            refine ab_iconst (v := 1) dX12_judge_140 (by decide) ?_
            refine ab_iload (i := 7) dX12_judge_141 rfl ?_
            refine ab_ishl dX12_judge_143 ?_
            refine ab_ior dX12_judge_144 ?_
            refine ab_istore (i := 4) (L' := [some (.ref 82), some (.int x1), some (.int x2), some (.int x3), some (.int (x4 ||| ((1 : Int32) <<< (x7 &&& 31)))), some (.int x5), some (.int x6), some (.int x7)]) dX12_judge_145 (by exact (Nat.le_of_ble_eq_true rfl)) rfl rfl ?_
            refine ab_iinc (i := 7) (x := x7) (v := (x7 + 1)) (L' := [some (.ref 82), some (.int x1), some (.int x2), some (.int x3), some (.int (x4 ||| ((1 : Int32) <<< (x7 &&& 31)))), some (.int x5), some (.int x6), some (.int (x7 + 1))]) dX12_judge_147 rfl rfl (by exact (Nat.le_of_ble_eq_true rfl)) rfl rfl ?_
            refine ab_goto (tgt := 43) dX12_judge_150 (by decide) ?_
            exact Wp.fewer (L' := [some (.ref 82), some (.int x1), some (.int x2), some (.int x3), some (.int (x4 ||| ((1 : Int32) <<< (x7 &&& 31)))), some (.int x5), some (.int x6), some (.int (x7 + 1))]) (show ab_leL _ _ from ⟨rfl, ⟨rfl, ⟨rfl, ⟨rfl, ⟨rfl, ⟨rfl, ⟨rfl, ⟨rfl, trivial⟩⟩⟩⟩⟩⟩⟩⟩) ht
          · have ht := ht.2 c21
            refine ab_iload (i := 7) dX12_judge_131 rfl ?_
            refine ab_goto (tgt := 137) dX12_judge_133 (by decide) ?_
            refine ab_istore_n (i := 2) (L' := [some (.ref 82), some (.int x1), some (.int x7), some (.int x3), some (.int x4), some (.int x5), some (.int x6), some (.int x7)]) dX12_judge_137 rfl (by exact (Nat.le_of_ble_eq_true rfl)) rfl rfl ?_
            refine ab_iload (i := 4) dX12_judge_138 rfl ?_
            refine ab_iconst (v := 1) dX12_judge_140 (by decide) ?_
            refine ab_iload (i := 7) dX12_judge_141 rfl ?_
            refine ab_ishl dX12_judge_143 ?_
            refine ab_ior dX12_judge_144 ?_
            refine ab_istore (i := 4) (L' := [some (.ref 82), some (.int x1), some (.int x7), some (.int x3), some (.int (x4 ||| ((1 : Int32) <<< (x7 &&& 31)))), some (.int x5), some (.int x6), some (.int x7)]) dX12_judge_145 (by exact (Nat.le_of_ble_eq_true rfl)) rfl rfl ?_
            refine ab_iinc (i := 7) (x := x7) (v := (x7 + 1)) (L' := [some (.ref 82), some (.int x1), some (.int x7), some (.int x3), some (.int (x4 ||| ((1 : Int32) <<< (x7 &&& 31)))), some (.int x5), some (.int x6), some (.int (x7 + 1))]) dX12_judge_147 rfl rfl (by exact (Nat.le_of_ble_eq_true rfl)) rfl rfl ?_
            refine ab_goto (tgt := 43) dX12_judge_150 (by decide) ?_
            exact Wp.fewer (L' := [some (.ref 82), some (.int x1), some (.int x7), some (.int x3), some (.int (x4 ||| ((1 : Int32) <<< (x7 &&& 31)))), some (.int x5), some (.int x6), some (.int (x7 + 1))]) (show ab_leL _ _ from ⟨rfl, ⟨rfl, ⟨rfl, ⟨rfl, ⟨rfl, ⟨rfl, ⟨rfl, ⟨rfl, trivial⟩⟩⟩⟩⟩⟩⟩⟩) ht
        · have ht := ht.2 c20
          refine ab_iload (i := 5) dX12_judge_123 rfl ?_
          refine ab_istore_n (i := 3) (L' := [some (.ref 82), some (.int x1), some (.int x2), some (.int x5), some (.int x4), some (.int x5), some (.int x6), some (.int x7)]) dX12_judge_125 rfl (by exact (Nat.le_of_ble_eq_true rfl)) rfl rfl ?_
          refine ab_iload_n (i := 2) dX12_judge_126 rfl rfl ?_
          refine ab_iconst (v := (-1)) dX12_judge_127 (by decide) ?_
          refine ab_icmp_ne (tgt := 136) dX12_judge_128 (by decide) (fun c22 => ?_) (fun c22 => ?_)
          · have ht := ht.1 c22
            refine ab_iload_n (i := 2) dX12_judge_136 rfl rfl ?_
            refine ab_istore_n (i := 2) (L' := [some (.ref 82), some (.int x1), some (.int x2), some (.int x5), some (.int x4), some (.int x5), some (.int x6), some (.int x7)]) dX12_judge_137 rfl (by exact (Nat.le_of_ble_eq_true rfl)) rfl rfl ?_
            refine ab_iload (i := 4) dX12_judge_138 rfl ?_
            refine ab_iconst (v := 1) dX12_judge_140 (by decide) ?_
            refine ab_iload (i := 7) dX12_judge_141 rfl ?_
            refine ab_ishl dX12_judge_143 ?_
            refine ab_ior dX12_judge_144 ?_
            refine ab_istore (i := 4) (L' := [some (.ref 82), some (.int x1), some (.int x2), some (.int x5), some (.int (x4 ||| ((1 : Int32) <<< (x7 &&& 31)))), some (.int x5), some (.int x6), some (.int x7)]) dX12_judge_145 (by exact (Nat.le_of_ble_eq_true rfl)) rfl rfl ?_
            refine ab_iinc (i := 7) (x := x7) (v := (x7 + 1)) (L' := [some (.ref 82), some (.int x1), some (.int x2), some (.int x5), some (.int (x4 ||| ((1 : Int32) <<< (x7 &&& 31)))), some (.int x5), some (.int x6), some (.int (x7 + 1))]) dX12_judge_147 rfl rfl (by exact (Nat.le_of_ble_eq_true rfl)) rfl rfl ?_
            refine ab_goto (tgt := 43) dX12_judge_150 (by decide) ?_
            exact Wp.fewer (L' := [some (.ref 82), some (.int x1), some (.int x2), some (.int x5), some (.int (x4 ||| ((1 : Int32) <<< (x7 &&& 31)))), some (.int x5), some (.int x6), some (.int (x7 + 1))]) (show ab_leL _ _ from ⟨rfl, ⟨rfl, ⟨rfl, ⟨rfl, ⟨rfl, ⟨rfl, ⟨rfl, ⟨rfl, trivial⟩⟩⟩⟩⟩⟩⟩⟩) ht
          · have ht := ht.2 c22
            refine ab_iload (i := 7) dX12_judge_131 rfl ?_
            refine ab_goto (tgt := 137) dX12_judge_133 (by decide) ?_
            refine ab_istore_n (i := 2) (L' := [some (.ref 82), some (.int x1), some (.int x7), some (.int x5), some (.int x4), some (.int x5), some (.int x6), some (.int x7)]) dX12_judge_137 rfl (by exact (Nat.le_of_ble_eq_true rfl)) rfl rfl ?_
            refine ab_iload (i := 4) dX12_judge_138 rfl ?_
            refine ab_iconst (v := 1) dX12_judge_140 (by decide) ?_
            refine ab_iload (i := 7) dX12_judge_141 rfl ?_
            refine ab_ishl dX12_judge_143 ?_
            refine ab_ior dX12_judge_144 ?_
            refine ab_istore (i := 4) (L' := [some (.ref 82), some (.int x1), some (.int x7), some (.int x5), some (.int (x4 ||| ((1 : Int32) <<< (x7 &&& 31)))), some (.int x5), some (.int x6), some (.int x7)]) dX12_judge_145 (by exact (Nat.le_of_ble_eq_true rfl)) rfl rfl ?_
            refine ab_iinc (i := 7) (x := x7) (v := (x7 + 1)) (L' := [some (.ref 82), some (.int x1), some (.int x7), some (.int x5), some (.int (x4 ||| ((1 : Int32) <<< (x7 &&& 31)))), some (.int x5), some (.int x6), some (.int (x7 + 1))]) dX12_judge_147 rfl rfl (by exact (Nat.le_of_ble_eq_true rfl)) rfl rfl ?_
            refine ab_goto (tgt := 43) dX12_judge_150 (by decide) ?_
            exact Wp.fewer (L' := [some (.ref 82), some (.int x1), some (.int x7), some (.int x5), some (.int (x4 ||| ((1 : Int32) <<< (x7 &&& 31)))), some (.int x5), some (.int x6), some (.int (x7 + 1))]) (show ab_leL _ _ from ⟨rfl, ⟨rfl, ⟨rfl, ⟨rfl, ⟨rfl, ⟨rfl, ⟨rfl, ⟨rfl, trivial⟩⟩⟩⟩⟩⟩⟩⟩) ht
      · have ht := ht.2 c19
        refine ab_goto (tgt := 147) dX12_judge_115 (by decide) ?_
        refine ab_iinc (i := 7) (x := x7) (v := (x7 + 1)) (L' := [some (.ref 82), some (.int x1), some (.int x2), some (.int x3), some (.int x4), some (.int x5), some (.int x6), some (.int (x7 + 1))]) dX12_judge_147 rfl rfl (by exact (Nat.le_of_ble_eq_true rfl)) rfl rfl ?_
        refine ab_goto (tgt := 43) dX12_judge_150 (by decide) ?_
        exact Wp.fewer (L' := [some (.ref 82), some (.int x1), some (.int x2), some (.int x3), some (.int x4), some (.int x5), some (.int x6), some (.int (x7 + 1))]) (show ab_leL _ _ from ⟨rfl, ⟨rfl, ⟨rfl, ⟨rfl, ⟨rfl, ⟨rfl, ⟨rfl, ⟨rfl, trivial⟩⟩⟩⟩⟩⟩⟩⟩) ht
set_option maxRecDepth 20000 in
theorem T_X12_judge {Q : Option Value → ah_T → Prop} {h : ah_T} (hs : Sh h) (x1 : Int32) (ht : ((¬ (f_X12_lies x1 0 2) = 0 → (Mt mX12_laysNight [.ref 82] h (ab_qv fun h2 => Sh h2 ∧ Wp mX12_judge Q 0 0 25 [some (.ref 82), some (.int x1), some (.int (-1)), some (.int (-1)), some (.int 0), some (.int 0), none, none] [] h2))) ∧ ((f_X12_lies x1 0 2) = 0 → Q (some (.int (-1))) h))) : Mt mX12_judge [.ref 82, .int x1] h Q := by
  refine Mt.ofWp rfl (by exact (Nat.le_of_ble_eq_true rfl)) (Wp.fewer (L' := [some (.ref 82), some (.int x1), none, none, none, none, none, none]) (show ab_leL _ _ from ⟨rfl, ⟨rfl, trivial⟩⟩) ?_)
  refine ab_iload_n (i := 1) dX12_judge_0 rfl rfl ?_
  refine ab_iconst (v := 0) dX12_judge_1 (by decide) ?_
  refine ab_iconst (v := 2) dX12_judge_2 (by decide) ?_
  refine ab_callS (Q' := fun r h' => r = some (.int (f_X12_lies x1 0 2)) ∧ h = h') (As := [.int x1, .int 0, .int 2]) (c_X12_lies hs x1 0 2 ⟨rfl, rfl⟩) (Y_X12_lies) l_X12_156 st_X12_lies rfl ⟨(Nat.le_of_ble_eq_true rfl), (Nat.le_of_ble_eq_true rfl), (Nat.le_of_ble_eq_true rfl), (Nat.le_of_ble_eq_true rfl)⟩ dX12_judge_3 ?_
  rintro _ _ ⟨rfl, rfl⟩
  refine ab_if_ne (tgt := 11) dX12_judge_6 (by decide) (fun c1 => ?_) (fun c1 => ?_)
  · have ht := ht.1 c1
    refine ab_aload_n (i := 0) dX12_judge_11 rfl rfl ?_
    refine ab_callV (b := 82) (As := []) ht (Y_X12_laysNight) l_X12_430 in_X12_laysNight se_X12_laysNight (sh_k hs 82 12 (by decide) rfl) (by decide) rfl rfl ⟨(Nat.le_of_ble_eq_true rfl), (Nat.le_of_ble_eq_true rfl), (Nat.le_of_ble_eq_true rfl), (Nat.le_of_ble_eq_true rfl)⟩ dX12_judge_12 ?_
    rintro _ h2 ⟨rfl, hs3, ht⟩
    refine ab_iconst (v := (-1)) dX12_judge_15 (by decide) ?_
    refine ab_istore_n (i := 2) (L' := [some (.ref 82), some (.int x1), some (.int (-1)), none, none, none, none, none]) dX12_judge_16 rfl (by exact (Nat.le_of_ble_eq_true rfl)) rfl rfl ?_
    refine ab_iconst (v := (-1)) dX12_judge_17 (by decide) ?_
    refine ab_istore_n (i := 3) (L' := [some (.ref 82), some (.int x1), some (.int (-1)), some (.int (-1)), none, none, none, none]) dX12_judge_18 rfl (by exact (Nat.le_of_ble_eq_true rfl)) rfl rfl ?_
    refine ab_iconst (v := 0) dX12_judge_19 (by decide) ?_
    refine ab_istore (i := 4) (L' := [some (.ref 82), some (.int x1), some (.int (-1)), some (.int (-1)), some (.int 0), none, none, none]) dX12_judge_20 (by exact (Nat.le_of_ble_eq_true rfl)) rfl rfl ?_
    refine ab_iconst (v := 0) dX12_judge_22 (by decide) ?_
    refine ab_istore (i := 5) (L' := [some (.ref 82), some (.int x1), some (.int (-1)), some (.int (-1)), some (.int 0), some (.int 0), none, none]) dX12_judge_23 (by exact (Nat.le_of_ble_eq_true rfl)) rfl rfl ?_
    exact Wp.fewer (L' := [some (.ref 82), some (.int x1), some (.int (-1)), some (.int (-1)), some (.int 0), some (.int 0), none, none]) (show ab_leL _ _ from ⟨rfl, ⟨rfl, ⟨rfl, ⟨rfl, ⟨rfl, ⟨rfl, trivial⟩⟩⟩⟩⟩⟩) ht
  · have ht := ht.2 c1
    refine ab_iconst (v := (-1)) dX12_judge_9 (by decide) ?_
    exact ab_iret rfl dX12_judge_10 (Nat.le_of_ble_eq_true rfl) (Nat.le_of_ble_eq_true rfl) ht
theorem dX12_leftFrom_0 : decode cX12_leftFrom 0 = .ok (.iload_n 1, 1) := by decide +kernel
theorem dX12_leftFrom_1 : decode cX12_leftFrom 1 = .ok (.iconst 1, 1) := by decide +kernel
theorem dX12_leftFrom_2 : decode cX12_leftFrom 2 = .ok (.aload_n 0, 1) := by decide +kernel
theorem dX12_leftFrom_3 : decode cX12_leftFrom 3 = .ok (.getfield 378, 3) := by decide +kernel
theorem dX12_leftFrom_6 : decode cX12_leftFrom 6 = .ok (.ishl, 1) := by decide +kernel
theorem dX12_leftFrom_7 : decode cX12_leftFrom 7 = .ok (.iconst 1, 1) := by decide +kernel
theorem dX12_leftFrom_8 : decode cX12_leftFrom 8 = .ok (.isub, 1) := by decide +kernel
theorem dX12_leftFrom_9 : decode cX12_leftFrom 9 = .ok (.if_icmp .ne 7, 3) := by decide +kernel
theorem dX12_leftFrom_12 : decode cX12_leftFrom 12 = .ok (.iconst 0, 1) := by decide +kernel
theorem dX12_leftFrom_13 : decode cX12_leftFrom 13 = .ok (.goto 5, 3) := by decide +kernel
theorem dX12_leftFrom_16 : decode cX12_leftFrom 16 = .ok (.ldc 232, 2) := by decide +kernel
theorem dX12_leftFrom_18 : decode cX12_leftFrom 18 = .ok (.istore_n 3, 1) := by decide +kernel
theorem dX12_leftFrom_19 : decode cX12_leftFrom 19 = .ok (.iconst 0, 1) := by decide +kernel
theorem dX12_leftFrom_20 : decode cX12_leftFrom 20 = .ok (.istore 4, 2) := by decide +kernel
theorem dX12_leftFrom_22 : decode cX12_leftFrom 22 = .ok (.iload 4, 2) := by decide +kernel
theorem dX12_leftFrom_24 : decode cX12_leftFrom 24 = .ok (.aload_n 0, 1) := by decide +kernel
theorem dX12_leftFrom_25 : decode cX12_leftFrom 25 = .ok (.getfield 378, 3) := by decide +kernel
theorem dX12_leftFrom_28 : decode cX12_leftFrom 28 = .ok (.if_icmp .ge 31, 3) := by decide +kernel
theorem dX12_leftFrom_31 : decode cX12_leftFrom 31 = .ok (.iload_n 1, 1) := by decide +kernel
theorem dX12_leftFrom_32 : decode cX12_leftFrom 32 = .ok (.iload 4, 2) := by decide +kernel
theorem dX12_leftFrom_34 : decode cX12_leftFrom 34 = .ok (.invokestatic 367, 3) := by decide +kernel
theorem dX12_leftFrom_37 : decode cX12_leftFrom 37 = .ok (.ifCond .ne 16, 3) := by decide +kernel
theorem dX12_leftFrom_40 : decode cX12_leftFrom 40 = .ok (.iload_n 3, 1) := by decide +kernel
theorem dX12_leftFrom_41 : decode cX12_leftFrom 41 = .ok (.aload_n 0, 1) := by decide +kernel
theorem dX12_leftFrom_42 : decode cX12_leftFrom 42 = .ok (.iload_n 1, 1) := by decide +kernel
theorem dX12_leftFrom_43 : decode cX12_leftFrom 43 = .ok (.iload_n 2, 1) := by decide +kernel
theorem dX12_leftFrom_44 : decode cX12_leftFrom 44 = .ok (.iload 4, 2) := by decide +kernel
theorem dX12_leftFrom_46 : decode cX12_leftFrom 46 = .ok (.invokevirtual 442, 3) := by decide +kernel
theorem dX12_leftFrom_49 : decode cX12_leftFrom 49 = .ok (.invokestatic 167, 3) := by decide +kernel
theorem dX12_leftFrom_52 : decode cX12_leftFrom 52 = .ok (.istore_n 3, 1) := by decide +kernel
theorem dX12_leftFrom_53 : decode cX12_leftFrom 53 = .ok (.iinc 4 1, 3) := by decide +kernel
theorem dX12_leftFrom_56 : decode cX12_leftFrom 56 = .ok (.goto (-34), 3) := by decide +kernel
theorem dX12_leftFrom_59 : decode cX12_leftFrom 59 = .ok (.iload_n 3, 1) := by decide +kernel
theorem dX12_leftFrom_60 : decode cX12_leftFrom 60 = .ok (.ireturn, 1) := by decide +kernel
set_option maxRecDepth 20000 in
theorem T_X12_leftFrom_22 {Q : Option Value → ah_T → Prop} {h : ah_T} (hs : Sh h) (x1 : Int32) (x2 : Int32) (x3 : Int32) (x4 : Int32) (ht : (((ah_i h 82 41) ≤ x4 → Q (some (.int x3)) h) ∧ (¬ (ah_i h 82 41) ≤ x4 → ((¬ (f_X12_isIn x1 x4) = 0 → Wp mX12_leftFrom Q 0 0 22 [some (.ref 82), some (.int x1), some (.int x2), some (.int x3), some (.int (x4 + 1))] [] h) ∧ ((f_X12_isIn x1 x4) = 0 → (vp_in x4 (ah_n h 100)) ∧ (vp_in ((12 * x2) + (ah_i h 100 (Int32.toNatClampNeg x4))) (ah_n h 98)) ∧ ((¬ (ah_i h 98 (Int32.toNatClampNeg ((12 * x2) + (ah_i h 100 (Int32.toNatClampNeg x4))))) = (-1) → vp_in ((12 * x2) + (ah_i h 100 (Int32.toNatClampNeg x4))) (ah_n h 98))) ∧ (vp_in ((10 * (x1 ||| ((1 : Int32) <<< (x4 &&& 31)))) + x4) (ah_n h 112)) ∧ Wp mX12_leftFrom Q 0 0 22 [some (.ref 82), some (.int x1), some (.int x2), some (.int (f_X12_lesser x3 (f_X12_viaLamp h x1 x2 x4))), some (.int (x4 + 1))] [] h))))) : Wp mX12_leftFrom Q 0 0 22 [some (.ref 82), some (.int x1), some (.int x2), some (.int x3), some (.int x4)] [] h := by
  refine ab_iload (i := 4) dX12_leftFrom_22 rfl ?_
  refine ab_aload_n (i := 0) dX12_leftFrom_24 rfl rfl ?_
  refine ab_getI f_X12_378 rfl (sh_k hs 82 12 (by decide) rfl) dX12_leftFrom_25 ?_
  refine ab_icmp_ge (tgt := 59) dX12_leftFrom_28 (by decide) (fun c2 => ?_) (fun c2 => ?_)
  · have ht := ht.1 c2
    refine ab_iload_n (i := 3) dX12_leftFrom_59 rfl rfl ?_
    exact ab_iret rfl dX12_leftFrom_60 (Nat.le_of_ble_eq_true rfl) (Nat.le_of_ble_eq_true rfl) ht
  · have ht := ht.2 c2
    refine ab_iload_n (i := 1) dX12_leftFrom_31 rfl rfl ?_
    refine ab_iload (i := 4) dX12_leftFrom_32 rfl ?_
    refine ab_callS (Q' := fun r h' => r = some (.int (f_X12_isIn x1 x4)) ∧ h = h') (As := [.int x1, .int x4]) (c_X12_isIn hs x1 x4 ⟨rfl, rfl⟩) (Y_X12_isIn) l_X12_367 st_X12_isIn rfl ⟨(Nat.le_of_ble_eq_true rfl), (Nat.le_of_ble_eq_true rfl), (Nat.le_of_ble_eq_true rfl), (Nat.le_of_ble_eq_true rfl)⟩ dX12_leftFrom_34 ?_
    rintro _ _ ⟨rfl, rfl⟩
    refine ab_if_ne (tgt := 53) dX12_leftFrom_37 (by decide) (fun c3 => ?_) (fun c3 => ?_)
    · have ht := ht.1 c3
      refine ab_iinc (i := 4) (x := x4) (v := (x4 + 1)) (L' := [some (.ref 82), some (.int x1), some (.int x2), some (.int x3), some (.int (x4 + 1))]) dX12_leftFrom_53 rfl rfl (by exact (Nat.le_of_ble_eq_true rfl)) rfl rfl ?_
      refine ab_goto (tgt := 22) dX12_leftFrom_56 (by decide) ?_
      exact Wp.fewer (L' := [some (.ref 82), some (.int x1), some (.int x2), some (.int x3), some (.int (x4 + 1))]) (show ab_leL _ _ from ⟨rfl, ⟨rfl, ⟨rfl, ⟨rfl, ⟨rfl, trivial⟩⟩⟩⟩⟩) ht
    · have ht := ht.2 c3
      refine ab_iload_n (i := 3) dX12_leftFrom_40 rfl rfl ?_
      refine ab_aload_n (i := 0) dX12_leftFrom_41 rfl rfl ?_
      refine ab_iload_n (i := 1) dX12_leftFrom_42 rfl rfl ?_
      refine ab_iload_n (i := 2) dX12_leftFrom_43 rfl rfl ?_
      refine ab_iload (i := 4) dX12_leftFrom_44 rfl ?_
      obtain ⟨hc4, ht⟩ := ht
      obtain ⟨hc5, ht⟩ := ht
      obtain ⟨hc6, ht⟩ := ht
      obtain ⟨hc7, ht⟩ := ht
      refine ab_callV (b := 82) (Q' := fun r h' => r = some (.int (f_X12_viaLamp h x1 x2 x4)) ∧ h = h') (As := [.int x1, .int x2, .int x4]) (c_X12_viaLamp hs x1 x2 x4  hc4 hc5 hc6 hc7 ⟨rfl, rfl⟩) (Y_X12_viaLamp) l_X12_442 in_X12_viaLamp se_X12_viaLamp (sh_k hs 82 12 (by decide) rfl) (by decide) rfl rfl ⟨(Nat.le_of_ble_eq_true rfl), (Nat.le_of_ble_eq_true rfl), (Nat.le_of_ble_eq_true rfl), (Nat.le_of_ble_eq_true rfl)⟩ dX12_leftFrom_46 ?_
      rintro _ _ ⟨rfl, rfl⟩
      refine ab_callS (Q' := fun r h' => r = some (.int (f_X12_lesser x3 (f_X12_viaLamp h x1 x2 x4))) ∧ h = h') (As := [.int x3, .int (f_X12_viaLamp h x1 x2 x4)]) (c_X12_lesser hs x3 (f_X12_viaLamp h x1 x2 x4) ⟨rfl, rfl⟩) (Y_X12_lesser) l_X12_167 st_X12_lesser rfl ⟨(Nat.le_of_ble_eq_true rfl), (Nat.le_of_ble_eq_true rfl), (Nat.le_of_ble_eq_true rfl), (Nat.le_of_ble_eq_true rfl)⟩ dX12_leftFrom_49 ?_
      rintro _ _ ⟨rfl, rfl⟩
      refine ab_istore_n (i := 3) (L' := [some (.ref 82), some (.int x1), some (.int x2), some (.int (f_X12_lesser x3 (f_X12_viaLamp h x1 x2 x4))), some (.int x4)]) dX12_leftFrom_52 rfl (by exact (Nat.le_of_ble_eq_true rfl)) rfl rfl ?_
      refine ab_iinc (i := 4) (x := x4) (v := (x4 + 1)) (L' := [some (.ref 82), some (.int x1), some (.int x2), some (.int (f_X12_lesser x3 (f_X12_viaLamp h x1 x2 x4))), some (.int (x4 + 1))]) dX12_leftFrom_53 rfl rfl (by exact (Nat.le_of_ble_eq_true rfl)) rfl rfl ?_
      refine ab_goto (tgt := 22) dX12_leftFrom_56 (by decide) ?_
      exact Wp.fewer (L' := [some (.ref 82), some (.int x1), some (.int x2), some (.int (f_X12_lesser x3 (f_X12_viaLamp h x1 x2 x4))), some (.int (x4 + 1))]) (show ab_leL _ _ from ⟨rfl, ⟨rfl, ⟨rfl, ⟨rfl, ⟨rfl, trivial⟩⟩⟩⟩⟩) ht
set_option maxRecDepth 20000 in
theorem T_X12_leftFrom {Q : Option Value → ah_T → Prop} {h : ah_T} (hs : Sh h) (x1 : Int32) (x2 : Int32) (ht : ((¬ x1 = (((1 : Int32) <<< ((ah_i h 82 41) &&& 31)) - 1) → Wp mX12_leftFrom Q 0 0 22 [some (.ref 82), some (.int x1), some (.int x2), some (.int 1000000), some (.int 0)] [] h) ∧ (x1 = (((1 : Int32) <<< ((ah_i h 82 41) &&& 31)) - 1) → Wp mX12_leftFrom Q 0 0 22 [some (.ref 82), some (.int x1), some (.int x2), some (.int 0), some (.int 0)] [] h))) : Mt mX12_leftFrom [.ref 82, .int x1, .int x2] h Q := by
  refine Mt.ofWp rfl (by exact (Nat.le_of_ble_eq_true rfl)) (Wp.fewer (L' := [some (.ref 82), some (.int x1), some (.int x2), none, none]) (show ab_leL _ _ from ⟨rfl, ⟨rfl, ⟨rfl, trivial⟩⟩⟩) ?_)
  refine ab_iload_n (i := 1) dX12_leftFrom_0 rfl rfl ?_
  refine ab_iconst (v := 1) dX12_leftFrom_1 (by decide) ?_
  refine ab_aload_n (i := 0) dX12_leftFrom_2 rfl rfl ?_
  refine ab_getI f_X12_378 rfl (sh_k hs 82 12 (by decide) rfl) dX12_leftFrom_3 ?_
  refine ab_ishl dX12_leftFrom_6 ?_
  refine ab_iconst (v := 1) dX12_leftFrom_7 (by decide) ?_
  refine ab_isub dX12_leftFrom_8 ?_
  refine ab_icmp_ne (tgt := 16) dX12_leftFrom_9 (by decide) (fun c1 => ?_) (fun c1 => ?_)
  · have ht := ht.1 c1
    refine ab_ldc (v := 1000000) (tb_8 (List.mem_of_getElem? (i := 138) (by decide +kernel)) rfl) dX12_leftFrom_16 ?_
    refine ab_istore_n (i := 3) (L' := [some (.ref 82), some (.int x1), some (.int x2), some (.int 1000000), none]) dX12_leftFrom_18 rfl (by exact (Nat.le_of_ble_eq_true rfl)) rfl rfl ?_
    refine ab_iconst (v := 0) dX12_leftFrom_19 (by decide) ?_
    refine ab_istore (i := 4) (L' := [some (.ref 82), some (.int x1), some (.int x2), some (.int 1000000), some (.int 0)]) dX12_leftFrom_20 (by exact (Nat.le_of_ble_eq_true rfl)) rfl rfl ?_
    exact Wp.fewer (L' := [some (.ref 82), some (.int x1), some (.int x2), some (.int 1000000), some (.int 0)]) (show ab_leL _ _ from ⟨rfl, ⟨rfl, ⟨rfl, ⟨rfl, ⟨rfl, trivial⟩⟩⟩⟩⟩) ht
  · have ht := ht.2 c1
    refine ab_iconst (v := 0) dX12_leftFrom_12 (by decide) ?_
    refine ab_goto (tgt := 18) dX12_leftFrom_13 (by decide) ?_
    refine ab_istore_n (i := 3) (L' := [some (.ref 82), some (.int x1), some (.int x2), some (.int 0), none]) dX12_leftFrom_18 rfl (by exact (Nat.le_of_ble_eq_true rfl)) rfl rfl ?_
    refine ab_iconst (v := 0) dX12_leftFrom_19 (by decide) ?_
    refine ab_istore (i := 4) (L' := [some (.ref 82), some (.int x1), some (.int x2), some (.int 0), some (.int 0)]) dX12_leftFrom_20 (by exact (Nat.le_of_ble_eq_true rfl)) rfl rfl ?_
    exact Wp.fewer (L' := [some (.ref 82), some (.int x1), some (.int x2), some (.int 0), some (.int 0)]) (show ab_leL _ _ from ⟨rfl, ⟨rfl, ⟨rfl, ⟨rfl, ⟨rfl, trivial⟩⟩⟩⟩⟩) ht
