/-! ===== blocks of methods (printed by wip/whole/mkall.py) ===== -/
theorem dX12_round_0 : decode cX12_round 0 = .ok (.iload_n 1, 1) := by decide +kernel
theorem dX12_round_1 : decode cX12_round 1 = .ok (.invokestatic 174, 3) := by decide +kernel
theorem dX12_round_4 : decode cX12_round 4 = .ok (.ifCond .eq 8, 3) := by decide +kernel
theorem dX12_round_7 : decode cX12_round 7 = .ok (.iload_n 2, 1) := by decide +kernel
theorem dX12_round_8 : decode cX12_round 8 = .ok (.iconst (-1), 1) := by decide +kernel
theorem dX12_round_9 : decode cX12_round 9 = .ok (.if_icmp .ge 5, 3) := by decide +kernel
theorem dX12_round_12 : decode cX12_round 12 = .ok (.iconst (-1), 1) := by decide +kernel
theorem dX12_round_13 : decode cX12_round 13 = .ok (.ireturn, 1) := by decide +kernel
theorem dX12_round_14 : decode cX12_round 14 = .ok (.aload_n 0, 1) := by decide +kernel
theorem dX12_round_15 : decode cX12_round 15 = .ok (.invokevirtual 416, 3) := by decide +kernel
theorem dX12_round_18 : decode cX12_round 18 = .ok (.aload_n 0, 1) := by decide +kernel
theorem dX12_round_19 : decode cX12_round 19 = .ok (.aload_n 0, 1) := by decide +kernel
theorem dX12_round_20 : decode cX12_round 20 = .ok (.getfield 71, 3) := by decide +kernel
theorem dX12_round_23 : decode cX12_round 23 = .ok (.iconst 0, 1) := by decide +kernel
theorem dX12_round_24 : decode cX12_round 24 = .ok (.invokevirtual 374, 3) := by decide +kernel
theorem dX12_round_27 : decode cX12_round 27 = .ok (.iconst 1, 1) := by decide +kernel
theorem dX12_round_28 : decode cX12_round 28 = .ok (.aload_n 0, 1) := by decide +kernel
theorem dX12_round_29 : decode cX12_round 29 = .ok (.getfield 378, 3) := by decide +kernel
theorem dX12_round_32 : decode cX12_round 32 = .ok (.ishl, 1) := by decide +kernel
theorem dX12_round_33 : decode cX12_round 33 = .ok (.iconst 1, 1) := by decide +kernel
theorem dX12_round_34 : decode cX12_round 34 = .ok (.isub, 1) := by decide +kernel
theorem dX12_round_35 : decode cX12_round 35 = .ok (.istore_n 3, 1) := by decide +kernel
theorem dX12_round_36 : decode cX12_round 36 = .ok (.iload_n 3, 1) := by decide +kernel
theorem dX12_round_37 : decode cX12_round 37 = .ok (.ifCond .le 60, 3) := by decide +kernel
theorem dX12_round_40 : decode cX12_round 40 = .ok (.iconst 0, 1) := by decide +kernel
theorem dX12_round_41 : decode cX12_round 41 = .ok (.istore 4, 2) := by decide +kernel
theorem dX12_round_43 : decode cX12_round 43 = .ok (.iload 4, 2) := by decide +kernel
theorem dX12_round_45 : decode cX12_round 45 = .ok (.aload_n 0, 1) := by decide +kernel
theorem dX12_round_46 : decode cX12_round 46 = .ok (.getfield 378, 3) := by decide +kernel
theorem dX12_round_49 : decode cX12_round 49 = .ok (.if_icmp .ge 42, 3) := by decide +kernel
theorem dX12_round_52 : decode cX12_round 52 = .ok (.iload_n 3, 1) := by decide +kernel
theorem dX12_round_53 : decode cX12_round 53 = .ok (.iload 4, 2) := by decide +kernel
theorem dX12_round_55 : decode cX12_round 55 = .ok (.invokestatic 367, 3) := by decide +kernel
theorem dX12_round_58 : decode cX12_round 58 = .ok (.ifCond .eq 27, 3) := by decide +kernel
theorem dX12_round_61 : decode cX12_round 61 = .ok (.aload_n 0, 1) := by decide +kernel
theorem dX12_round_62 : decode cX12_round 62 = .ok (.getfield 116, 3) := by decide +kernel
theorem dX12_round_65 : decode cX12_round 65 = .ok (.bipush 10, 2) := by decide +kernel
theorem dX12_round_67 : decode cX12_round 67 = .ok (.iload_n 3, 1) := by decide +kernel
theorem dX12_round_68 : decode cX12_round 68 = .ok (.imul, 1) := by decide +kernel
theorem dX12_round_69 : decode cX12_round 69 = .ok (.iload 4, 2) := by decide +kernel
theorem dX12_round_71 : decode cX12_round 71 = .ok (.iadd, 1) := by decide +kernel
theorem dX12_round_72 : decode cX12_round 72 = .ok (.aload_n 0, 1) := by decide +kernel
theorem dX12_round_73 : decode cX12_round 73 = .ok (.iload_n 3, 1) := by decide +kernel
theorem dX12_round_74 : decode cX12_round 74 = .ok (.aload_n 0, 1) := by decide +kernel
theorem dX12_round_75 : decode cX12_round 75 = .ok (.getfield 77, 3) := by decide +kernel
theorem dX12_round_78 : decode cX12_round 78 = .ok (.iload 4, 2) := by decide +kernel
theorem dX12_round_80 : decode cX12_round 80 = .ok (.iaload, 1) := by decide +kernel
theorem dX12_round_81 : decode cX12_round 81 = .ok (.invokevirtual 445, 3) := by decide +kernel
theorem dX12_round_84 : decode cX12_round 84 = .ok (.iastore, 1) := by decide +kernel
theorem dX12_round_85 : decode cX12_round 85 = .ok (.iinc 4 1, 3) := by decide +kernel
theorem dX12_round_88 : decode cX12_round 88 = .ok (.goto (-45), 3) := by decide +kernel
theorem dX12_round_91 : decode cX12_round 91 = .ok (.iinc 3 (-1), 3) := by decide +kernel
theorem dX12_round_94 : decode cX12_round 94 = .ok (.goto (-58), 3) := by decide +kernel
theorem dX12_round_97 : decode cX12_round 97 = .ok (.aload_n 0, 1) := by decide +kernel
theorem dX12_round_98 : decode cX12_round 98 = .ok (.iconst 0, 1) := by decide +kernel
theorem dX12_round_99 : decode cX12_round 99 = .ok (.iload_n 1, 1) := by decide +kernel
theorem dX12_round_100 : decode cX12_round 100 = .ok (.invokevirtual 445, 3) := by decide +kernel
theorem dX12_round_103 : decode cX12_round 103 = .ok (.istore_n 3, 1) := by decide +kernel
theorem dX12_round_104 : decode cX12_round 104 = .ok (.iload_n 3, 1) := by decide +kernel
theorem dX12_round_105 : decode cX12_round 105 = .ok (.ldc 232, 2) := by decide +kernel
theorem dX12_round_107 : decode cX12_round 107 = .ok (.if_icmp .ge 8, 3) := by decide +kernel
theorem dX12_round_110 : decode cX12_round 110 = .ok (.iload_n 2, 1) := by decide +kernel
theorem dX12_round_111 : decode cX12_round 111 = .ok (.iconst (-1), 1) := by decide +kernel
theorem dX12_round_112 : decode cX12_round 112 = .ok (.if_icmp .ne 15, 3) := by decide +kernel
theorem dX12_round_115 : decode cX12_round 115 = .ok (.iload_n 3, 1) := by decide +kernel
theorem dX12_round_116 : decode cX12_round 116 = .ok (.ldc 232, 2) := by decide +kernel
theorem dX12_round_118 : decode cX12_round 118 = .ok (.if_icmp .lt 7, 3) := by decide +kernel
theorem dX12_round_121 : decode cX12_round 121 = .ok (.iconst (-1), 1) := by decide +kernel
theorem dX12_round_122 : decode cX12_round 122 = .ok (.goto 4, 3) := by decide +kernel
theorem dX12_round_125 : decode cX12_round 125 = .ok (.iload_n 3, 1) := by decide +kernel
theorem dX12_round_126 : decode cX12_round 126 = .ok (.ireturn, 1) := by decide +kernel
theorem dX12_round_127 : decode cX12_round 127 = .ok (.iload_n 2, 1) := by decide +kernel
theorem dX12_round_128 : decode cX12_round 128 = .ok (.aload_n 0, 1) := by decide +kernel
theorem dX12_round_129 : decode cX12_round 129 = .ok (.getfield 378, 3) := by decide +kernel
theorem dX12_round_132 : decode cX12_round 132 = .ok (.if_icmp .lt 5, 3) := by decide +kernel
theorem dX12_round_135 : decode cX12_round 135 = .ok (.iconst (-1), 1) := by decide +kernel
theorem dX12_round_136 : decode cX12_round 136 = .ok (.ireturn, 1) := by decide +kernel
theorem dX12_round_137 : decode cX12_round 137 = .ok (.iconst 0, 1) := by decide +kernel
theorem dX12_round_138 : decode cX12_round 138 = .ok (.istore 4, 2) := by decide +kernel
theorem dX12_round_140 : decode cX12_round 140 = .ok (.iload_n 1, 1) := by decide +kernel
theorem dX12_round_141 : decode cX12_round 141 = .ok (.istore 5, 2) := by decide +kernel
theorem dX12_round_143 : decode cX12_round 143 = .ok (.iconst (-1), 1) := by decide +kernel
theorem dX12_round_144 : decode cX12_round 144 = .ok (.istore 6, 2) := by decide +kernel
theorem dX12_round_146 : decode cX12_round 146 = .ok (.iconst 0, 1) := by decide +kernel
theorem dX12_round_147 : decode cX12_round 147 = .ok (.istore 7, 2) := by decide +kernel
theorem dX12_round_149 : decode cX12_round 149 = .ok (.iload 7, 2) := by decide +kernel
theorem dX12_round_151 : decode cX12_round 151 = .ok (.iload_n 2, 1) := by decide +kernel
theorem dX12_round_152 : decode cX12_round 152 = .ok (.if_icmp .gt 71, 3) := by decide +kernel
theorem dX12_round_155 : decode cX12_round 155 = .ok (.aload_n 0, 1) := by decide +kernel
theorem dX12_round_156 : decode cX12_round 156 = .ok (.iload 4, 2) := by decide +kernel
theorem dX12_round_158 : decode cX12_round 158 = .ok (.iload 5, 2) := by decide +kernel
theorem dX12_round_160 : decode cX12_round 160 = .ok (.invokevirtual 445, 3) := by decide +kernel
theorem dX12_round_163 : decode cX12_round 163 = .ok (.istore 8, 2) := by decide +kernel
theorem dX12_round_165 : decode cX12_round 165 = .ok (.iconst 0, 1) := by decide +kernel
theorem dX12_round_166 : decode cX12_round 166 = .ok (.istore 6, 2) := by decide +kernel
theorem dX12_round_168 : decode cX12_round 168 = .ok (.iload 4, 2) := by decide +kernel
theorem dX12_round_170 : decode cX12_round 170 = .ok (.iload 6, 2) := by decide +kernel
theorem dX12_round_172 : decode cX12_round 172 = .ok (.invokestatic 367, 3) := by decide +kernel
theorem dX12_round_175 : decode cX12_round 175 = .ok (.ifCond .ne 18, 3) := by decide +kernel
theorem dX12_round_178 : decode cX12_round 178 = .ok (.aload_n 0, 1) := by decide +kernel
theorem dX12_round_179 : decode cX12_round 179 = .ok (.iload 4, 2) := by decide +kernel
theorem dX12_round_181 : decode cX12_round 181 = .ok (.iload 5, 2) := by decide +kernel
theorem dX12_round_183 : decode cX12_round 183 = .ok (.iload 6, 2) := by decide +kernel
theorem dX12_round_185 : decode cX12_round 185 = .ok (.invokevirtual 442, 3) := by decide +kernel
theorem dX12_round_188 : decode cX12_round 188 = .ok (.iload 8, 2) := by decide +kernel
theorem dX12_round_190 : decode cX12_round 190 = .ok (.if_icmp .eq 9, 3) := by decide +kernel
theorem dX12_round_193 : decode cX12_round 193 = .ok (.iinc 6 1, 3) := by decide +kernel
theorem dX12_round_196 : decode cX12_round 196 = .ok (.goto (-28), 3) := by decide +kernel
theorem dX12_round_199 : decode cX12_round 199 = .ok (.iload 4, 2) := by decide +kernel
theorem dX12_round_201 : decode cX12_round 201 = .ok (.iconst 1, 1) := by decide +kernel
theorem dX12_round_202 : decode cX12_round 202 = .ok (.iload 6, 2) := by decide +kernel
theorem dX12_round_204 : decode cX12_round 204 = .ok (.ishl, 1) := by decide +kernel
theorem dX12_round_205 : decode cX12_round 205 = .ok (.ior, 1) := by decide +kernel
theorem dX12_round_206 : decode cX12_round 206 = .ok (.istore 4, 2) := by decide +kernel
theorem dX12_round_208 : decode cX12_round 208 = .ok (.aload_n 0, 1) := by decide +kernel
theorem dX12_round_209 : decode cX12_round 209 = .ok (.getfield 77, 3) := by decide +kernel
theorem dX12_round_212 : decode cX12_round 212 = .ok (.iload 6, 2) := by decide +kernel
theorem dX12_round_214 : decode cX12_round 214 = .ok (.iaload, 1) := by decide +kernel
theorem dX12_round_215 : decode cX12_round 215 = .ok (.istore 5, 2) := by decide +kernel
theorem dX12_round_217 : decode cX12_round 217 = .ok (.iinc 7 1, 3) := by decide +kernel
theorem dX12_round_220 : decode cX12_round 220 = .ok (.goto (-71), 3) := by decide +kernel
theorem dX12_round_223 : decode cX12_round 223 = .ok (.iload 6, 2) := by decide +kernel
theorem dX12_round_225 : decode cX12_round 225 = .ok (.ireturn, 1) := by decide +kernel
set_option maxRecDepth 20000 in
theorem T_X12_round_36 {Q : Option Value → ah_T → Prop} {h : ah_T} (hs : Sh h) (x1 : Int32) (x2 : Int32) (x3 : Int32) (ht : ((x3 ≤ 0 → (Mt mX12_leftFrom [.ref 82, .int 0, .int x1] h (ab_qi fun v12 h10 => Sh h10 ∧ ((1000000 ≤ v12 → ((v12 < 1000000 → Q (some (.int v12)) h10) ∧ (¬ v12 < 1000000 → Q (some (.int (-1))) h10))) ∧ (¬ 1000000 ≤ v12 → ((¬ x2 = (-1) → ((x2 < (ah_i h10 82 41) → Wp mX12_round Q 0 0 149 [some (.ref 82), none, some (.int x2), none, some (.int 0), some (.int x1), some (.int (-1)), some (.int 0), none] [] h10) ∧ (¬ x2 < (ah_i h10 82 41) → Q (some (.int (-1))) h10))) ∧ (x2 = (-1) → ((v12 < 1000000 → Q (some (.int v12)) h10) ∧ (¬ v12 < 1000000 → Q (some (.int (-1))) h10))))))))) ∧ (¬ x3 ≤ 0 → Wp mX12_round Q 0 0 43 [some (.ref 82), some (.int x1), some (.int x2), some (.int x3), some (.int 0), none, none, none, none] [] h))) : Wp mX12_round Q 0 0 36 [some (.ref 82), some (.int x1), some (.int x2), some (.int x3), none, none, none, none, none] [] h := by
  refine ab_iload_n (i := 3) dX12_round_36 rfl rfl ?_
  refine ab_if_le (tgt := 97) dX12_round_37 (by decide) (fun c9 => ?_) (fun c9 => ?_)
  · have ht := ht.1 c9
    refine ab_aload_n (i := 0) dX12_round_97 rfl rfl ?_
    refine ab_iconst (v := 0) dX12_round_98 (by decide) ?_
    refine ab_iload_n (i := 1) dX12_round_99 rfl rfl ?_
    refine ab_callV (b := 82) (As := [.int 0, .int x1]) ht (Y_X12_leftFrom) l_X12_445 in_X12_leftFrom se_X12_leftFrom (sh_k hs 82 12 (by decide) rfl) (by decide) rfl rfl ⟨(Nat.le_of_ble_eq_true rfl), (Nat.le_of_ble_eq_true rfl), (Nat.le_of_ble_eq_true rfl), (Nat.le_of_ble_eq_true rfl)⟩ dX12_round_100 ?_
    rintro _ h10 ⟨v12, rfl, hs11, ht⟩
    refine ab_istore_n (i := 3) (L' := [some (.ref 82), some (.int x1), some (.int x2), some (.int v12), none, none, none, none, none]) dX12_round_103 rfl (by exact (Nat.le_of_ble_eq_true rfl)) rfl rfl ?_
    refine ab_iload_n (i := 3) dX12_round_104 rfl rfl ?_
    refine ab_ldc (v := 1000000) (tb_8 (List.mem_of_getElem? (i := 138) (by decide +kernel)) rfl) dX12_round_105 ?_
    refine ab_icmp_ge (tgt := 115) dX12_round_107 (by decide) (fun c13 => ?_) (fun c13 => ?_)
    · have ht := ht.1 c13
      refine ab_iload_n (i := 3) dX12_round_115 rfl rfl ?_
      refine ab_ldc (v := 1000000) (tb_8 (List.mem_of_getElem? (i := 138) (by decide +kernel)) rfl) dX12_round_116 ?_
      refine ab_icmp_lt (tgt := 125) dX12_round_118 (by decide) (fun c14 => ?_) (fun c14 => ?_)
      · have ht := ht.1 c14
        refine ab_iload_n (i := 3) dX12_round_125 rfl rfl ?_
        exact ab_iret rfl dX12_round_126 (Nat.le_of_ble_eq_true rfl) (Nat.le_of_ble_eq_true rfl) ht
      · have ht := ht.2 c14
        refine ab_iconst (v := (-1)) dX12_round_121 (by decide) ?_
        refine ab_goto (tgt := 126) dX12_round_122 (by decide) ?_
        exact ab_iret rfl dX12_round_126 (Nat.le_of_ble_eq_true rfl) (Nat.le_of_ble_eq_true rfl) ht
    · have ht := ht.2 c13
      refine ab_iload_n (i := 2) dX12_round_110 rfl rfl ?_
      refine ab_iconst (v := (-1)) dX12_round_111 (by decide) ?_
      refine ab_icmp_ne (tgt := 127) dX12_round_112 (by decide) (fun c15 => ?_) (fun c15 => ?_)
      · have ht := ht.1 c15
        refine ab_iload_n (i := 2) dX12_round_127 rfl rfl ?_
        refine ab_aload_n (i := 0) dX12_round_128 rfl rfl ?_
        refine ab_getI f_X12_378 rfl (sh_k hs11 82 12 (by decide) rfl) dX12_round_129 ?_
        refine ab_icmp_lt (tgt := 137) dX12_round_132 (by decide) (fun c16 => ?_) (fun c16 => ?_)
        · have ht := ht.1 c16
          refine ab_iconst (v := 0) dX12_round_137 (by decide) ?_
          refine ab_istore (i := 4) (L' := [some (.ref 82), some (.int x1), some (.int x2), some (.int v12), some (.int 0), none, none, none, none]) dX12_round_138 (by exact (Nat.le_of_ble_eq_true rfl)) rfl rfl ?_
          refine ab_iload_n (i := 1) dX12_round_140 rfl rfl ?_
          refine ab_istore (i := 5) (L' := [some (.ref 82), some (.int x1), some (.int x2), some (.int v12), some (.int 0), some (.int x1), none, none, none]) dX12_round_141 (by exact (Nat.le_of_ble_eq_true rfl)) rfl rfl ?_
          refine ab_iconst (v := (-1)) dX12_round_143 (by decide) ?_
          refine ab_istore (i := 6) (L' := [some (.ref 82), some (.int x1), some (.int x2), some (.int v12), some (.int 0), some (.int x1), some (.int (-1)), none, none]) dX12_round_144 (by exact (Nat.le_of_ble_eq_true rfl)) rfl rfl ?_
          refine ab_iconst (v := 0) dX12_round_146 (by decide) ?_
          refine ab_istore (i := 7) (L' := [some (.ref 82), some (.int x1), some (.int x2), some (.int v12), some (.int 0), some (.int x1), some (.int (-1)), some (.int 0), none]) dX12_round_147 (by exact (Nat.le_of_ble_eq_true rfl)) rfl rfl ?_
          exact Wp.fewer (L' := [some (.ref 82), none, some (.int x2), none, some (.int 0), some (.int x1), some (.int (-1)), some (.int 0), none]) (show ab_leL _ _ from ⟨rfl, ⟨rfl, ⟨rfl, ⟨rfl, ⟨rfl, ⟨rfl, trivial⟩⟩⟩⟩⟩⟩) ht
        · have ht := ht.2 c16
          refine ab_iconst (v := (-1)) dX12_round_135 (by decide) ?_
          exact ab_iret rfl dX12_round_136 (Nat.le_of_ble_eq_true rfl) (Nat.le_of_ble_eq_true rfl) ht
      · have ht := ht.2 c15
        refine ab_iload_n (i := 3) dX12_round_115 rfl rfl ?_
        refine ab_ldc (v := 1000000) (tb_8 (List.mem_of_getElem? (i := 138) (by decide +kernel)) rfl) dX12_round_116 ?_
        refine ab_icmp_lt (tgt := 125) dX12_round_118 (by decide) (fun c17 => ?_) (fun c17 => ?_)
        · have ht := ht.1 c17
          refine ab_iload_n (i := 3) dX12_round_125 rfl rfl ?_
          exact ab_iret rfl dX12_round_126 (Nat.le_of_ble_eq_true rfl) (Nat.le_of_ble_eq_true rfl) ht
        · have ht := ht.2 c17
          refine ab_iconst (v := (-1)) dX12_round_121 (by decide) ?_
          refine ab_goto (tgt := 126) dX12_round_122 (by decide) ?_
          exact ab_iret rfl dX12_round_126 (Nat.le_of_ble_eq_true rfl) (Nat.le_of_ble_eq_true rfl) ht
  · have ht := ht.2 c9
    refine ab_iconst (v := 0) dX12_round_40 (by decide) ?_
    refine ab_istore (i := 4) (L' := [some (.ref 82), some (.int x1), some (.int x2), some (.int x3), some (.int 0), none, none, none, none]) dX12_round_41 (by exact (Nat.le_of_ble_eq_true rfl)) rfl rfl ?_
    exact Wp.fewer (L' := [some (.ref 82), some (.int x1), some (.int x2), some (.int x3), some (.int 0), none, none, none, none]) (show ab_leL _ _ from ⟨rfl, ⟨rfl, ⟨rfl, ⟨rfl, ⟨rfl, trivial⟩⟩⟩⟩⟩) ht
set_option maxRecDepth 20000 in
theorem T_X12_round_149 {Q : Option Value → ah_T → Prop} {h : ah_T} (hs : Sh h) (x2 : Int32) (x4 : Int32) (x5 : Int32) (x6 : Int32) (x7 : Int32) (ht : ((x2 < x7 → Q (some (.int x6)) h) ∧ (¬ x2 < x7 → (Mt mX12_leftFrom [.ref 82, .int x4, .int x5] h (ab_qi fun v21 h19 => Sh h19 ∧ Wp mX12_round Q 0 0 168 [some (.ref 82), none, some (.int x2), none, some (.int x4), some (.int x5), some (.int 0), some (.int x7), some (.int v21)] [] h19))))) : Wp mX12_round Q 0 0 149 [some (.ref 82), none, some (.int x2), none, some (.int x4), some (.int x5), some (.int x6), some (.int x7), none] [] h := by
  refine ab_iload (i := 7) dX12_round_149 rfl ?_
  refine ab_iload_n (i := 2) dX12_round_151 rfl rfl ?_
  refine ab_icmp_gt (tgt := 223) dX12_round_152 (by decide) (fun c18 => ?_) (fun c18 => ?_)
  · have ht := ht.1 c18
    refine ab_iload (i := 6) dX12_round_223 rfl ?_
    exact ab_iret rfl dX12_round_225 (Nat.le_of_ble_eq_true rfl) (Nat.le_of_ble_eq_true rfl) ht
  · have ht := ht.2 c18
    refine ab_aload_n (i := 0) dX12_round_155 rfl rfl ?_
    refine ab_iload (i := 4) dX12_round_156 rfl ?_
    refine ab_iload (i := 5) dX12_round_158 rfl ?_
    refine ab_callV (b := 82) (As := [.int x4, .int x5]) ht (Y_X12_leftFrom) l_X12_445 in_X12_leftFrom se_X12_leftFrom (sh_k hs 82 12 (by decide) rfl) (by decide) rfl rfl ⟨(Nat.le_of_ble_eq_true rfl), (Nat.le_of_ble_eq_true rfl), (Nat.le_of_ble_eq_true rfl), (Nat.le_of_ble_eq_true rfl)⟩ dX12_round_160 ?_
    rintro _ h19 ⟨v21, rfl, hs20, ht⟩
    refine ab_istore (i := 8) (L' := [some (.ref 82), none, some (.int x2), none, some (.int x4), some (.int x5), some (.int x6), some (.int x7), some (.int v21)]) dX12_round_163 (by exact (Nat.le_of_ble_eq_true rfl)) rfl rfl ?_
    refine ab_iconst (v := 0) dX12_round_165 (by decide) ?_
    refine ab_istore (i := 6) (L' := [some (.ref 82), none, some (.int x2), none, some (.int x4), some (.int x5), some (.int 0), some (.int x7), some (.int v21)]) dX12_round_166 (by exact (Nat.le_of_ble_eq_true rfl)) rfl rfl ?_
    exact Wp.fewer (L' := [some (.ref 82), none, some (.int x2), none, some (.int x4), some (.int x5), some (.int 0), some (.int x7), some (.int v21)]) (show ab_leL _ _ from ⟨rfl, ⟨rfl, ⟨rfl, ⟨rfl, ⟨rfl, ⟨rfl, ⟨rfl, trivial⟩⟩⟩⟩⟩⟩⟩) ht
set_option maxRecDepth 20000 in
theorem T_X12_round_43 {Q : Option Value → ah_T → Prop} {h : ah_T} (hs : Sh h) (x1 : Int32) (x2 : Int32) (x3 : Int32) (x4 : Int32) (ht : (((ah_i h 82 41) ≤ x4 → Wp mX12_round Q 0 0 36 [some (.ref 82), some (.int x1), some (.int x2), some (.int (x3 + (-1))), none, none, none, none, none] [] h) ∧ (¬ (ah_i h 82 41) ≤ x4 → (((f_X12_isIn x3 x4) = 0 → Wp mX12_round Q 0 0 43 [some (.ref 82), some (.int x1), some (.int x2), some (.int x3), some (.int (x4 + 1)), none, none, none, none] [] h) ∧ (¬ (f_X12_isIn x3 x4) = 0 → (vp_in x4 (ah_n h 100)) ∧ (Mt mX12_leftFrom [.ref 82, .int x3, .int (ah_i h 100 (Int32.toNatClampNeg x4))] h (ab_qi fun v27 h25 => Sh h25 ∧ (vp_in ((10 * x3) + x4) (ah_n h25 112)) ∧ (∀ h29, h29 = ah_si h25 112 (Int32.toNatClampNeg ((10 * x3) + x4)) v27 → Wp mX12_round Q 0 0 43 [some (.ref 82), some (.int x1), some (.int x2), some (.int x3), some (.int (x4 + 1)), none, none, none, none] [] h29)))))))) : Wp mX12_round Q 0 0 43 [some (.ref 82), some (.int x1), some (.int x2), some (.int x3), some (.int x4), none, none, none, none] [] h := by
  refine ab_iload (i := 4) dX12_round_43 rfl ?_
  refine ab_aload_n (i := 0) dX12_round_45 rfl rfl ?_
  refine ab_getI f_X12_378 rfl (sh_k hs 82 12 (by decide) rfl) dX12_round_46 ?_
  refine ab_icmp_ge (tgt := 91) dX12_round_49 (by decide) (fun c22 => ?_) (fun c22 => ?_)
  · have ht := ht.1 c22
    refine ab_iinc (i := 3) (x := x3) (v := (x3 + (-1))) (L' := [some (.ref 82), some (.int x1), some (.int x2), some (.int (x3 + (-1))), some (.int x4), none, none, none, none]) dX12_round_91 rfl rfl (by exact (Nat.le_of_ble_eq_true rfl)) rfl rfl ?_
    refine ab_goto (tgt := 36) dX12_round_94 (by decide) ?_
    exact Wp.fewer (L' := [some (.ref 82), some (.int x1), some (.int x2), some (.int (x3 + (-1))), none, none, none, none, none]) (show ab_leL _ _ from ⟨rfl, ⟨rfl, ⟨rfl, ⟨rfl, trivial⟩⟩⟩⟩) ht
  · have ht := ht.2 c22
    refine ab_iload_n (i := 3) dX12_round_52 rfl rfl ?_
    refine ab_iload (i := 4) dX12_round_53 rfl ?_
    refine ab_callS (Q' := fun r h' => r = some (.int (f_X12_isIn x3 x4)) ∧ h = h') (As := [.int x3, .int x4]) (c_X12_isIn hs x3 x4 ⟨rfl, rfl⟩) (Y_X12_isIn) l_X12_367 st_X12_isIn rfl ⟨(Nat.le_of_ble_eq_true rfl), (Nat.le_of_ble_eq_true rfl), (Nat.le_of_ble_eq_true rfl), (Nat.le_of_ble_eq_true rfl)⟩ dX12_round_55 ?_
    rintro _ _ ⟨rfl, rfl⟩
    refine ab_if_eq (tgt := 85) dX12_round_58 (by decide) (fun c23 => ?_) (fun c23 => ?_)
    · have ht := ht.1 c23
      refine ab_iinc (i := 4) (x := x4) (v := (x4 + 1)) (L' := [some (.ref 82), some (.int x1), some (.int x2), some (.int x3), some (.int (x4 + 1)), none, none, none, none]) dX12_round_85 rfl rfl (by exact (Nat.le_of_ble_eq_true rfl)) rfl rfl ?_
      refine ab_goto (tgt := 43) dX12_round_88 (by decide) ?_
      exact Wp.fewer (L' := [some (.ref 82), some (.int x1), some (.int x2), some (.int x3), some (.int (x4 + 1)), none, none, none, none]) (show ab_leL _ _ from ⟨rfl, ⟨rfl, ⟨rfl, ⟨rfl, ⟨rfl, trivial⟩⟩⟩⟩⟩) ht
    · have ht := ht.2 c23
      refine ab_aload_n (i := 0) dX12_round_61 rfl rfl ?_
      refine ab_getR (b := 112) f_X12_116 rfl (sh_k hs 82 12 (by decide) rfl) (sh_r hs 128 rfl) dX12_round_62 ?_
      refine ab_bipush (v := 10) dX12_round_65 (by decide) ?_
      refine ab_iload_n (i := 3) dX12_round_67 rfl rfl ?_
      refine ab_imul dX12_round_68 ?_
      refine ab_iload (i := 4) dX12_round_69 rfl ?_
      refine ab_iadd dX12_round_71 ?_
      refine ab_aload_n (i := 0) dX12_round_72 rfl rfl ?_
      refine ab_iload_n (i := 3) dX12_round_73 rfl rfl ?_
      refine ab_aload_n (i := 0) dX12_round_74 rfl rfl ?_
      refine ab_getR (b := 100) f_X12_77 rfl (sh_k hs 82 12 (by decide) rfl) (sh_r hs 116 rfl) dX12_round_75 ?_
      refine ab_iload (i := 4) dX12_round_78 rfl ?_
      obtain ⟨hc24, ht⟩ := ht
      refine ab_iald (sh_k hs 100 14 (by decide) rfl) hc24 dX12_round_80 ?_
      refine ab_callV (b := 82) (As := [.int x3, .int (ah_i h 100 (Int32.toNatClampNeg x4))]) ht (Y_X12_leftFrom) l_X12_445 in_X12_leftFrom se_X12_leftFrom (sh_k hs 82 12 (by decide) rfl) (by decide) rfl rfl ⟨(Nat.le_of_ble_eq_true rfl), (Nat.le_of_ble_eq_true rfl), (Nat.le_of_ble_eq_true rfl), (Nat.le_of_ble_eq_true rfl)⟩ dX12_round_81 ?_
      rintro _ h25 ⟨v27, rfl, hs26, ht⟩
      obtain ⟨hc28, ht⟩ := ht
      refine ab_iast (sh_k hs26 112 14 (by decide) rfl) hc28 dX12_round_84 ?_
      refine Wp.nm fun h29 e30 => ?_
      have ht := ht h29 e30
      have hs31 : Sh h29 := by rw [e30]; exact sh_si hs26
      refine ab_iinc (i := 4) (x := x4) (v := (x4 + 1)) (L' := [some (.ref 82), some (.int x1), some (.int x2), some (.int x3), some (.int (x4 + 1)), none, none, none, none]) dX12_round_85 rfl rfl (by exact (Nat.le_of_ble_eq_true rfl)) rfl rfl ?_
      refine ab_goto (tgt := 43) dX12_round_88 (by decide) ?_
      exact Wp.fewer (L' := [some (.ref 82), some (.int x1), some (.int x2), some (.int x3), some (.int (x4 + 1)), none, none, none, none]) (show ab_leL _ _ from ⟨rfl, ⟨rfl, ⟨rfl, ⟨rfl, ⟨rfl, trivial⟩⟩⟩⟩⟩) ht
set_option maxRecDepth 20000 in
theorem T_X12_round_168 {Q : Option Value → ah_T → Prop} {h : ah_T} (hs : Sh h) (x2 : Int32) (x4 : Int32) (x5 : Int32) (x6 : Int32) (x7 : Int32) (x8 : Int32) (ht : ((¬ (f_X12_isIn x4 x6) = 0 → Wp mX12_round Q 0 0 168 [some (.ref 82), none, some (.int x2), none, some (.int x4), some (.int x5), some (.int (x6 + 1)), some (.int x7), some (.int x8)] [] h) ∧ ((f_X12_isIn x4 x6) = 0 → (vp_in x6 (ah_n h 100)) ∧ (vp_in ((12 * x5) + (ah_i h 100 (Int32.toNatClampNeg x6))) (ah_n h 98)) ∧ ((¬ (ah_i h 98 (Int32.toNatClampNeg ((12 * x5) + (ah_i h 100 (Int32.toNatClampNeg x6))))) = (-1) → vp_in ((12 * x5) + (ah_i h 100 (Int32.toNatClampNeg x6))) (ah_n h 98))) ∧ (vp_in ((10 * (x4 ||| ((1 : Int32) <<< (x6 &&& 31)))) + x6) (ah_n h 112)) ∧ (((f_X12_viaLamp h x4 x5 x6) = x8 → (vp_in x6 (ah_n h 100)) ∧ Wp mX12_round Q 0 0 149 [some (.ref 82), none, some (.int x2), none, some (.int (x4 ||| ((1 : Int32) <<< (x6 &&& 31)))), some (.int (ah_i h 100 (Int32.toNatClampNeg x6))), some (.int x6), some (.int (x7 + 1)), none] [] h) ∧ (¬ (f_X12_viaLamp h x4 x5 x6) = x8 → Wp mX12_round Q 0 0 168 [some (.ref 82), none, some (.int x2), none, some (.int x4), some (.int x5), some (.int (x6 + 1)), some (.int x7), some (.int x8)] [] h))))) : Wp mX12_round Q 0 0 168 [some (.ref 82), none, some (.int x2), none, some (.int x4), some (.int x5), some (.int x6), some (.int x7), some (.int x8)] [] h := by
  refine ab_iload (i := 4) dX12_round_168 rfl ?_
  refine ab_iload (i := 6) dX12_round_170 rfl ?_
  refine ab_callS (Q' := fun r h' => r = some (.int (f_X12_isIn x4 x6)) ∧ h = h') (As := [.int x4, .int x6]) (c_X12_isIn hs x4 x6 ⟨rfl, rfl⟩) (Y_X12_isIn) l_X12_367 st_X12_isIn rfl ⟨(Nat.le_of_ble_eq_true rfl), (Nat.le_of_ble_eq_true rfl), (Nat.le_of_ble_eq_true rfl), (Nat.le_of_ble_eq_true rfl)⟩ dX12_round_172 ?_
  rintro _ _ ⟨rfl, rfl⟩
  refine ab_if_ne (tgt := 193) dX12_round_175 (by decide) (fun c32 => ?_) (fun c32 => ?_)
  · have ht := ht.1 c32
    refine ab_iinc (i := 6) (x := x6) (v := (x6 + 1)) (L' := [some (.ref 82), none, some (.int x2), none, some (.int x4), some (.int x5), some (.int (x6 + 1)), some (.int x7), some (.int x8)]) dX12_round_193 rfl rfl (by exact (Nat.le_of_ble_eq_true rfl)) rfl rfl ?_
    refine ab_goto (tgt := 168) dX12_round_196 (by decide) ?_
    exact Wp.fewer (L' := [some (.ref 82), none, some (.int x2), none, some (.int x4), some (.int x5), some (.int (x6 + 1)), some (.int x7), some (.int x8)]) (show ab_leL _ _ from ⟨rfl, ⟨rfl, ⟨rfl, ⟨rfl, ⟨rfl, ⟨rfl, ⟨rfl, trivial⟩⟩⟩⟩⟩⟩⟩) ht
  · have ht := ht.2 c32
    refine ab_aload_n (i := 0) dX12_round_178 rfl rfl ?_
    refine ab_iload (i := 4) dX12_round_179 rfl ?_
    refine ab_iload (i := 5) dX12_round_181 rfl ?_
    refine ab_iload (i := 6) dX12_round_183 rfl ?_
    obtain ⟨hc33, ht⟩ := ht
    obtain ⟨hc34, ht⟩ := ht
    obtain ⟨hc35, ht⟩ := ht
    obtain ⟨hc36, ht⟩ := ht
    refine ab_callV (b := 82) (Q' := fun r h' => r = some (.int (f_X12_viaLamp h x4 x5 x6)) ∧ h = h') (As := [.int x4, .int x5, .int x6]) (c_X12_viaLamp hs x4 x5 x6  hc33 hc34 hc35 hc36 ⟨rfl, rfl⟩) (Y_X12_viaLamp) l_X12_442 in_X12_viaLamp se_X12_viaLamp (sh_k hs 82 12 (by decide) rfl) (by decide) rfl rfl ⟨(Nat.le_of_ble_eq_true rfl), (Nat.le_of_ble_eq_true rfl), (Nat.le_of_ble_eq_true rfl), (Nat.le_of_ble_eq_true rfl)⟩ dX12_round_185 ?_
    rintro _ _ ⟨rfl, rfl⟩
    refine ab_iload (i := 8) dX12_round_188 rfl ?_
    refine ab_icmp_eq (tgt := 199) dX12_round_190 (by decide) (fun c37 => ?_) (fun c37 => ?_)
    · have ht := ht.1 c37
      refine ab_iload (i := 4) dX12_round_199 rfl ?_
      refine ab_iconst (v := 1) dX12_round_201 (by decide) ?_
      refine ab_iload (i := 6) dX12_round_202 rfl ?_
      refine ab_ishl dX12_round_204 ?_
      refine ab_ior dX12_round_205 ?_
      refine ab_istore (i := 4) (L' := [some (.ref 82), none, some (.int x2), none, some (.int (x4 ||| ((1 : Int32) <<< (x6 &&& 31)))), some (.int x5), some (.int x6), some (.int x7), some (.int x8)]) dX12_round_206 (by exact (Nat.le_of_ble_eq_true rfl)) rfl rfl ?_
      refine ab_aload_n (i := 0) dX12_round_208 rfl rfl ?_
      refine ab_getR (b := 100) f_X12_77 rfl (sh_k hs 82 12 (by decide) rfl) (sh_r hs 116 rfl) dX12_round_209 ?_
      refine ab_iload (i := 6) dX12_round_212 rfl ?_
      obtain ⟨hc38, ht⟩ := ht
      refine ab_iald (sh_k hs 100 14 (by decide) rfl) hc38 dX12_round_214 ?_
      refine ab_istore (i := 5) (L' := [some (.ref 82), none, some (.int x2), none, some (.int (x4 ||| ((1 : Int32) <<< (x6 &&& 31)))), some (.int (ah_i h 100 (Int32.toNatClampNeg x6))), some (.int x6), some (.int x7), some (.int x8)]) dX12_round_215 (by exact (Nat.le_of_ble_eq_true rfl)) rfl rfl ?_
      refine ab_iinc (i := 7) (x := x7) (v := (x7 + 1)) (L' := [some (.ref 82), none, some (.int x2), none, some (.int (x4 ||| ((1 : Int32) <<< (x6 &&& 31)))), some (.int (ah_i h 100 (Int32.toNatClampNeg x6))), some (.int x6), some (.int (x7 + 1)), some (.int x8)]) dX12_round_217 rfl rfl (by exact (Nat.le_of_ble_eq_true rfl)) rfl rfl ?_
      refine ab_goto (tgt := 149) dX12_round_220 (by decide) ?_
      exact Wp.fewer (L' := [some (.ref 82), none, some (.int x2), none, some (.int (x4 ||| ((1 : Int32) <<< (x6 &&& 31)))), some (.int (ah_i h 100 (Int32.toNatClampNeg x6))), some (.int x6), some (.int (x7 + 1)), none]) (show ab_leL _ _ from ⟨rfl, ⟨rfl, ⟨rfl, ⟨rfl, ⟨rfl, ⟨rfl, trivial⟩⟩⟩⟩⟩⟩) ht
    · have ht := ht.2 c37
      refine ab_iinc (i := 6) (x := x6) (v := (x6 + 1)) (L' := [some (.ref 82), none, some (.int x2), none, some (.int x4), some (.int x5), some (.int (x6 + 1)), some (.int x7), some (.int x8)]) dX12_round_193 rfl rfl (by exact (Nat.le_of_ble_eq_true rfl)) rfl rfl ?_
      refine ab_goto (tgt := 168) dX12_round_196 (by decide) ?_
      exact Wp.fewer (L' := [some (.ref 82), none, some (.int x2), none, some (.int x4), some (.int x5), some (.int (x6 + 1)), some (.int x7), some (.int x8)]) (show ab_leL _ _ from ⟨rfl, ⟨rfl, ⟨rfl, ⟨rfl, ⟨rfl, ⟨rfl, ⟨rfl, trivial⟩⟩⟩⟩⟩⟩⟩) ht
set_option maxRecDepth 20000 in
theorem T_X12_round {Q : Option Value → ah_T → Prop} {h : ah_T} (hs : Sh h) (x1 : Int32) (x2 : Int32) (ht : (((f_X12_isCorner x1) = 0 → Q (some (.int (-1))) h) ∧ (¬ (f_X12_isCorner x1) = 0 → (((-1) ≤ x2 → (Mt mX12_looks [.ref 82] h (ab_qv fun h3 => Sh h3 ∧ (Mt mX12_measures [.ref 82, .ref 98, .int 0] h3 (ab_qv fun h6 => Sh h6 ∧ Wp mX12_round Q 0 0 36 [some (.ref 82), some (.int x1), some (.int x2), some (.int (((1 : Int32) <<< ((ah_i h6 82 41) &&& 31)) - 1)), none, none, none, none, none] [] h6))))) ∧ (¬ (-1) ≤ x2 → Q (some (.int (-1))) h))))) : Mt mX12_round [.ref 82, .int x1, .int x2] h Q := by
  refine Mt.ofWp rfl (by exact (Nat.le_of_ble_eq_true rfl)) (Wp.fewer (L' := [some (.ref 82), some (.int x1), some (.int x2), none, none, none, none, none, none]) (show ab_leL _ _ from ⟨rfl, ⟨rfl, ⟨rfl, trivial⟩⟩⟩) ?_)
  refine ab_iload_n (i := 1) dX12_round_0 rfl rfl ?_
  refine ab_callS (Q' := fun r h' => r = some (.int (f_X12_isCorner x1)) ∧ h = h') (As := [.int x1]) (c_X12_isCorner hs x1 ⟨rfl, rfl⟩) (Y_X12_isCorner) l_X12_174 st_X12_isCorner rfl ⟨(Nat.le_of_ble_eq_true rfl), (Nat.le_of_ble_eq_true rfl), (Nat.le_of_ble_eq_true rfl), (Nat.le_of_ble_eq_true rfl)⟩ dX12_round_1 ?_
  rintro _ _ ⟨rfl, rfl⟩
  refine ab_if_eq (tgt := 12) dX12_round_4 (by decide) (fun c1 => ?_) (fun c1 => ?_)
  · have ht := ht.1 c1
    refine ab_iconst (v := (-1)) dX12_round_12 (by decide) ?_
    exact ab_iret rfl dX12_round_13 (Nat.le_of_ble_eq_true rfl) (Nat.le_of_ble_eq_true rfl) ht
  · have ht := ht.2 c1
    refine ab_iload_n (i := 2) dX12_round_7 rfl rfl ?_
    refine ab_iconst (v := (-1)) dX12_round_8 (by decide) ?_
    refine ab_icmp_ge (tgt := 14) dX12_round_9 (by decide) (fun c2 => ?_) (fun c2 => ?_)
    · have ht := ht.1 c2
      refine ab_aload_n (i := 0) dX12_round_14 rfl rfl ?_
      refine ab_callV (b := 82) (As := []) ht (Y_X12_looks) l_X12_416 in_X12_looks se_X12_looks (sh_k hs 82 12 (by decide) rfl) (by decide) rfl rfl ⟨(Nat.le_of_ble_eq_true rfl), (Nat.le_of_ble_eq_true rfl), (Nat.le_of_ble_eq_true rfl), (Nat.le_of_ble_eq_true rfl)⟩ dX12_round_15 ?_
      rintro _ h3 ⟨rfl, hs4, ht⟩
      refine ab_aload_n (i := 0) dX12_round_18 rfl rfl ?_
      refine ab_aload_n (i := 0) dX12_round_19 rfl rfl ?_
      refine ab_getR (b := 98) f_X12_71 rfl (sh_k hs4 82 12 (by decide) rfl) (sh_r hs4 114 rfl) dX12_round_20 ?_
      refine ab_iconst (v := 0) dX12_round_23 (by decide) ?_
      refine ab_callV (b := 82) (As := [.ref 98, .int 0]) ht (Y_X12_measures) l_X12_374 in_X12_measures se_X12_measures (sh_k hs4 82 12 (by decide) rfl) (by decide) rfl rfl ⟨(Nat.le_of_ble_eq_true rfl), (Nat.le_of_ble_eq_true rfl), (Nat.le_of_ble_eq_true rfl), (Nat.le_of_ble_eq_true rfl)⟩ dX12_round_24 ?_
      rintro _ h6 ⟨rfl, hs7, ht⟩
      refine ab_iconst (v := 1) dX12_round_27 (by decide) ?_
      refine ab_aload_n (i := 0) dX12_round_28 rfl rfl ?_
      refine ab_getI f_X12_378 rfl (sh_k hs7 82 12 (by decide) rfl) dX12_round_29 ?_
      refine ab_ishl dX12_round_32 ?_
      refine ab_iconst (v := 1) dX12_round_33 (by decide) ?_
      refine ab_isub dX12_round_34 ?_
      refine ab_istore_n (i := 3) (L' := [some (.ref 82), some (.int x1), some (.int x2), some (.int (((1 : Int32) <<< ((ah_i h6 82 41) &&& 31)) - 1)), none, none, none, none, none]) dX12_round_35 rfl (by exact (Nat.le_of_ble_eq_true rfl)) rfl rfl ?_
      exact Wp.fewer (L' := [some (.ref 82), some (.int x1), some (.int x2), some (.int (((1 : Int32) <<< ((ah_i h6 82 41) &&& 31)) - 1)), none, none, none, none, none]) (show ab_leL _ _ from ⟨rfl, ⟨rfl, ⟨rfl, ⟨rfl, trivial⟩⟩⟩⟩) ht
    · have ht := ht.2 c2
      refine ab_iconst (v := (-1)) dX12_round_12 (by decide) ?_
      exact ab_iret rfl dX12_round_13 (Nat.le_of_ble_eq_true rfl) (Nat.le_of_ble_eq_true rfl) ht
theorem dX12_besides_0 : decode cX12_besides 0 = .ok (.iload_n 1, 1) := by decide +kernel
theorem dX12_besides_1 : decode cX12_besides 1 = .ok (.istore_n 2, 1) := by decide +kernel
theorem dX12_besides_2 : decode cX12_besides 2 = .ok (.iconst 0, 1) := by decide +kernel
theorem dX12_besides_3 : decode cX12_besides 3 = .ok (.istore_n 3, 1) := by decide +kernel
theorem dX12_besides_4 : decode cX12_besides 4 = .ok (.iload_n 3, 1) := by decide +kernel
theorem dX12_besides_5 : decode cX12_besides 5 = .ok (.aload_n 0, 1) := by decide +kernel
theorem dX12_besides_6 : decode cX12_besides 6 = .ok (.getfield 20, 3) := by decide +kernel
theorem dX12_besides_9 : decode cX12_besides 9 = .ok (.sipush 245, 3) := by decide +kernel
theorem dX12_besides_12 : decode cX12_besides 12 = .ok (.iaload, 1) := by decide +kernel
theorem dX12_besides_13 : decode cX12_besides 13 = .ok (.if_icmp .ge 77, 3) := by decide +kernel
theorem dX12_besides_16 : decode cX12_besides 16 = .ok (.iload_n 1, 1) := by decide +kernel
theorem dX12_besides_17 : decode cX12_besides 17 = .ok (.aload_n 0, 1) := by decide +kernel
theorem dX12_besides_18 : decode cX12_besides 18 = .ok (.getfield 20, 3) := by decide +kernel
theorem dX12_besides_21 : decode cX12_besides 21 = .ok (.iconst 0, 1) := by decide +kernel
theorem dX12_besides_22 : decode cX12_besides 22 = .ok (.iconst 3, 1) := by decide +kernel
theorem dX12_besides_23 : decode cX12_besides 23 = .ok (.iload_n 3, 1) := by decide +kernel
theorem dX12_besides_24 : decode cX12_besides 24 = .ok (.imul, 1) := by decide +kernel
theorem dX12_besides_25 : decode cX12_besides 25 = .ok (.iadd, 1) := by decide +kernel
theorem dX12_besides_26 : decode cX12_besides 26 = .ok (.iaload, 1) := by decide +kernel
theorem dX12_besides_27 : decode cX12_besides 27 = .ok (.invokestatic 367, 3) := by decide +kernel
theorem dX12_besides_30 : decode cX12_besides 30 = .ok (.ifCond .eq 20, 3) := by decide +kernel
theorem dX12_besides_33 : decode cX12_besides 33 = .ok (.iload_n 2, 1) := by decide +kernel
theorem dX12_besides_34 : decode cX12_besides 34 = .ok (.iconst 1, 1) := by decide +kernel
theorem dX12_besides_35 : decode cX12_besides 35 = .ok (.aload_n 0, 1) := by decide +kernel
theorem dX12_besides_36 : decode cX12_besides 36 = .ok (.getfield 20, 3) := by decide +kernel
theorem dX12_besides_39 : decode cX12_besides 39 = .ok (.iconst 0, 1) := by decide +kernel
theorem dX12_besides_40 : decode cX12_besides 40 = .ok (.iconst 3, 1) := by decide +kernel
theorem dX12_besides_41 : decode cX12_besides 41 = .ok (.iload_n 3, 1) := by decide +kernel
theorem dX12_besides_42 : decode cX12_besides 42 = .ok (.imul, 1) := by decide +kernel
theorem dX12_besides_43 : decode cX12_besides 43 = .ok (.iadd, 1) := by decide +kernel
theorem dX12_besides_44 : decode cX12_besides 44 = .ok (.iconst 1, 1) := by decide +kernel
theorem dX12_besides_45 : decode cX12_besides 45 = .ok (.iadd, 1) := by decide +kernel
theorem dX12_besides_46 : decode cX12_besides 46 = .ok (.iaload, 1) := by decide +kernel
theorem dX12_besides_47 : decode cX12_besides 47 = .ok (.ishl, 1) := by decide +kernel
theorem dX12_besides_48 : decode cX12_besides 48 = .ok (.ior, 1) := by decide +kernel
theorem dX12_besides_49 : decode cX12_besides 49 = .ok (.istore_n 2, 1) := by decide +kernel
theorem dX12_besides_50 : decode cX12_besides 50 = .ok (.iload_n 1, 1) := by decide +kernel
theorem dX12_besides_51 : decode cX12_besides 51 = .ok (.aload_n 0, 1) := by decide +kernel
theorem dX12_besides_52 : decode cX12_besides 52 = .ok (.getfield 20, 3) := by decide +kernel
theorem dX12_besides_55 : decode cX12_besides 55 = .ok (.iconst 0, 1) := by decide +kernel
theorem dX12_besides_56 : decode cX12_besides 56 = .ok (.iconst 3, 1) := by decide +kernel
theorem dX12_besides_57 : decode cX12_besides 57 = .ok (.iload_n 3, 1) := by decide +kernel
theorem dX12_besides_58 : decode cX12_besides 58 = .ok (.imul, 1) := by decide +kernel
theorem dX12_besides_59 : decode cX12_besides 59 = .ok (.iadd, 1) := by decide +kernel
theorem dX12_besides_60 : decode cX12_besides 60 = .ok (.iconst 1, 1) := by decide +kernel
theorem dX12_besides_61 : decode cX12_besides 61 = .ok (.iadd, 1) := by decide +kernel
theorem dX12_besides_62 : decode cX12_besides 62 = .ok (.iaload, 1) := by decide +kernel
theorem dX12_besides_63 : decode cX12_besides 63 = .ok (.invokestatic 367, 3) := by decide +kernel
theorem dX12_besides_66 : decode cX12_besides 66 = .ok (.ifCond .eq 18, 3) := by decide +kernel
theorem dX12_besides_69 : decode cX12_besides 69 = .ok (.iload_n 2, 1) := by decide +kernel
theorem dX12_besides_70 : decode cX12_besides 70 = .ok (.iconst 1, 1) := by decide +kernel
theorem dX12_besides_71 : decode cX12_besides 71 = .ok (.aload_n 0, 1) := by decide +kernel
theorem dX12_besides_72 : decode cX12_besides 72 = .ok (.getfield 20, 3) := by decide +kernel
theorem dX12_besides_75 : decode cX12_besides 75 = .ok (.iconst 0, 1) := by decide +kernel
theorem dX12_besides_76 : decode cX12_besides 76 = .ok (.iconst 3, 1) := by decide +kernel
theorem dX12_besides_77 : decode cX12_besides 77 = .ok (.iload_n 3, 1) := by decide +kernel
theorem dX12_besides_78 : decode cX12_besides 78 = .ok (.imul, 1) := by decide +kernel
theorem dX12_besides_79 : decode cX12_besides 79 = .ok (.iadd, 1) := by decide +kernel
theorem dX12_besides_80 : decode cX12_besides 80 = .ok (.iaload, 1) := by decide +kernel
theorem dX12_besides_81 : decode cX12_besides 81 = .ok (.ishl, 1) := by decide +kernel
theorem dX12_besides_82 : decode cX12_besides 82 = .ok (.ior, 1) := by decide +kernel
theorem dX12_besides_83 : decode cX12_besides 83 = .ok (.istore_n 2, 1) := by decide +kernel
theorem dX12_besides_84 : decode cX12_besides 84 = .ok (.iinc 3 1, 3) := by decide +kernel
theorem dX12_besides_87 : decode cX12_besides 87 = .ok (.goto (-83), 3) := by decide +kernel
theorem dX12_besides_90 : decode cX12_besides 90 = .ok (.iload_n 2, 1) := by decide +kernel
theorem dX12_besides_91 : decode cX12_besides 91 = .ok (.ireturn, 1) := by decide +kernel
set_option maxRecDepth 20000 in
theorem T_X12_besides_4 {Q : Option Value → ah_T → Prop} {h : ah_T} (hs : Sh h) (x1 : Int32) (x2 : Int32) (x3 : Int32) (ht : (((ah_i h 84 (Int32.toNatClampNeg 245)) ≤ x3 → Q (some (.int x2)) h) ∧ (¬ (ah_i h 84 (Int32.toNatClampNeg 245)) ≤ x3 → (vp_in (0 + (3 * x3)) (ah_n h 84)) ∧ (((f_X12_isIn x1 (ah_i h 84 (Int32.toNatClampNeg (0 + (3 * x3))))) = 0 → (vp_in ((0 + (3 * x3)) + 1) (ah_n h 84)) ∧ (((f_X12_isIn x1 (ah_i h 84 (Int32.toNatClampNeg ((0 + (3 * x3)) + 1)))) = 0 → Wp mX12_besides Q 0 0 4 [some (.ref 82), some (.int x1), some (.int x2), some (.int (x3 + 1))] [] h) ∧ (¬ (f_X12_isIn x1 (ah_i h 84 (Int32.toNatClampNeg ((0 + (3 * x3)) + 1)))) = 0 → (vp_in (0 + (3 * x3)) (ah_n h 84)) ∧ Wp mX12_besides Q 0 0 4 [some (.ref 82), some (.int x1), some (.int (x2 ||| ((1 : Int32) <<< ((ah_i h 84 (Int32.toNatClampNeg (0 + (3 * x3)))) &&& 31)))), some (.int (x3 + 1))] [] h))) ∧ (¬ (f_X12_isIn x1 (ah_i h 84 (Int32.toNatClampNeg (0 + (3 * x3))))) = 0 → (vp_in ((0 + (3 * x3)) + 1) (ah_n h 84)) ∧ (vp_in ((0 + (3 * x3)) + 1) (ah_n h 84)) ∧ (((f_X12_isIn x1 (ah_i h 84 (Int32.toNatClampNeg ((0 + (3 * x3)) + 1)))) = 0 → Wp mX12_besides Q 0 0 4 [some (.ref 82), some (.int x1), some (.int (x2 ||| ((1 : Int32) <<< ((ah_i h 84 (Int32.toNatClampNeg ((0 + (3 * x3)) + 1))) &&& 31)))), some (.int (x3 + 1))] [] h) ∧ (¬ (f_X12_isIn x1 (ah_i h 84 (Int32.toNatClampNeg ((0 + (3 * x3)) + 1)))) = 0 → (vp_in (0 + (3 * x3)) (ah_n h 84)) ∧ Wp mX12_besides Q 0 0 4 [some (.ref 82), some (.int x1), some (.int ((x2 ||| ((1 : Int32) <<< ((ah_i h 84 (Int32.toNatClampNeg ((0 + (3 * x3)) + 1))) &&& 31))) ||| ((1 : Int32) <<< ((ah_i h 84 (Int32.toNatClampNeg (0 + (3 * x3)))) &&& 31)))), some (.int (x3 + 1))] [] h))))))) : Wp mX12_besides Q 0 0 4 [some (.ref 82), some (.int x1), some (.int x2), some (.int x3)] [] h := by
  refine ab_iload_n (i := 3) dX12_besides_4 rfl rfl ?_
  refine ab_aload_n (i := 0) dX12_besides_5 rfl rfl ?_
  refine ab_getR (b := 84) f_X12_20 rfl (sh_k hs 82 12 (by decide) rfl) (sh_r hs 100 rfl) dX12_besides_6 ?_
  refine ab_sipush (v := 245) dX12_besides_9 (by decide) ?_
  refine ab_iald (sh_k hs 84 14 (by decide) rfl) (sh_in hs 84 5860 (by decide) (by decide) rfl (by unfold vp_in; decide)) dX12_besides_12 ?_
  refine ab_icmp_ge (tgt := 90) dX12_besides_13 (by decide) (fun c1 => ?_) (fun c1 => ?_)
  · have ht := ht.1 c1
    refine ab_iload_n (i := 2) dX12_besides_90 rfl rfl ?_
    exact ab_iret rfl dX12_besides_91 (Nat.le_of_ble_eq_true rfl) (Nat.le_of_ble_eq_true rfl) ht
  · have ht := ht.2 c1
    refine ab_iload_n (i := 1) dX12_besides_16 rfl rfl ?_
    refine ab_aload_n (i := 0) dX12_besides_17 rfl rfl ?_
    refine ab_getR (b := 84) f_X12_20 rfl (sh_k hs 82 12 (by decide) rfl) (sh_r hs 100 rfl) dX12_besides_18 ?_
    refine ab_iconst (v := 0) dX12_besides_21 (by decide) ?_
    refine ab_iconst (v := 3) dX12_besides_22 (by decide) ?_
    refine ab_iload_n (i := 3) dX12_besides_23 rfl rfl ?_
    refine ab_imul dX12_besides_24 ?_
    refine ab_iadd dX12_besides_25 ?_
    obtain ⟨hc2, ht⟩ := ht
    refine ab_iald (sh_k hs 84 14 (by decide) rfl) hc2 dX12_besides_26 ?_
    refine ab_callS (Q' := fun r h' => r = some (.int (f_X12_isIn x1 (ah_i h 84 (Int32.toNatClampNeg (0 + (3 * x3)))))) ∧ h = h') (As := [.int x1, .int (ah_i h 84 (Int32.toNatClampNeg (0 + (3 * x3))))]) (c_X12_isIn hs x1 (ah_i h 84 (Int32.toNatClampNeg (0 + (3 * x3)))) ⟨rfl, rfl⟩) (Y_X12_isIn) l_X12_367 st_X12_isIn rfl ⟨(Nat.le_of_ble_eq_true rfl), (Nat.le_of_ble_eq_true rfl), (Nat.le_of_ble_eq_true rfl), (Nat.le_of_ble_eq_true rfl)⟩ dX12_besides_27 ?_
    rintro _ _ ⟨rfl, rfl⟩
    refine ab_if_eq (tgt := 50) dX12_besides_30 (by decide) (fun c3 => ?_) (fun c3 => ?_)
    · have ht := ht.1 c3
      refine ab_iload_n (i := 1) dX12_besides_50 rfl rfl ?_
      refine ab_aload_n (i := 0) dX12_besides_51 rfl rfl ?_
      refine ab_getR (b := 84) f_X12_20 rfl (sh_k hs 82 12 (by decide) rfl) (sh_r hs 100 rfl) dX12_besides_52 ?_
      refine ab_iconst (v := 0) dX12_besides_55 (by decide) ?_
      refine ab_iconst (v := 3) dX12_besides_56 (by decide) ?_
      refine ab_iload_n (i := 3) dX12_besides_57 rfl rfl ?_
      refine ab_imul dX12_besides_58 ?_
      refine ab_iadd dX12_besides_59 ?_
      refine ab_iconst (v := 1) dX12_besides_60 (by decide) ?_
      refine ab_iadd dX12_besides_61 ?_
      obtain ⟨hc4, ht⟩ := ht
      refine ab_iald (sh_k hs 84 14 (by decide) rfl) hc4 dX12_besides_62 ?_
      refine ab_callS (Q' := fun r h' => r = some (.int (f_X12_isIn x1 (ah_i h 84 (Int32.toNatClampNeg ((0 + (3 * x3)) + 1))))) ∧ h = h') (As := [.int x1, .int (ah_i h 84 (Int32.toNatClampNeg ((0 + (3 * x3)) + 1)))]) (c_X12_isIn hs x1 (ah_i h 84 (Int32.toNatClampNeg ((0 + (3 * x3)) + 1))) ⟨rfl, rfl⟩) (Y_X12_isIn) l_X12_367 st_X12_isIn rfl ⟨(Nat.le_of_ble_eq_true rfl), (Nat.le_of_ble_eq_true rfl), (Nat.le_of_ble_eq_true rfl), (Nat.le_of_ble_eq_true rfl)⟩ dX12_besides_63 ?_
      rintro _ _ ⟨rfl, rfl⟩
      refine ab_if_eq (tgt := 84) dX12_besides_66 (by decide) (fun c5 => ?_) (fun c5 => ?_)
      · have ht := ht.1 c5
        refine ab_iinc (i := 3) (x := x3) (v := (x3 + 1)) (L' := [some (.ref 82), some (.int x1), some (.int x2), some (.int (x3 + 1))]) dX12_besides_84 rfl rfl (by exact (Nat.le_of_ble_eq_true rfl)) rfl rfl ?_
        refine ab_goto (tgt := 4) dX12_besides_87 (by decide) ?_
        exact Wp.fewer (L' := [some (.ref 82), some (.int x1), some (.int x2), some (.int (x3 + 1))]) (show ab_leL _ _ from ⟨rfl, ⟨rfl, ⟨rfl, ⟨rfl, trivial⟩⟩⟩⟩) ht
      · have ht := ht.2 c5
        refine ab_iload_n (i := 2) dX12_besides_69 rfl rfl ?_
        refine ab_iconst (v := 1) dX12_besides_70 (by decide) ?_
        refine ab_aload_n (i := 0) dX12_besides_71 rfl rfl ?_
        refine ab_getR (b := 84) f_X12_20 rfl (sh_k hs 82 12 (by decide) rfl) (sh_r hs 100 rfl) dX12_besides_72 ?_
        refine ab_iconst (v := 0) dX12_besides_75 (by decide) ?_
        refine ab_iconst (v := 3) dX12_besides_76 (by decide) ?_
        refine ab_iload_n (i := 3) dX12_besides_77 rfl rfl ?_
        refine ab_imul dX12_besides_78 ?_
        refine ab_iadd dX12_besides_79 ?_
        obtain ⟨hc6, ht⟩ := ht
        refine ab_iald (sh_k hs 84 14 (by decide) rfl) hc6 dX12_besides_80 ?_
        refine ab_ishl dX12_besides_81 ?_
        refine ab_ior dX12_besides_82 ?_
        refine ab_istore_n (i := 2) (L' := [some (.ref 82), some (.int x1), some (.int (x2 ||| ((1 : Int32) <<< ((ah_i h 84 (Int32.toNatClampNeg (0 + (3 * x3)))) &&& 31)))), some (.int x3)]) dX12_besides_83 rfl (by exact (Nat.le_of_ble_eq_true rfl)) rfl rfl ?_
        refine ab_iinc (i := 3) (x := x3) (v := (x3 + 1)) (L' := [some (.ref 82), some (.int x1), some (.int (x2 ||| ((1 : Int32) <<< ((ah_i h 84 (Int32.toNatClampNeg (0 + (3 * x3)))) &&& 31)))), some (.int (x3 + 1))]) dX12_besides_84 rfl rfl (by exact (Nat.le_of_ble_eq_true rfl)) rfl rfl ?_
        refine ab_goto (tgt := 4) dX12_besides_87 (by decide) ?_
        exact Wp.fewer (L' := [some (.ref 82), some (.int x1), some (.int (x2 ||| ((1 : Int32) <<< ((ah_i h 84 (Int32.toNatClampNeg (0 + (3 * x3)))) &&& 31)))), some (.int (x3 + 1))]) (show ab_leL _ _ from ⟨rfl, ⟨rfl, ⟨rfl, ⟨rfl, trivial⟩⟩⟩⟩) ht
    · have ht := ht.2 c3
      refine ab_iload_n (i := 2) dX12_besides_33 rfl rfl ?_
      refine ab_iconst (v := 1) dX12_besides_34 (by decide) ?_
      refine ab_aload_n (i := 0) dX12_besides_35 rfl rfl ?_
      refine ab_getR (b := 84) f_X12_20 rfl (sh_k hs 82 12 (by decide) rfl) (sh_r hs 100 rfl) dX12_besides_36 ?_
      refine ab_iconst (v := 0) dX12_besides_39 (by decide) ?_
      refine ab_iconst (v := 3) dX12_besides_40 (by decide) ?_
      refine ab_iload_n (i := 3) dX12_besides_41 rfl rfl ?_
      refine ab_imul dX12_besides_42 ?_
      refine ab_iadd dX12_besides_43 ?_
      refine ab_iconst (v := 1) dX12_besides_44 (by decide) ?_
      refine ab_iadd dX12_besides_45 ?_
      obtain ⟨hc7, ht⟩ := ht
      refine ab_iald (sh_k hs 84 14 (by decide) rfl) hc7 dX12_besides_46 ?_
      refine ab_ishl dX12_besides_47 ?_
      refine ab_ior dX12_besides_48 ?_
      refine ab_istore_n (i := 2) (L' := [some (.ref 82), some (.int x1), some (.int (x2 ||| ((1 : Int32) <<< ((ah_i h 84 (Int32.toNatClampNeg ((0 + (3 * x3)) + 1))) &&& 31)))), some (.int x3)]) dX12_besides_49 rfl (by exact (Nat.le_of_ble_eq_true rfl)) rfl rfl ?_
      refine ab_iload_n (i := 1) dX12_besides_50 rfl rfl ?_
      refine ab_aload_n (i := 0) dX12_besides_51 rfl rfl ?_
      refine ab_getR (b := 84) f_X12_20 rfl (sh_k hs 82 12 (by decide) rfl) (sh_r hs 100 rfl) dX12_besides_52 ?_
      refine ab_iconst (v := 0) dX12_besides_55 (by decide) ?_
      refine ab_iconst (v := 3) dX12_besides_56 (by decide) ?_
      refine ab_iload_n (i := 3) dX12_besides_57 rfl rfl ?_
      refine ab_imul dX12_besides_58 ?_
      refine ab_iadd dX12_besides_59 ?_
      refine ab_iconst (v := 1) dX12_besides_60 (by decide) ?_
      refine ab_iadd dX12_besides_61 ?_
      obtain ⟨hc8, ht⟩ := ht
      refine ab_iald (sh_k hs 84 14 (by decide) rfl) hc8 dX12_besides_62 ?_
      refine ab_callS (Q' := fun r h' => r = some (.int (f_X12_isIn x1 (ah_i h 84 (Int32.toNatClampNeg ((0 + (3 * x3)) + 1))))) ∧ h = h') (As := [.int x1, .int (ah_i h 84 (Int32.toNatClampNeg ((0 + (3 * x3)) + 1)))]) (c_X12_isIn hs x1 (ah_i h 84 (Int32.toNatClampNeg ((0 + (3 * x3)) + 1))) ⟨rfl, rfl⟩) (Y_X12_isIn) l_X12_367 st_X12_isIn rfl ⟨(Nat.le_of_ble_eq_true rfl), (Nat.le_of_ble_eq_true rfl), (Nat.le_of_ble_eq_true rfl), (Nat.le_of_ble_eq_true rfl)⟩ dX12_besides_63 ?_
      rintro _ _ ⟨rfl, rfl⟩
      refine ab_if_eq (tgt := 84) dX12_besides_66 (by decide) (fun c9 => ?_) (fun c9 => ?_)
      · have ht := ht.1 c9
        refine ab_iinc (i := 3) (x := x3) (v := (x3 + 1)) (L' := [some (.ref 82), some (.int x1), some (.int (x2 ||| ((1 : Int32) <<< ((ah_i h 84 (Int32.toNatClampNeg ((0 + (3 * x3)) + 1))) &&& 31)))), some (.int (x3 + 1))]) dX12_besides_84 rfl rfl (by exact (Nat.le_of_ble_eq_true rfl)) rfl rfl ?_
        refine ab_goto (tgt := 4) dX12_besides_87 (by decide) ?_
        exact Wp.fewer (L' := [some (.ref 82), some (.int x1), some (.int (x2 ||| ((1 : Int32) <<< ((ah_i h 84 (Int32.toNatClampNeg ((0 + (3 * x3)) + 1))) &&& 31)))), some (.int (x3 + 1))]) (show ab_leL _ _ from ⟨rfl, ⟨rfl, ⟨rfl, ⟨rfl, trivial⟩⟩⟩⟩) ht
      · have ht := ht.2 c9
        refine ab_iload_n (i := 2) dX12_besides_69 rfl rfl ?_
        refine ab_iconst (v := 1) dX12_besides_70 (by decide) ?_
        refine ab_aload_n (i := 0) dX12_besides_71 rfl rfl ?_
        refine ab_getR (b := 84) f_X12_20 rfl (sh_k hs 82 12 (by decide) rfl) (sh_r hs 100 rfl) dX12_besides_72 ?_
        refine ab_iconst (v := 0) dX12_besides_75 (by decide) ?_
        refine ab_iconst (v := 3) dX12_besides_76 (by decide) ?_
        refine ab_iload_n (i := 3) dX12_besides_77 rfl rfl ?_
        refine ab_imul dX12_besides_78 ?_
        refine ab_iadd dX12_besides_79 ?_
        obtain ⟨hc10, ht⟩ := ht
        refine ab_iald (sh_k hs 84 14 (by decide) rfl) hc10 dX12_besides_80 ?_
        refine ab_ishl dX12_besides_81 ?_
        refine ab_ior dX12_besides_82 ?_
        refine ab_istore_n (i := 2) (L' := [some (.ref 82), some (.int x1), some (.int ((x2 ||| ((1 : Int32) <<< ((ah_i h 84 (Int32.toNatClampNeg ((0 + (3 * x3)) + 1))) &&& 31))) ||| ((1 : Int32) <<< ((ah_i h 84 (Int32.toNatClampNeg (0 + (3 * x3)))) &&& 31)))), some (.int x3)]) dX12_besides_83 rfl (by exact (Nat.le_of_ble_eq_true rfl)) rfl rfl ?_
        refine ab_iinc (i := 3) (x := x3) (v := (x3 + 1)) (L' := [some (.ref 82), some (.int x1), some (.int ((x2 ||| ((1 : Int32) <<< ((ah_i h 84 (Int32.toNatClampNeg ((0 + (3 * x3)) + 1))) &&& 31))) ||| ((1 : Int32) <<< ((ah_i h 84 (Int32.toNatClampNeg (0 + (3 * x3)))) &&& 31)))), some (.int (x3 + 1))]) dX12_besides_84 rfl rfl (by exact (Nat.le_of_ble_eq_true rfl)) rfl rfl ?_
        refine ab_goto (tgt := 4) dX12_besides_87 (by decide) ?_
        exact Wp.fewer (L' := [some (.ref 82), some (.int x1), some (.int ((x2 ||| ((1 : Int32) <<< ((ah_i h 84 (Int32.toNatClampNeg ((0 + (3 * x3)) + 1))) &&& 31))) ||| ((1 : Int32) <<< ((ah_i h 84 (Int32.toNatClampNeg (0 + (3 * x3)))) &&& 31)))), some (.int (x3 + 1))]) (show ab_leL _ _ from ⟨rfl, ⟨rfl, ⟨rfl, ⟨rfl, trivial⟩⟩⟩⟩) ht
set_option maxRecDepth 20000 in
theorem T_X12_besides {Q : Option Value → ah_T → Prop} {h : ah_T} (hs : Sh h) (x1 : Int32) (ht : Wp mX12_besides Q 0 0 4 [some (.ref 82), some (.int x1), some (.int x1), some (.int 0)] [] h) : Mt mX12_besides [.ref 82, .int x1] h Q := by
  refine Mt.ofWp rfl (by exact (Nat.le_of_ble_eq_true rfl)) (Wp.fewer (L' := [some (.ref 82), some (.int x1), none, none]) (show ab_leL _ _ from ⟨rfl, ⟨rfl, trivial⟩⟩) ?_)
  refine ab_iload_n (i := 1) dX12_besides_0 rfl rfl ?_
  refine ab_istore_n (i := 2) (L' := [some (.ref 82), some (.int x1), some (.int x1), none]) dX12_besides_1 rfl (by exact (Nat.le_of_ble_eq_true rfl)) rfl rfl ?_
  refine ab_iconst (v := 0) dX12_besides_2 (by decide) ?_
  refine ab_istore_n (i := 3) (L' := [some (.ref 82), some (.int x1), some (.int x1), some (.int 0)]) dX12_besides_3 rfl (by exact (Nat.le_of_ble_eq_true rfl)) rfl rfl ?_
  exact Wp.fewer (L' := [some (.ref 82), some (.int x1), some (.int x1), some (.int 0)]) (show ab_leL _ _ from ⟨rfl, ⟨rfl, ⟨rfl, ⟨rfl, trivial⟩⟩⟩⟩) ht
theorem dX12_walk_0 : decode cX12_walk 0 = .ok (.iload_n 1, 1) := by decide +kernel
theorem dX12_walk_1 : decode cX12_walk 1 = .ok (.invokestatic 174, 3) := by decide +kernel
theorem dX12_walk_4 : decode cX12_walk 4 = .ok (.ifCond .eq 33, 3) := by decide +kernel
theorem dX12_walk_7 : decode cX12_walk 7 = .ok (.iload_n 2, 1) := by decide +kernel
theorem dX12_walk_8 : decode cX12_walk 8 = .ok (.invokestatic 201, 3) := by decide +kernel
theorem dX12_walk_11 : decode cX12_walk 11 = .ok (.ifCond .eq 26, 3) := by decide +kernel
theorem dX12_walk_14 : decode cX12_walk 14 = .ok (.iload_n 3, 1) := by decide +kernel
theorem dX12_walk_15 : decode cX12_walk 15 = .ok (.invokestatic 174, 3) := by decide +kernel
theorem dX12_walk_18 : decode cX12_walk 18 = .ok (.ifCond .eq 19, 3) := by decide +kernel
theorem dX12_walk_21 : decode cX12_walk 21 = .ok (.iload 4, 2) := by decide +kernel
theorem dX12_walk_23 : decode cX12_walk 23 = .ok (.iconst 0, 1) := by decide +kernel
theorem dX12_walk_24 : decode cX12_walk 24 = .ok (.iconst 1, 1) := by decide +kernel
theorem dX12_walk_25 : decode cX12_walk 25 = .ok (.invokestatic 156, 3) := by decide +kernel
theorem dX12_walk_28 : decode cX12_walk 28 = .ok (.ifCond .eq 9, 3) := by decide +kernel
theorem dX12_walk_31 : decode cX12_walk 31 = .ok (.iload 5, 2) := by decide +kernel
theorem dX12_walk_33 : decode cX12_walk 33 = .ok (.iconst (-1), 1) := by decide +kernel
theorem dX12_walk_34 : decode cX12_walk 34 = .ok (.if_icmp .ge 5, 3) := by decide +kernel
theorem dX12_walk_37 : decode cX12_walk 37 = .ok (.iconst (-1), 1) := by decide +kernel
theorem dX12_walk_38 : decode cX12_walk 38 = .ok (.ireturn, 1) := by decide +kernel
theorem dX12_walk_39 : decode cX12_walk 39 = .ok (.aload_n 0, 1) := by decide +kernel
theorem dX12_walk_40 : decode cX12_walk 40 = .ok (.invokevirtual 430, 3) := by decide +kernel
theorem dX12_walk_43 : decode cX12_walk 43 = .ok (.iload_n 2, 1) := by decide +kernel
theorem dX12_walk_44 : decode cX12_walk 44 = .ok (.istore 6, 2) := by decide +kernel
theorem dX12_walk_46 : decode cX12_walk 46 = .ok (.iload 6, 2) := by decide +kernel
theorem dX12_walk_48 : decode cX12_walk 48 = .ok (.bipush 120, 2) := by decide +kernel
theorem dX12_walk_50 : decode cX12_walk 50 = .ok (.if_icmp .ge 41, 3) := by decide +kernel
theorem dX12_walk_53 : decode cX12_walk 53 = .ok (.aload_n 0, 1) := by decide +kernel
theorem dX12_walk_54 : decode cX12_walk 54 = .ok (.getfield 119, 3) := by decide +kernel
theorem dX12_walk_57 : decode cX12_walk 57 = .ok (.iload 6, 2) := by decide +kernel
theorem dX12_walk_59 : decode cX12_walk 59 = .ok (.iload 4, 2) := by decide +kernel
theorem dX12_walk_61 : decode cX12_walk 61 = .ok (.iconst 1, 1) := by decide +kernel
theorem dX12_walk_62 : decode cX12_walk 62 = .ok (.if_icmp .ne 12, 3) := by decide +kernel
theorem dX12_walk_65 : decode cX12_walk 65 = .ok (.aload_n 0, 1) := by decide +kernel
theorem dX12_walk_66 : decode cX12_walk 66 = .ok (.iload 6, 2) := by decide +kernel
theorem dX12_walk_68 : decode cX12_walk 68 = .ok (.invokevirtual 433, 3) := by decide +kernel
theorem dX12_walk_71 : decode cX12_walk 71 = .ok (.goto 13, 3) := by decide +kernel
theorem dX12_walk_74 : decode cX12_walk 74 = .ok (.aload_n 0, 1) := by decide +kernel
theorem dX12_walk_75 : decode cX12_walk 75 = .ok (.iload 6, 2) := by decide +kernel
theorem dX12_walk_77 : decode cX12_walk 77 = .ok (.invokevirtual 433, 3) := by decide +kernel
theorem dX12_walk_80 : decode cX12_walk 80 = .ok (.sipush 4095, 3) := by decide +kernel
theorem dX12_walk_83 : decode cX12_walk 83 = .ok (.ixor, 1) := by decide +kernel
theorem dX12_walk_84 : decode cX12_walk 84 = .ok (.iastore, 1) := by decide +kernel
theorem dX12_walk_85 : decode cX12_walk 85 = .ok (.iinc 6 1, 3) := by decide +kernel
theorem dX12_walk_88 : decode cX12_walk 88 = .ok (.goto (-42), 3) := by decide +kernel
theorem dX12_walk_91 : decode cX12_walk 91 = .ok (.iconst 1, 1) := by decide +kernel
theorem dX12_walk_92 : decode cX12_walk 92 = .ok (.iload_n 1, 1) := by decide +kernel
theorem dX12_walk_93 : decode cX12_walk 93 = .ok (.ishl, 1) := by decide +kernel
theorem dX12_walk_94 : decode cX12_walk 94 = .ok (.aload_n 0, 1) := by decide +kernel
theorem dX12_walk_95 : decode cX12_walk 95 = .ok (.getfield 119, 3) := by decide +kernel
theorem dX12_walk_98 : decode cX12_walk 98 = .ok (.iload_n 2, 1) := by decide +kernel
theorem dX12_walk_99 : decode cX12_walk 99 = .ok (.iaload, 1) := by decide +kernel
theorem dX12_walk_100 : decode cX12_walk 100 = .ok (.iand, 1) := by decide +kernel
theorem dX12_walk_101 : decode cX12_walk 101 = .ok (.istore 6, 2) := by decide +kernel
theorem dX12_walk_103 : decode cX12_walk 103 = .ok (.iload_n 2, 1) := by decide +kernel
theorem dX12_walk_104 : decode cX12_walk 104 = .ok (.istore 7, 2) := by decide +kernel
theorem dX12_walk_106 : decode cX12_walk 106 = .ok (.iload 7, 2) := by decide +kernel
theorem dX12_walk_108 : decode cX12_walk 108 = .ok (.bipush 119, 2) := by decide +kernel
theorem dX12_walk_110 : decode cX12_walk 110 = .ok (.if_icmp .ge 34, 3) := by decide +kernel
theorem dX12_walk_113 : decode cX12_walk 113 = .ok (.iload 6, 2) := by decide +kernel
theorem dX12_walk_115 : decode cX12_walk 115 = .ok (.iload_n 3, 1) := by decide +kernel
theorem dX12_walk_116 : decode cX12_walk 116 = .ok (.invokestatic 367, 3) := by decide +kernel
theorem dX12_walk_119 : decode cX12_walk 119 = .ok (.ifCond .ne 25, 3) := by decide +kernel
theorem dX12_walk_122 : decode cX12_walk 122 = .ok (.iinc 7 1, 3) := by decide +kernel
theorem dX12_walk_125 : decode cX12_walk 125 = .ok (.aload_n 0, 1) := by decide +kernel
theorem dX12_walk_126 : decode cX12_walk 126 = .ok (.iload 6, 2) := by decide +kernel
theorem dX12_walk_128 : decode cX12_walk 128 = .ok (.invokevirtual 448, 3) := by decide +kernel
theorem dX12_walk_131 : decode cX12_walk 131 = .ok (.aload_n 0, 1) := by decide +kernel
theorem dX12_walk_132 : decode cX12_walk 132 = .ok (.getfield 119, 3) := by decide +kernel
theorem dX12_walk_135 : decode cX12_walk 135 = .ok (.iload 7, 2) := by decide +kernel
theorem dX12_walk_137 : decode cX12_walk 137 = .ok (.iaload, 1) := by decide +kernel
theorem dX12_walk_138 : decode cX12_walk 138 = .ok (.iand, 1) := by decide +kernel
theorem dX12_walk_139 : decode cX12_walk 139 = .ok (.istore 6, 2) := by decide +kernel
theorem dX12_walk_141 : decode cX12_walk 141 = .ok (.goto (-35), 3) := by decide +kernel
theorem dX12_walk_144 : decode cX12_walk 144 = .ok (.iload 6, 2) := by decide +kernel
theorem dX12_walk_146 : decode cX12_walk 146 = .ok (.iload_n 3, 1) := by decide +kernel
theorem dX12_walk_147 : decode cX12_walk 147 = .ok (.invokestatic 367, 3) := by decide +kernel
theorem dX12_walk_150 : decode cX12_walk 150 = .ok (.ifCond .ne 5, 3) := by decide +kernel
theorem dX12_walk_153 : decode cX12_walk 153 = .ok (.iconst (-1), 1) := by decide +kernel
theorem dX12_walk_154 : decode cX12_walk 154 = .ok (.ireturn, 1) := by decide +kernel
theorem dX12_walk_155 : decode cX12_walk 155 = .ok (.iload 5, 2) := by decide +kernel
theorem dX12_walk_157 : decode cX12_walk 157 = .ok (.iconst (-1), 1) := by decide +kernel
theorem dX12_walk_158 : decode cX12_walk 158 = .ok (.if_icmp .eq 12, 3) := by decide +kernel
theorem dX12_walk_161 : decode cX12_walk 161 = .ok (.iload 5, 2) := by decide +kernel
theorem dX12_walk_163 : decode cX12_walk 163 = .ok (.iload 7, 2) := by decide +kernel
theorem dX12_walk_165 : decode cX12_walk 165 = .ok (.iload_n 2, 1) := by decide +kernel
theorem dX12_walk_166 : decode cX12_walk 166 = .ok (.isub, 1) := by decide +kernel
theorem dX12_walk_167 : decode cX12_walk 167 = .ok (.if_icmp .le 16, 3) := by decide +kernel
theorem dX12_walk_170 : decode cX12_walk 170 = .ok (.iload 5, 2) := by decide +kernel
theorem dX12_walk_172 : decode cX12_walk 172 = .ok (.iconst (-1), 1) := by decide +kernel
theorem dX12_walk_173 : decode cX12_walk 173 = .ok (.if_icmp .ne 8, 3) := by decide +kernel
theorem dX12_walk_176 : decode cX12_walk 176 = .ok (.iload 7, 2) := by decide +kernel
theorem dX12_walk_178 : decode cX12_walk 178 = .ok (.goto 4, 3) := by decide +kernel
theorem dX12_walk_181 : decode cX12_walk 181 = .ok (.iconst (-1), 1) := by decide +kernel
theorem dX12_walk_182 : decode cX12_walk 182 = .ok (.ireturn, 1) := by decide +kernel
theorem dX12_walk_183 : decode cX12_walk 183 = .ok (.aload_n 0, 1) := by decide +kernel
theorem dX12_walk_184 : decode cX12_walk 184 = .ok (.getfield 122, 3) := by decide +kernel
theorem dX12_walk_187 : decode cX12_walk 187 = .ok (.iload 7, 2) := by decide +kernel
theorem dX12_walk_189 : decode cX12_walk 189 = .ok (.iconst 1, 1) := by decide +kernel
theorem dX12_walk_190 : decode cX12_walk 190 = .ok (.iload_n 3, 1) := by decide +kernel
theorem dX12_walk_191 : decode cX12_walk 191 = .ok (.ishl, 1) := by decide +kernel
theorem dX12_walk_192 : decode cX12_walk 192 = .ok (.iastore, 1) := by decide +kernel
theorem dX12_walk_193 : decode cX12_walk 193 = .ok (.iload 7, 2) := by decide +kernel
theorem dX12_walk_195 : decode cX12_walk 195 = .ok (.iconst 1, 1) := by decide +kernel
theorem dX12_walk_196 : decode cX12_walk 196 = .ok (.isub, 1) := by decide +kernel
theorem dX12_walk_197 : decode cX12_walk 197 = .ok (.istore 8, 2) := by decide +kernel
theorem dX12_walk_199 : decode cX12_walk 199 = .ok (.iload 8, 2) := by decide +kernel
theorem dX12_walk_201 : decode cX12_walk 201 = .ok (.iload_n 2, 1) := by decide +kernel
theorem dX12_walk_202 : decode cX12_walk 202 = .ok (.if_icmp .lt 37, 3) := by decide +kernel
theorem dX12_walk_205 : decode cX12_walk 205 = .ok (.aload_n 0, 1) := by decide +kernel
theorem dX12_walk_206 : decode cX12_walk 206 = .ok (.getfield 122, 3) := by decide +kernel
theorem dX12_walk_209 : decode cX12_walk 209 = .ok (.iload 8, 2) := by decide +kernel
theorem dX12_walk_211 : decode cX12_walk 211 = .ok (.aload_n 0, 1) := by decide +kernel
theorem dX12_walk_212 : decode cX12_walk 212 = .ok (.aload_n 0, 1) := by decide +kernel
theorem dX12_walk_213 : decode cX12_walk 213 = .ok (.getfield 122, 3) := by decide +kernel
theorem dX12_walk_216 : decode cX12_walk 216 = .ok (.iload 8, 2) := by decide +kernel
theorem dX12_walk_218 : decode cX12_walk 218 = .ok (.iconst 1, 1) := by decide +kernel
theorem dX12_walk_219 : decode cX12_walk 219 = .ok (.iadd, 1) := by decide +kernel
theorem dX12_walk_220 : decode cX12_walk 220 = .ok (.iaload, 1) := by decide +kernel
theorem dX12_walk_221 : decode cX12_walk 221 = .ok (.invokevirtual 448, 3) := by decide +kernel
theorem dX12_walk_224 : decode cX12_walk 224 = .ok (.aload_n 0, 1) := by decide +kernel
theorem dX12_walk_225 : decode cX12_walk 225 = .ok (.getfield 119, 3) := by decide +kernel
theorem dX12_walk_228 : decode cX12_walk 228 = .ok (.iload 8, 2) := by decide +kernel
theorem dX12_walk_230 : decode cX12_walk 230 = .ok (.iaload, 1) := by decide +kernel
theorem dX12_walk_231 : decode cX12_walk 231 = .ok (.iand, 1) := by decide +kernel
theorem dX12_walk_232 : decode cX12_walk 232 = .ok (.iastore, 1) := by decide +kernel
theorem dX12_walk_233 : decode cX12_walk 233 = .ok (.iinc 8 (-1), 3) := by decide +kernel
theorem dX12_walk_236 : decode cX12_walk 236 = .ok (.goto (-37), 3) := by decide +kernel
theorem dX12_walk_239 : decode cX12_walk 239 = .ok (.iload_n 1, 1) := by decide +kernel
theorem dX12_walk_240 : decode cX12_walk 240 = .ok (.istore 8, 2) := by decide +kernel
theorem dX12_walk_242 : decode cX12_walk 242 = .ok (.iload_n 2, 1) := by decide +kernel
theorem dX12_walk_243 : decode cX12_walk 243 = .ok (.istore 9, 2) := by decide +kernel
theorem dX12_walk_245 : decode cX12_walk 245 = .ok (.iload 9, 2) := by decide +kernel
theorem dX12_walk_247 : decode cX12_walk 247 = .ok (.iload_n 2, 1) := by decide +kernel
theorem dX12_walk_248 : decode cX12_walk 248 = .ok (.iload 5, 2) := by decide +kernel
theorem dX12_walk_250 : decode cX12_walk 250 = .ok (.iadd, 1) := by decide +kernel
theorem dX12_walk_251 : decode cX12_walk 251 = .ok (.if_icmp .ge 48, 3) := by decide +kernel
theorem dX12_walk_254 : decode cX12_walk 254 = .ok (.aload_n 0, 1) := by decide +kernel
theorem dX12_walk_255 : decode cX12_walk 255 = .ok (.iconst 1, 1) := by decide +kernel
theorem dX12_walk_256 : decode cX12_walk 256 = .ok (.iload 8, 2) := by decide +kernel
theorem dX12_walk_258 : decode cX12_walk 258 = .ok (.ishl, 1) := by decide +kernel
theorem dX12_walk_259 : decode cX12_walk 259 = .ok (.invokevirtual 448, 3) := by decide +kernel
theorem dX12_walk_262 : decode cX12_walk 262 = .ok (.aload_n 0, 1) := by decide +kernel
theorem dX12_walk_263 : decode cX12_walk 263 = .ok (.getfield 122, 3) := by decide +kernel
theorem dX12_walk_266 : decode cX12_walk 266 = .ok (.iload 9, 2) := by decide +kernel
theorem dX12_walk_268 : decode cX12_walk 268 = .ok (.iconst 1, 1) := by decide +kernel
theorem dX12_walk_269 : decode cX12_walk 269 = .ok (.iadd, 1) := by decide +kernel
theorem dX12_walk_270 : decode cX12_walk 270 = .ok (.iaload, 1) := by decide +kernel
theorem dX12_walk_271 : decode cX12_walk 271 = .ok (.iand, 1) := by decide +kernel
theorem dX12_walk_272 : decode cX12_walk 272 = .ok (.istore 10, 2) := by decide +kernel
theorem dX12_walk_274 : decode cX12_walk 274 = .ok (.iconst 0, 1) := by decide +kernel
theorem dX12_walk_275 : decode cX12_walk 275 = .ok (.istore 8, 2) := by decide +kernel
theorem dX12_walk_277 : decode cX12_walk 277 = .ok (.iload 10, 2) := by decide +kernel
theorem dX12_walk_279 : decode cX12_walk 279 = .ok (.iload 8, 2) := by decide +kernel
theorem dX12_walk_281 : decode cX12_walk 281 = .ok (.invokestatic 367, 3) := by decide +kernel
theorem dX12_walk_284 : decode cX12_walk 284 = .ok (.ifCond .ne 9, 3) := by decide +kernel
theorem dX12_walk_287 : decode cX12_walk 287 = .ok (.iinc 8 1, 3) := by decide +kernel
theorem dX12_walk_290 : decode cX12_walk 290 = .ok (.goto (-13), 3) := by decide +kernel
theorem dX12_walk_293 : decode cX12_walk 293 = .ok (.iinc 9 1, 3) := by decide +kernel
theorem dX12_walk_296 : decode cX12_walk 296 = .ok (.goto (-51), 3) := by decide +kernel
theorem dX12_walk_299 : decode cX12_walk 299 = .ok (.iload 8, 2) := by decide +kernel
theorem dX12_walk_301 : decode cX12_walk 301 = .ok (.ireturn, 1) := by decide +kernel
set_option maxRecDepth 20000 in
theorem T_X12_walk_46 {Q : Option Value → ah_T → Prop} {h : ah_T} (hs : Sh h) (x1 : Int32) (x2 : Int32) (x3 : Int32) (x4 : Int32) (x5 : Int32) (x6 : Int32) (ht : ((120 ≤ x6 → (vp_in x2 (ah_n h 113)) ∧ Wp mX12_walk Q 0 0 106 [some (.ref 82), some (.int x1), some (.int x2), some (.int x3), none, some (.int x5), some (.int (((1 : Int32) <<< (x1 &&& 31)) &&& (ah_i h 113 (Int32.toNatClampNeg x2)))), some (.int x2), none, none, none] [] h) ∧ (¬ 120 ≤ x6 → ((¬ x4 = 1 → (Mt mX12_brightIn [.ref 82, .int x6] h (ab_qi fun v14 h12 => Sh h12 ∧ (vp_in x6 (ah_n h12 113)) ∧ (∀ h16, h16 = ah_si h12 113 (Int32.toNatClampNeg x6) (v14 ^^^ 4095) → Wp mX12_walk Q 0 0 46 [some (.ref 82), some (.int x1), some (.int x2), some (.int x3), some (.int x4), some (.int x5), some (.int (x6 + 1)), none, none, none, none] [] h16)))) ∧ (x4 = 1 → (Mt mX12_brightIn [.ref 82, .int x6] h (ab_qi fun v21 h19 => Sh h19 ∧ (vp_in x6 (ah_n h19 113)) ∧ (∀ h23, h23 = ah_si h19 113 (Int32.toNatClampNeg x6) v21 → Wp mX12_walk Q 0 0 46 [some (.ref 82), some (.int x1), some (.int x2), some (.int x3), some (.int x4), some (.int x5), some (.int (x6 + 1)), none, none, none, none] [] h23)))))))) : Wp mX12_walk Q 0 0 46 [some (.ref 82), some (.int x1), some (.int x2), some (.int x3), some (.int x4), some (.int x5), some (.int x6), none, none, none, none] [] h := by
  refine ab_iload (i := 6) dX12_walk_46 rfl ?_
  refine ab_bipush (v := 120) dX12_walk_48 (by decide) ?_
  refine ab_icmp_ge (tgt := 91) dX12_walk_50 (by decide) (fun c9 => ?_) (fun c9 => ?_)
  · have ht := ht.1 c9
    refine ab_iconst (v := 1) dX12_walk_91 (by decide) ?_
    refine ab_iload_n (i := 1) dX12_walk_92 rfl rfl ?_
    refine ab_ishl dX12_walk_93 ?_
    refine ab_aload_n (i := 0) dX12_walk_94 rfl rfl ?_
    refine ab_getR (b := 113) f_X12_119 rfl (sh_k hs 82 12 (by decide) rfl) (sh_r hs 129 rfl) dX12_walk_95 ?_
    refine ab_iload_n (i := 2) dX12_walk_98 rfl rfl ?_
    obtain ⟨hc10, ht⟩ := ht
    refine ab_iald (sh_k hs 113 14 (by decide) rfl) hc10 dX12_walk_99 ?_
    refine ab_iand dX12_walk_100 ?_
    refine ab_istore (i := 6) (L' := [some (.ref 82), some (.int x1), some (.int x2), some (.int x3), some (.int x4), some (.int x5), some (.int (((1 : Int32) <<< (x1 &&& 31)) &&& (ah_i h 113 (Int32.toNatClampNeg x2)))), none, none, none, none]) dX12_walk_101 (by exact (Nat.le_of_ble_eq_true rfl)) rfl rfl ?_
    refine ab_iload_n (i := 2) dX12_walk_103 rfl rfl ?_
    refine ab_istore (i := 7) (L' := [some (.ref 82), some (.int x1), some (.int x2), some (.int x3), some (.int x4), some (.int x5), some (.int (((1 : Int32) <<< (x1 &&& 31)) &&& (ah_i h 113 (Int32.toNatClampNeg x2)))), some (.int x2), none, none, none]) dX12_walk_104 (by exact (Nat.le_of_ble_eq_true rfl)) rfl rfl ?_
    exact Wp.fewer (L' := [some (.ref 82), some (.int x1), some (.int x2), some (.int x3), none, some (.int x5), some (.int (((1 : Int32) <<< (x1 &&& 31)) &&& (ah_i h 113 (Int32.toNatClampNeg x2)))), some (.int x2), none, none, none]) (show ab_leL _ _ from ⟨rfl, ⟨rfl, ⟨rfl, ⟨rfl, ⟨rfl, ⟨rfl, ⟨rfl, trivial⟩⟩⟩⟩⟩⟩⟩) ht
  · have ht := ht.2 c9
    refine ab_aload_n (i := 0) dX12_walk_53 rfl rfl ?_
    refine ab_getR (b := 113) f_X12_119 rfl (sh_k hs 82 12 (by decide) rfl) (sh_r hs 129 rfl) dX12_walk_54 ?_
    refine ab_iload (i := 6) dX12_walk_57 rfl ?_
    refine ab_iload (i := 4) dX12_walk_59 rfl ?_
    refine ab_iconst (v := 1) dX12_walk_61 (by decide) ?_
    refine ab_icmp_ne (tgt := 74) dX12_walk_62 (by decide) (fun c11 => ?_) (fun c11 => ?_)
    · have ht := ht.1 c11
      refine ab_aload_n (i := 0) dX12_walk_74 rfl rfl ?_
      refine ab_iload (i := 6) dX12_walk_75 rfl ?_
      refine ab_callV (b := 82) (As := [.int x6]) ht (Y_X12_brightIn) l_X12_433 in_X12_brightIn se_X12_brightIn (sh_k hs 82 12 (by decide) rfl) (by decide) rfl rfl ⟨(Nat.le_of_ble_eq_true rfl), (Nat.le_of_ble_eq_true rfl), (Nat.le_of_ble_eq_true rfl), (Nat.le_of_ble_eq_true rfl)⟩ dX12_walk_77 ?_
      rintro _ h12 ⟨v14, rfl, hs13, ht⟩
      refine ab_sipush (v := 4095) dX12_walk_80 (by decide) ?_
      refine ab_ixor dX12_walk_83 ?_
      obtain ⟨hc15, ht⟩ := ht
      refine ab_iast (sh_k hs13 113 14 (by decide) rfl) hc15 dX12_walk_84 ?_
      refine Wp.nm fun h16 e17 => ?_
      have ht := ht h16 e17
      have hs18 : Sh h16 := by rw [e17]; exact sh_si hs13
      refine ab_iinc (i := 6) (x := x6) (v := (x6 + 1)) (L' := [some (.ref 82), some (.int x1), some (.int x2), some (.int x3), some (.int x4), some (.int x5), some (.int (x6 + 1)), none, none, none, none]) dX12_walk_85 rfl rfl (by exact (Nat.le_of_ble_eq_true rfl)) rfl rfl ?_
      refine ab_goto (tgt := 46) dX12_walk_88 (by decide) ?_
      exact Wp.fewer (L' := [some (.ref 82), some (.int x1), some (.int x2), some (.int x3), some (.int x4), some (.int x5), some (.int (x6 + 1)), none, none, none, none]) (show ab_leL _ _ from ⟨rfl, ⟨rfl, ⟨rfl, ⟨rfl, ⟨rfl, ⟨rfl, ⟨rfl, trivial⟩⟩⟩⟩⟩⟩⟩) ht
    · have ht := ht.2 c11
      refine ab_aload_n (i := 0) dX12_walk_65 rfl rfl ?_
      refine ab_iload (i := 6) dX12_walk_66 rfl ?_
      refine ab_callV (b := 82) (As := [.int x6]) ht (Y_X12_brightIn) l_X12_433 in_X12_brightIn se_X12_brightIn (sh_k hs 82 12 (by decide) rfl) (by decide) rfl rfl ⟨(Nat.le_of_ble_eq_true rfl), (Nat.le_of_ble_eq_true rfl), (Nat.le_of_ble_eq_true rfl), (Nat.le_of_ble_eq_true rfl)⟩ dX12_walk_68 ?_
      rintro _ h19 ⟨v21, rfl, hs20, ht⟩
      refine ab_goto (tgt := 84) dX12_walk_71 (by decide) ?_
      obtain ⟨hc22, ht⟩ := ht
      refine ab_iast (sh_k hs20 113 14 (by decide) rfl) hc22 dX12_walk_84 ?_
      refine Wp.nm fun h23 e24 => ?_
      have ht := ht h23 e24
      have hs25 : Sh h23 := by rw [e24]; exact sh_si hs20
      refine ab_iinc (i := 6) (x := x6) (v := (x6 + 1)) (L' := [some (.ref 82), some (.int x1), some (.int x2), some (.int x3), some (.int x4), some (.int x5), some (.int (x6 + 1)), none, none, none, none]) dX12_walk_85 rfl rfl (by exact (Nat.le_of_ble_eq_true rfl)) rfl rfl ?_
      refine ab_goto (tgt := 46) dX12_walk_88 (by decide) ?_
      exact Wp.fewer (L' := [some (.ref 82), some (.int x1), some (.int x2), some (.int x3), some (.int x4), some (.int x5), some (.int (x6 + 1)), none, none, none, none]) (show ab_leL _ _ from ⟨rfl, ⟨rfl, ⟨rfl, ⟨rfl, ⟨rfl, ⟨rfl, ⟨rfl, trivial⟩⟩⟩⟩⟩⟩⟩) ht
set_option maxRecDepth 20000 in
theorem T_X12_walk_106 {Q : Option Value → ah_T → Prop} {h : ah_T} (hs : Sh h) (x1 : Int32) (x2 : Int32) (x3 : Int32) (x5 : Int32) (x6 : Int32) (x7 : Int32) (ht : ((119 ≤ x7 → ((¬ (f_X12_isIn x6 x3) = 0 → ((x5 = (-1) → ((¬ x5 = (-1) → Q (some (.int (-1))) h) ∧ (x5 = (-1) → Q (some (.int x7)) h))) ∧ (¬ x5 = (-1) → ((x5 ≤ (x7 - x2) → (vp_in x7 (ah_n h 114)) ∧ (∀ h32, h32 = ah_si h 114 (Int32.toNatClampNeg x7) ((1 : Int32) <<< (x3 &&& 31)) → Wp mX12_walk Q 0 0 199 [some (.ref 82), some (.int x1), some (.int x2), none, none, some (.int x5), none, none, some (.int (x7 - 1)), none, none] [] h32)) ∧ (¬ x5 ≤ (x7 - x2) → ((¬ x5 = (-1) → Q (some (.int (-1))) h) ∧ (x5 = (-1) → Q (some (.int x7)) h))))))) ∧ ((f_X12_isIn x6 x3) = 0 → Q (some (.int (-1))) h))) ∧ (¬ 119 ≤ x7 → ((¬ (f_X12_isIn x6 x3) = 0 → ((¬ (f_X12_isIn x6 x3) = 0 → ((x5 = (-1) → ((¬ x5 = (-1) → Q (some (.int (-1))) h) ∧ (x5 = (-1) → Q (some (.int x7)) h))) ∧ (¬ x5 = (-1) → ((x5 ≤ (x7 - x2) → (vp_in x7 (ah_n h 114)) ∧ (∀ h42, h42 = ah_si h 114 (Int32.toNatClampNeg x7) ((1 : Int32) <<< (x3 &&& 31)) → Wp mX12_walk Q 0 0 199 [some (.ref 82), some (.int x1), some (.int x2), none, none, some (.int x5), none, none, some (.int (x7 - 1)), none, none] [] h42)) ∧ (¬ x5 ≤ (x7 - x2) → ((¬ x5 = (-1) → Q (some (.int (-1))) h) ∧ (x5 = (-1) → Q (some (.int x7)) h))))))) ∧ ((f_X12_isIn x6 x3) = 0 → Q (some (.int (-1))) h))) ∧ ((f_X12_isIn x6 x3) = 0 → (Mt mX12_besides [.ref 82, .int x6] h (ab_qi fun v48 h46 => Sh h46 ∧ (vp_in (x7 + 1) (ah_n h46 113)) ∧ Wp mX12_walk Q 0 0 106 [some (.ref 82), some (.int x1), some (.int x2), some (.int x3), none, some (.int x5), some (.int (v48 &&& (ah_i h46 113 (Int32.toNatClampNeg (x7 + 1))))), some (.int (x7 + 1)), none, none, none] [] h46))))))) : Wp mX12_walk Q 0 0 106 [some (.ref 82), some (.int x1), some (.int x2), some (.int x3), none, some (.int x5), some (.int x6), some (.int x7), none, none, none] [] h := by
  refine ab_iload (i := 7) dX12_walk_106 rfl ?_
  refine ab_bipush (v := 119) dX12_walk_108 (by decide) ?_
  refine ab_icmp_ge (tgt := 144) dX12_walk_110 (by decide) (fun c26 => ?_) (fun c26 => ?_)
  · have ht := ht.1 c26
    refine ab_iload (i := 6) dX12_walk_144 rfl ?_
    refine ab_iload_n (i := 3) dX12_walk_146 rfl rfl ?_
    refine ab_callS (Q' := fun r h' => r = some (.int (f_X12_isIn x6 x3)) ∧ h = h') (As := [.int x6, .int x3]) (c_X12_isIn hs x6 x3 ⟨rfl, rfl⟩) (Y_X12_isIn) l_X12_367 st_X12_isIn rfl ⟨(Nat.le_of_ble_eq_true rfl), (Nat.le_of_ble_eq_true rfl), (Nat.le_of_ble_eq_true rfl), (Nat.le_of_ble_eq_true rfl)⟩ dX12_walk_147 ?_
    rintro _ _ ⟨rfl, rfl⟩
    refine ab_if_ne (tgt := 155) dX12_walk_150 (by decide) (fun c27 => ?_) (fun c27 => ?_)
    · have ht := ht.1 c27
      refine ab_iload (i := 5) dX12_walk_155 rfl ?_
      refine ab_iconst (v := (-1)) dX12_walk_157 (by decide) ?_
      refine ab_icmp_eq (tgt := 170) dX12_walk_158 (by decide) (fun c28 => ?_) (fun c28 => ?_)
      · have ht := ht.1 c28
        refine ab_iload (i := 5) dX12_walk_170 rfl ?_
        refine ab_iconst (v := (-1)) dX12_walk_172 (by decide) ?_
        refine ab_icmp_ne (tgt := 181) dX12_walk_173 (by decide) (fun c29 => ?_) (fun c29 => ?_)
        · have ht := ht.1 c29
          refine ab_iconst (v := (-1)) dX12_walk_181 (by decide) ?_
          exact ab_iret rfl dX12_walk_182 (Nat.le_of_ble_eq_true rfl) (Nat.le_of_ble_eq_true rfl) ht
        · have ht := ht.2 c29
          refine ab_iload (i := 7) dX12_walk_176 rfl ?_
          refine ab_goto (tgt := 182) dX12_walk_178 (by decide) ?_
          exact ab_iret rfl dX12_walk_182 (Nat.le_of_ble_eq_true rfl) (Nat.le_of_ble_eq_true rfl) ht
      · have ht := ht.2 c28
        refine ab_iload (i := 5) dX12_walk_161 rfl ?_
        refine ab_iload (i := 7) dX12_walk_163 rfl ?_
        refine ab_iload_n (i := 2) dX12_walk_165 rfl rfl ?_
        refine ab_isub dX12_walk_166 ?_
        refine ab_icmp_le (tgt := 183) dX12_walk_167 (by decide) (fun c30 => ?_) (fun c30 => ?_)
        · have ht := ht.1 c30
          refine ab_aload_n (i := 0) dX12_walk_183 rfl rfl ?_
          refine ab_getR (b := 114) f_X12_122 rfl (sh_k hs 82 12 (by decide) rfl) (sh_r hs 130 rfl) dX12_walk_184 ?_
          refine ab_iload (i := 7) dX12_walk_187 rfl ?_
          refine ab_iconst (v := 1) dX12_walk_189 (by decide) ?_
          refine ab_iload_n (i := 3) dX12_walk_190 rfl rfl ?_
          refine ab_ishl dX12_walk_191 ?_
          obtain ⟨hc31, ht⟩ := ht
          refine ab_iast (sh_k hs 114 14 (by decide) rfl) hc31 dX12_walk_192 ?_
          refine Wp.nm fun h32 e33 => ?_
          have ht := ht h32 e33
          have hs34 : Sh h32 := by rw [e33]; exact sh_si hs
          refine ab_iload (i := 7) dX12_walk_193 rfl ?_
          refine ab_iconst (v := 1) dX12_walk_195 (by decide) ?_
          refine ab_isub dX12_walk_196 ?_
          refine ab_istore (i := 8) (L' := [some (.ref 82), some (.int x1), some (.int x2), some (.int x3), none, some (.int x5), some (.int x6), some (.int x7), some (.int (x7 - 1)), none, none]) dX12_walk_197 (by exact (Nat.le_of_ble_eq_true rfl)) rfl rfl ?_
          exact Wp.fewer (L' := [some (.ref 82), some (.int x1), some (.int x2), none, none, some (.int x5), none, none, some (.int (x7 - 1)), none, none]) (show ab_leL _ _ from ⟨rfl, ⟨rfl, ⟨rfl, ⟨rfl, ⟨rfl, trivial⟩⟩⟩⟩⟩) ht
        · have ht := ht.2 c30
          refine ab_iload (i := 5) dX12_walk_170 rfl ?_
          refine ab_iconst (v := (-1)) dX12_walk_172 (by decide) ?_
          refine ab_icmp_ne (tgt := 181) dX12_walk_173 (by decide) (fun c35 => ?_) (fun c35 => ?_)
          · have ht := ht.1 c35
            refine ab_iconst (v := (-1)) dX12_walk_181 (by decide) ?_
            exact ab_iret rfl dX12_walk_182 (Nat.le_of_ble_eq_true rfl) (Nat.le_of_ble_eq_true rfl) ht
          · have ht := ht.2 c35
            refine ab_iload (i := 7) dX12_walk_176 rfl ?_
            refine ab_goto (tgt := 182) dX12_walk_178 (by decide) ?_
            exact ab_iret rfl dX12_walk_182 (Nat.le_of_ble_eq_true rfl) (Nat.le_of_ble_eq_true rfl) ht
    · have ht := ht.2 c27
      refine ab_iconst (v := (-1)) dX12_walk_153 (by decide) ?_
      exact ab_iret rfl dX12_walk_154 (Nat.le_of_ble_eq_true rfl) (Nat.le_of_ble_eq_true rfl) ht
  · have ht := ht.2 c26
    refine ab_iload (i := 6) dX12_walk_113 rfl ?_
    refine ab_iload_n (i := 3) dX12_walk_115 rfl rfl ?_
    refine ab_callS (Q' := fun r h' => r = some (.int (f_X12_isIn x6 x3)) ∧ h = h') (As := [.int x6, .int x3]) (c_X12_isIn hs x6 x3 ⟨rfl, rfl⟩) (Y_X12_isIn) l_X12_367 st_X12_isIn rfl ⟨(Nat.le_of_ble_eq_true rfl), (Nat.le_of_ble_eq_true rfl), (Nat.le_of_ble_eq_true rfl), (Nat.le_of_ble_eq_true rfl)⟩ dX12_walk_116 ?_
    rintro _ _ ⟨rfl, rfl⟩
    refine ab_if_ne (tgt := 144) dX12_walk_119 (by decide) (fun c36 => ?_) (fun c36 => ?_)
    · have ht := ht.1 c36
      refine ab_iload (i := 6) dX12_walk_144 rfl ?_
      refine ab_iload_n (i := 3) dX12_walk_146 rfl rfl ?_
      refine ab_callS (Q' := fun r h' => r = some (.int (f_X12_isIn x6 x3)) ∧ h = h') (As := [.int x6, .int x3]) (c_X12_isIn hs x6 x3 ⟨rfl, rfl⟩) (Y_X12_isIn) l_X12_367 st_X12_isIn rfl ⟨(Nat.le_of_ble_eq_true rfl), (Nat.le_of_ble_eq_true rfl), (Nat.le_of_ble_eq_true rfl), (Nat.le_of_ble_eq_true rfl)⟩ dX12_walk_147 ?_
      rintro _ _ ⟨rfl, rfl⟩
      refine ab_if_ne (tgt := 155) dX12_walk_150 (by decide) (fun c37 => ?_) (fun c37 => ?_)
      · have ht := ht.1 c37
        refine ab_iload (i := 5) dX12_walk_155 rfl ?_
        refine ab_iconst (v := (-1)) dX12_walk_157 (by decide) ?_
        refine ab_icmp_eq (tgt := 170) dX12_walk_158 (by decide) (fun c38 => ?_) (fun c38 => ?_)
        · have ht := ht.1 c38
          refine ab_iload (i := 5) dX12_walk_170 rfl ?_
          refine ab_iconst (v := (-1)) dX12_walk_172 (by decide) ?_
          refine ab_icmp_ne (tgt := 181) dX12_walk_173 (by decide) (fun c39 => ?_) (fun c39 => ?_)
          · have ht := ht.1 c39
            refine ab_iconst (v := (-1)) dX12_walk_181 (by decide) ?_
            exact ab_iret rfl dX12_walk_182 (Nat.le_of_ble_eq_true rfl) (Nat.le_of_ble_eq_true rfl) ht
          · have ht := ht.2 c39
            refine ab_iload (i := 7) dX12_walk_176 rfl ?_
            refine ab_goto (tgt := 182) dX12_walk_178 (by decide) ?_
            exact ab_iret rfl dX12_walk_182 (Nat.le_of_ble_eq_true rfl) (Nat.le_of_ble_eq_true rfl) ht
        · have ht := ht.2 c38
          refine ab_iload (i := 5) dX12_walk_161 rfl ?_
          refine ab_iload (i := 7) dX12_walk_163 rfl ?_
          refine ab_iload_n (i := 2) dX12_walk_165 rfl rfl ?_
          refine ab_isub dX12_walk_166 ?_
          refine ab_icmp_le (tgt := 183) dX12_walk_167 (by decide) (fun c40 => ?_) (fun c40 => ?_)
          · have ht := ht.1 c40
            refine ab_aload_n (i := 0) dX12_walk_183 rfl rfl ?_
            refine ab_getR (b := 114) f_X12_122 rfl (sh_k hs 82 12 (by decide) rfl) (sh_r hs 130 rfl) dX12_walk_184 ?_
            refine ab_iload (i := 7) dX12_walk_187 rfl ?_
            refine ab_iconst (v := 1) dX12_walk_189 (by decide) ?_
            refine ab_iload_n (i := 3) dX12_walk_190 rfl rfl ?_
            refine ab_ishl dX12_walk_191 ?_
            obtain ⟨hc41, ht⟩ := ht
            refine ab_iast (sh_k hs 114 14 (by decide) rfl) hc41 dX12_walk_192 ?_
            refine Wp.nm fun h42 e43 => ?_
            have ht := ht h42 e43
            have hs44 : Sh h42 := by rw [e43]; exact sh_si hs
            refine ab_iload (i := 7) dX12_walk_193 rfl ?_
            refine ab_iconst (v := 1) dX12_walk_195 (by decide) ?_
            refine ab_isub dX12_walk_196 ?_
            refine ab_istore (i := 8) (L' := [some (.ref 82), some (.int x1), some (.int x2), some (.int x3), none, some (.int x5), some (.int x6), some (.int x7), some (.int (x7 - 1)), none, none]) dX12_walk_197 (by exact (Nat.le_of_ble_eq_true rfl)) rfl rfl ?_
            exact Wp.fewer (L' := [some (.ref 82), some (.int x1), some (.int x2), none, none, some (.int x5), none, none, some (.int (x7 - 1)), none, none]) (show ab_leL _ _ from ⟨rfl, ⟨rfl, ⟨rfl, ⟨rfl, ⟨rfl, trivial⟩⟩⟩⟩⟩) ht
          · have ht := ht.2 c40
            refine ab_iload (i := 5) dX12_walk_170 rfl ?_
            refine ab_iconst (v := (-1)) dX12_walk_172 (by decide) ?_
            refine ab_icmp_ne (tgt := 181) dX12_walk_173 (by decide) (fun c45 => ?_) (fun c45 => ?_)
            · have ht := ht.1 c45
              refine ab_iconst (v := (-1)) dX12_walk_181 (by decide) ?_
              exact ab_iret rfl dX12_walk_182 (Nat.le_of_ble_eq_true rfl) (Nat.le_of_ble_eq_true rfl) ht
            · have ht := ht.2 c45
              refine ab_iload (i := 7) dX12_walk_176 rfl ?_
              refine ab_goto (tgt := 182) dX12_walk_178 (by decide) ?_
              exact ab_iret rfl dX12_walk_182 (Nat.le_of_ble_eq_true rfl) (Nat.le_of_ble_eq_true rfl) ht
      · have ht := ht.2 c37
        refine ab_iconst (v := (-1)) dX12_walk_153 (by decide) ?_
        exact ab_iret rfl dX12_walk_154 (Nat.le_of_ble_eq_true rfl) (Nat.le_of_ble_eq_true rfl) ht
    · have ht := ht.2 c36
      refine ab_iinc (i := 7) (x := x7) (v := (x7 + 1)) (L' := [some (.ref 82), some (.int x1), some (.int x2), some (.int x3), none, some (.int x5), some (.int x6), some (.int (x7 + 1)), none, none, none]) dX12_walk_122 rfl rfl (by exact (Nat.le_of_ble_eq_true rfl)) rfl rfl ?_
      refine ab_aload_n (i := 0) dX12_walk_125 rfl rfl ?_
      refine ab_iload (i := 6) dX12_walk_126 rfl ?_
      refine ab_callV (b := 82) (As := [.int x6]) ht (Y_X12_besides) l_X12_448 in_X12_besides se_X12_besides (sh_k hs 82 12 (by decide) rfl) (by decide) rfl rfl ⟨(Nat.le_of_ble_eq_true rfl), (Nat.le_of_ble_eq_true rfl), (Nat.le_of_ble_eq_true rfl), (Nat.le_of_ble_eq_true rfl)⟩ dX12_walk_128 ?_
      rintro _ h46 ⟨v48, rfl, hs47, ht⟩
      refine ab_aload_n (i := 0) dX12_walk_131 rfl rfl ?_
      refine ab_getR (b := 113) f_X12_119 rfl (sh_k hs47 82 12 (by decide) rfl) (sh_r hs47 129 rfl) dX12_walk_132 ?_
      refine ab_iload (i := 7) dX12_walk_135 rfl ?_
      obtain ⟨hc49, ht⟩ := ht
      refine ab_iald (sh_k hs47 113 14 (by decide) rfl) hc49 dX12_walk_137 ?_
      refine ab_iand dX12_walk_138 ?_
      refine ab_istore (i := 6) (L' := [some (.ref 82), some (.int x1), some (.int x2), some (.int x3), none, some (.int x5), some (.int (v48 &&& (ah_i h46 113 (Int32.toNatClampNeg (x7 + 1))))), some (.int (x7 + 1)), none, none, none]) dX12_walk_139 (by exact (Nat.le_of_ble_eq_true rfl)) rfl rfl ?_
      refine ab_goto (tgt := 106) dX12_walk_141 (by decide) ?_
      exact Wp.fewer (L' := [some (.ref 82), some (.int x1), some (.int x2), some (.int x3), none, some (.int x5), some (.int (v48 &&& (ah_i h46 113 (Int32.toNatClampNeg (x7 + 1))))), some (.int (x7 + 1)), none, none, none]) (show ab_leL _ _ from ⟨rfl, ⟨rfl, ⟨rfl, ⟨rfl, ⟨rfl, ⟨rfl, ⟨rfl, trivial⟩⟩⟩⟩⟩⟩⟩) ht
set_option maxRecDepth 20000 in
theorem T_X12_walk_199 {Q : Option Value → ah_T → Prop} {h : ah_T} (hs : Sh h) (x1 : Int32) (x2 : Int32) (x5 : Int32) (x8 : Int32) (ht : ((x8 < x2 → Wp mX12_walk Q 0 0 245 [some (.ref 82), none, some (.int x2), none, none, some (.int x5), none, none, some (.int x1), some (.int x2), none] [] h) ∧ (¬ x8 < x2 → (vp_in (x8 + 1) (ah_n h 114)) ∧ (Mt mX12_besides [.ref 82, .int (ah_i h 114 (Int32.toNatClampNeg (x8 + 1)))] h (ab_qi fun v54 h52 => Sh h52 ∧ (vp_in x8 (ah_n h52 113)) ∧ (vp_in x8 (ah_n h52 114)) ∧ (∀ h57, h57 = ah_si h52 114 (Int32.toNatClampNeg x8) (v54 &&& (ah_i h52 113 (Int32.toNatClampNeg x8))) → Wp mX12_walk Q 0 0 199 [some (.ref 82), some (.int x1), some (.int x2), none, none, some (.int x5), none, none, some (.int (x8 + (-1))), none, none] [] h57)))))) : Wp mX12_walk Q 0 0 199 [some (.ref 82), some (.int x1), some (.int x2), none, none, some (.int x5), none, none, some (.int x8), none, none] [] h := by
  refine ab_iload (i := 8) dX12_walk_199 rfl ?_
  refine ab_iload_n (i := 2) dX12_walk_201 rfl rfl ?_
  refine ab_icmp_lt (tgt := 239) dX12_walk_202 (by decide) (fun c50 => ?_) (fun c50 => ?_)
  · have ht := ht.1 c50
    refine ab_iload_n (i := 1) dX12_walk_239 rfl rfl ?_
    refine ab_istore (i := 8) (L' := [some (.ref 82), some (.int x1), some (.int x2), none, none, some (.int x5), none, none, some (.int x1), none, none]) dX12_walk_240 (by exact (Nat.le_of_ble_eq_true rfl)) rfl rfl ?_
    refine ab_iload_n (i := 2) dX12_walk_242 rfl rfl ?_
    refine ab_istore (i := 9) (L' := [some (.ref 82), some (.int x1), some (.int x2), none, none, some (.int x5), none, none, some (.int x1), some (.int x2), none]) dX12_walk_243 (by exact (Nat.le_of_ble_eq_true rfl)) rfl rfl ?_
    exact Wp.fewer (L' := [some (.ref 82), none, some (.int x2), none, none, some (.int x5), none, none, some (.int x1), some (.int x2), none]) (show ab_leL _ _ from ⟨rfl, ⟨rfl, ⟨rfl, ⟨rfl, ⟨rfl, trivial⟩⟩⟩⟩⟩) ht
  · have ht := ht.2 c50
    refine ab_aload_n (i := 0) dX12_walk_205 rfl rfl ?_
    refine ab_getR (b := 114) f_X12_122 rfl (sh_k hs 82 12 (by decide) rfl) (sh_r hs 130 rfl) dX12_walk_206 ?_
    refine ab_iload (i := 8) dX12_walk_209 rfl ?_
    refine ab_aload_n (i := 0) dX12_walk_211 rfl rfl ?_
    refine ab_aload_n (i := 0) dX12_walk_212 rfl rfl ?_
    refine ab_getR (b := 114) f_X12_122 rfl (sh_k hs 82 12 (by decide) rfl) (sh_r hs 130 rfl) dX12_walk_213 ?_
    refine ab_iload (i := 8) dX12_walk_216 rfl ?_
    refine ab_iconst (v := 1) dX12_walk_218 (by decide) ?_
    refine ab_iadd dX12_walk_219 ?_
    obtain ⟨hc51, ht⟩ := ht
    refine ab_iald (sh_k hs 114 14 (by decide) rfl) hc51 dX12_walk_220 ?_
    refine ab_callV (b := 82) (As := [.int (ah_i h 114 (Int32.toNatClampNeg (x8 + 1)))]) ht (Y_X12_besides) l_X12_448 in_X12_besides se_X12_besides (sh_k hs 82 12 (by decide) rfl) (by decide) rfl rfl ⟨(Nat.le_of_ble_eq_true rfl), (Nat.le_of_ble_eq_true rfl), (Nat.le_of_ble_eq_true rfl), (Nat.le_of_ble_eq_true rfl)⟩ dX12_walk_221 ?_
    rintro _ h52 ⟨v54, rfl, hs53, ht⟩
    refine ab_aload_n (i := 0) dX12_walk_224 rfl rfl ?_
    refine ab_getR (b := 113) f_X12_119 rfl (sh_k hs53 82 12 (by decide) rfl) (sh_r hs53 129 rfl) dX12_walk_225 ?_
    refine ab_iload (i := 8) dX12_walk_228 rfl ?_
    obtain ⟨hc55, ht⟩ := ht
    refine ab_iald (sh_k hs53 113 14 (by decide) rfl) hc55 dX12_walk_230 ?_
    refine ab_iand dX12_walk_231 ?_
    obtain ⟨hc56, ht⟩ := ht
    refine ab_iast (sh_k hs53 114 14 (by decide) rfl) hc56 dX12_walk_232 ?_
    refine Wp.nm fun h57 e58 => ?_
    have ht := ht h57 e58
    have hs59 : Sh h57 := by rw [e58]; exact sh_si hs53
    refine ab_iinc (i := 8) (x := x8) (v := (x8 + (-1))) (L' := [some (.ref 82), some (.int x1), some (.int x2), none, none, some (.int x5), none, none, some (.int (x8 + (-1))), none, none]) dX12_walk_233 rfl rfl (by exact (Nat.le_of_ble_eq_true rfl)) rfl rfl ?_
    refine ab_goto (tgt := 199) dX12_walk_236 (by decide) ?_
    exact Wp.fewer (L' := [some (.ref 82), some (.int x1), some (.int x2), none, none, some (.int x5), none, none, some (.int (x8 + (-1))), none, none]) (show ab_leL _ _ from ⟨rfl, ⟨rfl, ⟨rfl, ⟨rfl, ⟨rfl, trivial⟩⟩⟩⟩⟩) ht
set_option maxRecDepth 20000 in
theorem T_X12_walk_245 {Q : Option Value → ah_T → Prop} {h : ah_T} (hs : Sh h) (x2 : Int32) (x5 : Int32) (x8 : Int32) (x9 : Int32) (ht : (((x2 + x5) ≤ x9 → Q (some (.int x8)) h) ∧ (¬ (x2 + x5) ≤ x9 → (Mt mX12_besides [.ref 82, .int ((1 : Int32) <<< (x8 &&& 31))] h (ab_qi fun v63 h61 => Sh h61 ∧ (vp_in (x9 + 1) (ah_n h61 114)) ∧ Wp mX12_walk Q 0 0 277 [some (.ref 82), none, some (.int x2), none, none, some (.int x5), none, none, some (.int 0), some (.int x9), some (.int (v63 &&& (ah_i h61 114 (Int32.toNatClampNeg (x9 + 1)))))] [] h61))))) : Wp mX12_walk Q 0 0 245 [some (.ref 82), none, some (.int x2), none, none, some (.int x5), none, none, some (.int x8), some (.int x9), none] [] h := by
  refine ab_iload (i := 9) dX12_walk_245 rfl ?_
  refine ab_iload_n (i := 2) dX12_walk_247 rfl rfl ?_
  refine ab_iload (i := 5) dX12_walk_248 rfl ?_
  refine ab_iadd dX12_walk_250 ?_
  refine ab_icmp_ge (tgt := 299) dX12_walk_251 (by decide) (fun c60 => ?_) (fun c60 => ?_)
  · have ht := ht.1 c60
    refine ab_iload (i := 8) dX12_walk_299 rfl ?_
    exact ab_iret rfl dX12_walk_301 (Nat.le_of_ble_eq_true rfl) (Nat.le_of_ble_eq_true rfl) ht
  · have ht := ht.2 c60
    refine ab_aload_n (i := 0) dX12_walk_254 rfl rfl ?_
    refine ab_iconst (v := 1) dX12_walk_255 (by decide) ?_
    refine ab_iload (i := 8) dX12_walk_256 rfl ?_
    refine ab_ishl dX12_walk_258 ?_
    refine ab_callV (b := 82) (As := [.int ((1 : Int32) <<< (x8 &&& 31))]) ht (Y_X12_besides) l_X12_448 in_X12_besides se_X12_besides (sh_k hs 82 12 (by decide) rfl) (by decide) rfl rfl ⟨(Nat.le_of_ble_eq_true rfl), (Nat.le_of_ble_eq_true rfl), (Nat.le_of_ble_eq_true rfl), (Nat.le_of_ble_eq_true rfl)⟩ dX12_walk_259 ?_
    rintro _ h61 ⟨v63, rfl, hs62, ht⟩
    refine ab_aload_n (i := 0) dX12_walk_262 rfl rfl ?_
    refine ab_getR (b := 114) f_X12_122 rfl (sh_k hs62 82 12 (by decide) rfl) (sh_r hs62 130 rfl) dX12_walk_263 ?_
    refine ab_iload (i := 9) dX12_walk_266 rfl ?_
    refine ab_iconst (v := 1) dX12_walk_268 (by decide) ?_
    refine ab_iadd dX12_walk_269 ?_
    obtain ⟨hc64, ht⟩ := ht
    refine ab_iald (sh_k hs62 114 14 (by decide) rfl) hc64 dX12_walk_270 ?_
    refine ab_iand dX12_walk_271 ?_
    refine ab_istore (i := 10) (L' := [some (.ref 82), none, some (.int x2), none, none, some (.int x5), none, none, some (.int x8), some (.int x9), some (.int (v63 &&& (ah_i h61 114 (Int32.toNatClampNeg (x9 + 1)))))]) dX12_walk_272 (by exact (Nat.le_of_ble_eq_true rfl)) rfl rfl ?_
    refine ab_iconst (v := 0) dX12_walk_274 (by decide) ?_
    refine ab_istore (i := 8) (L' := [some (.ref 82), none, some (.int x2), none, none, some (.int x5), none, none, some (.int 0), some (.int x9), some (.int (v63 &&& (ah_i h61 114 (Int32.toNatClampNeg (x9 + 1)))))]) dX12_walk_275 (by exact (Nat.le_of_ble_eq_true rfl)) rfl rfl ?_
    exact Wp.fewer (L' := [some (.ref 82), none, some (.int x2), none, none, some (.int x5), none, none, some (.int 0), some (.int x9), some (.int (v63 &&& (ah_i h61 114 (Int32.toNatClampNeg (x9 + 1)))))]) (show ab_leL _ _ from ⟨rfl, ⟨rfl, ⟨rfl, ⟨rfl, ⟨rfl, ⟨rfl, trivial⟩⟩⟩⟩⟩⟩) ht
set_option maxRecDepth 20000 in
theorem T_X12_walk_277 {Q : Option Value → ah_T → Prop} {h : ah_T} (hs : Sh h) (x2 : Int32) (x5 : Int32) (x8 : Int32) (x9 : Int32) (x10 : Int32) (ht : ((¬ (f_X12_isIn x10 x8) = 0 → Wp mX12_walk Q 0 0 245 [some (.ref 82), none, some (.int x2), none, none, some (.int x5), none, none, some (.int x8), some (.int (x9 + 1)), none] [] h) ∧ ((f_X12_isIn x10 x8) = 0 → Wp mX12_walk Q 0 0 277 [some (.ref 82), none, some (.int x2), none, none, some (.int x5), none, none, some (.int (x8 + 1)), some (.int x9), some (.int x10)] [] h))) : Wp mX12_walk Q 0 0 277 [some (.ref 82), none, some (.int x2), none, none, some (.int x5), none, none, some (.int x8), some (.int x9), some (.int x10)] [] h := by
  refine ab_iload (i := 10) dX12_walk_277 rfl ?_
  refine ab_iload (i := 8) dX12_walk_279 rfl ?_
  refine ab_callS (Q' := fun r h' => r = some (.int (f_X12_isIn x10 x8)) ∧ h = h') (As := [.int x10, .int x8]) (c_X12_isIn hs x10 x8 ⟨rfl, rfl⟩) (Y_X12_isIn) l_X12_367 st_X12_isIn rfl ⟨(Nat.le_of_ble_eq_true rfl), (Nat.le_of_ble_eq_true rfl), (Nat.le_of_ble_eq_true rfl), (Nat.le_of_ble_eq_true rfl)⟩ dX12_walk_281 ?_
  rintro _ _ ⟨rfl, rfl⟩
  refine ab_if_ne (tgt := 293) dX12_walk_284 (by decide) (fun c65 => ?_) (fun c65 => ?_)
  · have ht := ht.1 c65
    refine ab_iinc (i := 9) (x := x9) (v := (x9 + 1)) (L' := [some (.ref 82), none, some (.int x2), none, none, some (.int x5), none, none, some (.int x8), some (.int (x9 + 1)), some (.int x10)]) dX12_walk_293 rfl rfl (by exact (Nat.le_of_ble_eq_true rfl)) rfl rfl ?_
    refine ab_goto (tgt := 245) dX12_walk_296 (by decide) ?_
    exact Wp.fewer (L' := [some (.ref 82), none, some (.int x2), none, none, some (.int x5), none, none, some (.int x8), some (.int (x9 + 1)), none]) (show ab_leL _ _ from ⟨rfl, ⟨rfl, ⟨rfl, ⟨rfl, ⟨rfl, trivial⟩⟩⟩⟩⟩) ht
  · have ht := ht.2 c65
    refine ab_iinc (i := 8) (x := x8) (v := (x8 + 1)) (L' := [some (.ref 82), none, some (.int x2), none, none, some (.int x5), none, none, some (.int (x8 + 1)), some (.int x9), some (.int x10)]) dX12_walk_287 rfl rfl (by exact (Nat.le_of_ble_eq_true rfl)) rfl rfl ?_
    refine ab_goto (tgt := 277) dX12_walk_290 (by decide) ?_
    exact Wp.fewer (L' := [some (.ref 82), none, some (.int x2), none, none, some (.int x5), none, none, some (.int (x8 + 1)), some (.int x9), some (.int x10)]) (show ab_leL _ _ from ⟨rfl, ⟨rfl, ⟨rfl, ⟨rfl, ⟨rfl, ⟨rfl, trivial⟩⟩⟩⟩⟩⟩) ht
set_option maxRecDepth 20000 in
theorem T_X12_walk {Q : Option Value → ah_T → Prop} {h : ah_T} (hs : Sh h) (x1 : Int32) (x2 : Int32) (x3 : Int32) (x4 : Int32) (x5 : Int32) (ht : (((f_X12_isCorner x1) = 0 → Q (some (.int (-1))) h) ∧ (¬ (f_X12_isCorner x1) = 0 → (((f_X12_isMinute x2) = 0 → Q (some (.int (-1))) h) ∧ (¬ (f_X12_isMinute x2) = 0 → (((f_X12_isCorner x3) = 0 → Q (some (.int (-1))) h) ∧ (¬ (f_X12_isCorner x3) = 0 → (((f_X12_lies x4 0 1) = 0 → Q (some (.int (-1))) h) ∧ (¬ (f_X12_lies x4 0 1) = 0 → (((-1) ≤ x5 → (Mt mX12_laysNight [.ref 82] h (ab_qv fun h6 => Sh h6 ∧ Wp mX12_walk Q 0 0 46 [some (.ref 82), some (.int x1), some (.int x2), some (.int x3), some (.int x4), some (.int x5), some (.int x2), none, none, none, none] [] h6))) ∧ (¬ (-1) ≤ x5 → Q (some (.int (-1))) h))))))))))) : Mt mX12_walk [.ref 82, .int x1, .int x2, .int x3, .int x4, .int x5] h Q := by
  refine Mt.ofWp rfl (by exact (Nat.le_of_ble_eq_true rfl)) (Wp.fewer (L' := [some (.ref 82), some (.int x1), some (.int x2), some (.int x3), some (.int x4), some (.int x5), none, none, none, none, none]) (show ab_leL _ _ from ⟨rfl, ⟨rfl, ⟨rfl, ⟨rfl, ⟨rfl, ⟨rfl, trivial⟩⟩⟩⟩⟩⟩) ?_)
  refine ab_iload_n (i := 1) dX12_walk_0 rfl rfl ?_
  refine ab_callS (Q' := fun r h' => r = some (.int (f_X12_isCorner x1)) ∧ h = h') (As := [.int x1]) (c_X12_isCorner hs x1 ⟨rfl, rfl⟩) (Y_X12_isCorner) l_X12_174 st_X12_isCorner rfl ⟨(Nat.le_of_ble_eq_true rfl), (Nat.le_of_ble_eq_true rfl), (Nat.le_of_ble_eq_true rfl), (Nat.le_of_ble_eq_true rfl)⟩ dX12_walk_1 ?_
  rintro _ _ ⟨rfl, rfl⟩
  refine ab_if_eq (tgt := 37) dX12_walk_4 (by decide) (fun c1 => ?_) (fun c1 => ?_)
  · have ht := ht.1 c1
    refine ab_iconst (v := (-1)) dX12_walk_37 (by decide) ?_
    exact ab_iret rfl dX12_walk_38 (Nat.le_of_ble_eq_true rfl) (Nat.le_of_ble_eq_true rfl) ht
  · have ht := ht.2 c1
    refine ab_iload_n (i := 2) dX12_walk_7 rfl rfl ?_
    refine ab_callS (Q' := fun r h' => r = some (.int (f_X12_isMinute x2)) ∧ h = h') (As := [.int x2]) (c_X12_isMinute hs x2 ⟨rfl, rfl⟩) (Y_X12_isMinute) l_X12_201 st_X12_isMinute rfl ⟨(Nat.le_of_ble_eq_true rfl), (Nat.le_of_ble_eq_true rfl), (Nat.le_of_ble_eq_true rfl), (Nat.le_of_ble_eq_true rfl)⟩ dX12_walk_8 ?_
    rintro _ _ ⟨rfl, rfl⟩
    refine ab_if_eq (tgt := 37) dX12_walk_11 (by decide) (fun c2 => ?_) (fun c2 => ?_)
    · have ht := ht.1 c2
      refine ab_iconst (v := (-1)) dX12_walk_37 (by decide) ?_
      exact ab_iret rfl dX12_walk_38 (Nat.le_of_ble_eq_true rfl) (Nat.le_of_ble_eq_true rfl) ht
    · have ht := ht.2 c2
      refine ab_iload_n (i := 3) dX12_walk_14 rfl rfl ?_
      refine ab_callS (Q' := fun r h' => r = some (.int (f_X12_isCorner x3)) ∧ h = h') (As := [.int x3]) (c_X12_isCorner hs x3 ⟨rfl, rfl⟩) (Y_X12_isCorner) l_X12_174 st_X12_isCorner rfl ⟨(Nat.le_of_ble_eq_true rfl), (Nat.le_of_ble_eq_true rfl), (Nat.le_of_ble_eq_true rfl), (Nat.le_of_ble_eq_true rfl)⟩ dX12_walk_15 ?_
      rintro _ _ ⟨rfl, rfl⟩
      refine ab_if_eq (tgt := 37) dX12_walk_18 (by decide) (fun c3 => ?_) (fun c3 => ?_)
      · have ht := ht.1 c3
        refine ab_iconst (v := (-1)) dX12_walk_37 (by decide) ?_
        exact ab_iret rfl dX12_walk_38 (Nat.le_of_ble_eq_true rfl) (Nat.le_of_ble_eq_true rfl) ht
      · have ht := ht.2 c3
        refine ab_iload (i := 4) dX12_walk_21 rfl ?_
        refine ab_iconst (v := 0) dX12_walk_23 (by decide) ?_
        refine ab_iconst (v := 1) dX12_walk_24 (by decide) ?_
        refine ab_callS (Q' := fun r h' => r = some (.int (f_X12_lies x4 0 1)) ∧ h = h') (As := [.int x4, .int 0, .int 1]) (c_X12_lies hs x4 0 1 ⟨rfl, rfl⟩) (Y_X12_lies) l_X12_156 st_X12_lies rfl ⟨(Nat.le_of_ble_eq_true rfl), (Nat.le_of_ble_eq_true rfl), (Nat.le_of_ble_eq_true rfl), (Nat.le_of_ble_eq_true rfl)⟩ dX12_walk_25 ?_
        rintro _ _ ⟨rfl, rfl⟩
        refine ab_if_eq (tgt := 37) dX12_walk_28 (by decide) (fun c4 => ?_) (fun c4 => ?_)
        · have ht := ht.1 c4
          refine ab_iconst (v := (-1)) dX12_walk_37 (by decide) ?_
          exact ab_iret rfl dX12_walk_38 (Nat.le_of_ble_eq_true rfl) (Nat.le_of_ble_eq_true rfl) ht
        · have ht := ht.2 c4
          refine ab_iload (i := 5) dX12_walk_31 rfl ?_
          refine ab_iconst (v := (-1)) dX12_walk_33 (by decide) ?_
          refine ab_icmp_ge (tgt := 39) dX12_walk_34 (by decide) (fun c5 => ?_) (fun c5 => ?_)
          · have ht := ht.1 c5
            refine ab_aload_n (i := 0) dX12_walk_39 rfl rfl ?_
            refine ab_callV (b := 82) (As := []) ht (Y_X12_laysNight) l_X12_430 in_X12_laysNight se_X12_laysNight (sh_k hs 82 12 (by decide) rfl) (by decide) rfl rfl ⟨(Nat.le_of_ble_eq_true rfl), (Nat.le_of_ble_eq_true rfl), (Nat.le_of_ble_eq_true rfl), (Nat.le_of_ble_eq_true rfl)⟩ dX12_walk_40 ?_
            rintro _ h6 ⟨rfl, hs7, ht⟩
            refine ab_iload_n (i := 2) dX12_walk_43 rfl rfl ?_
            refine ab_istore (i := 6) (L' := [some (.ref 82), some (.int x1), some (.int x2), some (.int x3), some (.int x4), some (.int x5), some (.int x2), none, none, none, none]) dX12_walk_44 (by exact (Nat.le_of_ble_eq_true rfl)) rfl rfl ?_
            exact Wp.fewer (L' := [some (.ref 82), some (.int x1), some (.int x2), some (.int x3), some (.int x4), some (.int x5), some (.int x2), none, none, none, none]) (show ab_leL _ _ from ⟨rfl, ⟨rfl, ⟨rfl, ⟨rfl, ⟨rfl, ⟨rfl, ⟨rfl, trivial⟩⟩⟩⟩⟩⟩⟩) ht
          · have ht := ht.2 c5
            refine ab_iconst (v := (-1)) dX12_walk_37 (by decide) ?_
            exact ab_iret rfl dX12_walk_38 (Nat.le_of_ble_eq_true rfl) (Nat.le_of_ble_eq_true rfl) ht
theorem dX12_carries_0 : decode cX12_carries 0 = .ok (.bipush 120, 2) := by decide +kernel
theorem dX12_carries_2 : decode cX12_carries 2 = .ok (.aload_n 0, 1) := by decide +kernel
theorem dX12_carries_3 : decode cX12_carries 3 = .ok (.getfield 381, 3) := by decide +kernel
theorem dX12_carries_6 : decode cX12_carries 6 = .ok (.imul, 1) := by decide +kernel
theorem dX12_carries_7 : decode cX12_carries 7 = .ok (.istore 5, 2) := by decide +kernel
theorem dX12_carries_9 : decode cX12_carries 9 = .ok (.aload_n 0, 1) := by decide +kernel
theorem dX12_carries_10 : decode cX12_carries 10 = .ok (.getfield 101, 3) := by decide +kernel
theorem dX12_carries_13 : decode cX12_carries 13 = .ok (.aload_n 0, 1) := by decide +kernel
theorem dX12_carries_14 : decode cX12_carries 14 = .ok (.getfield 381, 3) := by decide +kernel
theorem dX12_carries_17 : decode cX12_carries 17 = .ok (.iload_n 1, 1) := by decide +kernel
theorem dX12_carries_18 : decode cX12_carries 18 = .ok (.iastore, 1) := by decide +kernel
theorem dX12_carries_19 : decode cX12_carries 19 = .ok (.iconst 0, 1) := by decide +kernel
theorem dX12_carries_20 : decode cX12_carries 20 = .ok (.istore 6, 2) := by decide +kernel
theorem dX12_carries_22 : decode cX12_carries 22 = .ok (.iload 6, 2) := by decide +kernel
theorem dX12_carries_24 : decode cX12_carries 24 = .ok (.bipush 120, 2) := by decide +kernel
theorem dX12_carries_26 : decode cX12_carries 26 = .ok (.if_icmp .ge 58, 3) := by decide +kernel
theorem dX12_carries_29 : decode cX12_carries 29 = .ok (.iload 6, 2) := by decide +kernel
theorem dX12_carries_31 : decode cX12_carries 31 = .ok (.iload_n 2, 1) := by decide +kernel
theorem dX12_carries_32 : decode cX12_carries 32 = .ok (.isub, 1) := by decide +kernel
theorem dX12_carries_33 : decode cX12_carries 33 = .ok (.iload 4, 2) := by decide +kernel
theorem dX12_carries_35 : decode cX12_carries 35 = .ok (.invokestatic 167, 3) := by decide +kernel
theorem dX12_carries_38 : decode cX12_carries 38 = .ok (.istore 7, 2) := by decide +kernel
theorem dX12_carries_40 : decode cX12_carries 40 = .ok (.aload_n 0, 1) := by decide +kernel
theorem dX12_carries_41 : decode cX12_carries 41 = .ok (.getfield 98, 3) := by decide +kernel
theorem dX12_carries_44 : decode cX12_carries 44 = .ok (.iload 5, 2) := by decide +kernel
theorem dX12_carries_46 : decode cX12_carries 46 = .ok (.iload 6, 2) := by decide +kernel
theorem dX12_carries_48 : decode cX12_carries 48 = .ok (.iadd, 1) := by decide +kernel
theorem dX12_carries_49 : decode cX12_carries 49 = .ok (.iload 6, 2) := by decide +kernel
theorem dX12_carries_51 : decode cX12_carries 51 = .ok (.iload_n 2, 1) := by decide +kernel
theorem dX12_carries_52 : decode cX12_carries 52 = .ok (.if_icmp .ge 7, 3) := by decide +kernel
theorem dX12_carries_55 : decode cX12_carries 55 = .ok (.iconst (-1), 1) := by decide +kernel
theorem dX12_carries_56 : decode cX12_carries 56 = .ok (.goto 21, 3) := by decide +kernel
theorem dX12_carries_59 : decode cX12_carries 59 = .ok (.iload 7, 2) := by decide +kernel
theorem dX12_carries_61 : decode cX12_carries 61 = .ok (.ifCond .ne 7, 3) := by decide +kernel
theorem dX12_carries_64 : decode cX12_carries 64 = .ok (.iload_n 3, 1) := by decide +kernel
theorem dX12_carries_65 : decode cX12_carries 65 = .ok (.goto 12, 3) := by decide +kernel
theorem dX12_carries_68 : decode cX12_carries 68 = .ok (.aload_n 0, 1) := by decide +kernel
theorem dX12_carries_69 : decode cX12_carries 69 = .ok (.getfield 125, 3) := by decide +kernel
theorem dX12_carries_72 : decode cX12_carries 72 = .ok (.iload 7, 2) := by decide +kernel
theorem dX12_carries_74 : decode cX12_carries 74 = .ok (.iconst 1, 1) := by decide +kernel
theorem dX12_carries_75 : decode cX12_carries 75 = .ok (.isub, 1) := by decide +kernel
theorem dX12_carries_76 : decode cX12_carries 76 = .ok (.iaload, 1) := by decide +kernel
theorem dX12_carries_77 : decode cX12_carries 77 = .ok (.iastore, 1) := by decide +kernel
theorem dX12_carries_78 : decode cX12_carries 78 = .ok (.iinc 6 1, 3) := by decide +kernel
theorem dX12_carries_81 : decode cX12_carries 81 = .ok (.goto (-59), 3) := by decide +kernel
theorem dX12_carries_84 : decode cX12_carries 84 = .ok (.aload_n 0, 1) := by decide +kernel
theorem dX12_carries_85 : decode cX12_carries 85 = .ok (.dup, 1) := by decide +kernel
theorem dX12_carries_86 : decode cX12_carries 86 = .ok (.getfield 381, 3) := by decide +kernel
theorem dX12_carries_89 : decode cX12_carries 89 = .ok (.iconst 1, 1) := by decide +kernel
theorem dX12_carries_90 : decode cX12_carries 90 = .ok (.iadd, 1) := by decide +kernel
theorem dX12_carries_91 : decode cX12_carries 91 = .ok (.putfield 381, 3) := by decide +kernel
theorem dX12_carries_94 : decode cX12_carries 94 = .ok (.return_, 1) := by decide +kernel
set_option maxRecDepth 20000 in
theorem T_X12_carries_22 {Q : Option Value → ah_T → Prop} {h : ah_T} (hs : Sh h) (x2 : Int32) (x3 : Int32) (x4 : Int32) (x5 : Int32) (x6 : Int32) (ht : ((120 ≤ x6 → (∀ h6, h6 = ah_si h 82 42 ((ah_i h 82 42) + 1) → Q none h6)) ∧ (¬ 120 ≤ x6 → ((x2 ≤ x6 → ((¬ (f_X12_lesser (x6 - x2) x4) = 0 → (vp_in ((f_X12_lesser (x6 - x2) x4) - 1) (ah_n h 115)) ∧ (vp_in (x5 + x6) (ah_n h 107)) ∧ (∀ h13, h13 = ah_si h 107 (Int32.toNatClampNeg (x5 + x6)) (ah_i h 115 (Int32.toNatClampNeg ((f_X12_lesser (x6 - x2) x4) - 1))) → Wp mX12_carries Q 0 0 22 [some (.ref 82), none, some (.int x2), some (.int x3), some (.int x4), some (.int x5), some (.int (x6 + 1)), none] [] h13)) ∧ ((f_X12_lesser (x6 - x2) x4) = 0 → (vp_in (x5 + x6) (ah_n h 107)) ∧ (∀ h17, h17 = ah_si h 107 (Int32.toNatClampNeg (x5 + x6)) x3 → Wp mX12_carries Q 0 0 22 [some (.ref 82), none, some (.int x2), some (.int x3), some (.int x4), some (.int x5), some (.int (x6 + 1)), none] [] h17)))) ∧ (¬ x2 ≤ x6 → (vp_in (x5 + x6) (ah_n h 107)) ∧ (∀ h21, h21 = ah_si h 107 (Int32.toNatClampNeg (x5 + x6)) (-1) → Wp mX12_carries Q 0 0 22 [some (.ref 82), none, some (.int x2), some (.int x3), some (.int x4), some (.int x5), some (.int (x6 + 1)), none] [] h21)))))) : Wp mX12_carries Q 0 0 22 [some (.ref 82), none, some (.int x2), some (.int x3), some (.int x4), some (.int x5), some (.int x6), none] [] h := by
  refine ab_iload (i := 6) dX12_carries_22 rfl ?_
  refine ab_bipush (v := 120) dX12_carries_24 (by decide) ?_
  refine ab_icmp_ge (tgt := 84) dX12_carries_26 (by decide) (fun c5 => ?_) (fun c5 => ?_)
  · have ht := ht.1 c5
    refine ab_aload_n (i := 0) dX12_carries_84 rfl rfl ?_
    refine ab_dup dX12_carries_85 rfl ?_
    refine ab_getI f_X12_381 rfl (sh_k hs 82 12 (by decide) rfl) dX12_carries_86 ?_
    refine ab_iconst (v := 1) dX12_carries_89 (by decide) ?_
    refine ab_iadd dX12_carries_90 ?_
    refine ab_putI f_X12_381 (Or.inl rfl) rfl (sh_k hs 82 12 (by decide) rfl) rfl rfl dX12_carries_91 ?_
    refine Wp.nm fun h6 e7 => ?_
    have ht := ht h6 e7
    have hs8 : Sh h6 := by rw [e7]; exact sh_si hs
    exact ab_vret rfl dX12_carries_94 (Nat.le_of_ble_eq_true rfl) (Nat.le_of_ble_eq_true rfl) ht
  · have ht := ht.2 c5
    refine ab_iload (i := 6) dX12_carries_29 rfl ?_
    refine ab_iload_n (i := 2) dX12_carries_31 rfl rfl ?_
    refine ab_isub dX12_carries_32 ?_
    refine ab_iload (i := 4) dX12_carries_33 rfl ?_
    refine ab_callS (Q' := fun r h' => r = some (.int (f_X12_lesser (x6 - x2) x4)) ∧ h = h') (As := [.int (x6 - x2), .int x4]) (c_X12_lesser hs (x6 - x2) x4 ⟨rfl, rfl⟩) (Y_X12_lesser) l_X12_167 st_X12_lesser rfl ⟨(Nat.le_of_ble_eq_true rfl), (Nat.le_of_ble_eq_true rfl), (Nat.le_of_ble_eq_true rfl), (Nat.le_of_ble_eq_true rfl)⟩ dX12_carries_35 ?_
    rintro _ _ ⟨rfl, rfl⟩
    refine ab_istore (i := 7) (L' := [some (.ref 82), none, some (.int x2), some (.int x3), some (.int x4), some (.int x5), some (.int x6), some (.int (f_X12_lesser (x6 - x2) x4))]) dX12_carries_38 (by exact (Nat.le_of_ble_eq_true rfl)) rfl rfl ?_
    refine ab_aload_n (i := 0) dX12_carries_40 rfl rfl ?_
    refine ab_getR (b := 107) f_X12_98 rfl (sh_k hs 82 12 (by decide) rfl) (sh_r hs 123 rfl) dX12_carries_41 ?_
    refine ab_iload (i := 5) dX12_carries_44 rfl ?_
    refine ab_iload (i := 6) dX12_carries_46 rfl ?_
    refine ab_iadd dX12_carries_48 ?_
    refine ab_iload (i := 6) dX12_carries_49 rfl ?_
    refine ab_iload_n (i := 2) dX12_carries_51 rfl rfl ?_
    refine ab_icmp_ge (tgt := 59) dX12_carries_52 (by decide) (fun c9 => ?_) (fun c9 => ?_)
    · have ht := ht.1 c9
      refine ab_iload (i := 7) dX12_carries_59 rfl ?_
      refine ab_if_ne (tgt := 68) dX12_carries_61 (by decide) (fun c10 => ?_) (fun c10 => ?_)
      · have ht := ht.1 c10
        refine ab_aload_n (i := 0) dX12_carries_68 rfl rfl ?_
        refine ab_getR (b := 115) f_X12_125 rfl (sh_k hs 82 12 (by decide) rfl) (sh_r hs 131 rfl) dX12_carries_69 ?_
        refine ab_iload (i := 7) dX12_carries_72 rfl ?_
        refine ab_iconst (v := 1) dX12_carries_74 (by decide) ?_
        refine ab_isub dX12_carries_75 ?_
        obtain ⟨hc11, ht⟩ := ht
        refine ab_iald (sh_k hs 115 14 (by decide) rfl) hc11 dX12_carries_76 ?_
        obtain ⟨hc12, ht⟩ := ht
        refine ab_iast (sh_k hs 107 14 (by decide) rfl) hc12 dX12_carries_77 ?_
        refine Wp.nm fun h13 e14 => ?_
        have ht := ht h13 e14
        have hs15 : Sh h13 := by rw [e14]; exact sh_si hs
        refine ab_iinc (i := 6) (x := x6) (v := (x6 + 1)) (L' := [some (.ref 82), none, some (.int x2), some (.int x3), some (.int x4), some (.int x5), some (.int (x6 + 1)), some (.int (f_X12_lesser (x6 - x2) x4))]) dX12_carries_78 rfl rfl (by exact (Nat.le_of_ble_eq_true rfl)) rfl rfl ?_
        refine ab_goto (tgt := 22) dX12_carries_81 (by decide) ?_
        exact Wp.fewer (L' := [some (.ref 82), none, some (.int x2), some (.int x3), some (.int x4), some (.int x5), some (.int (x6 + 1)), none]) (show ab_leL _ _ from ⟨rfl, ⟨rfl, ⟨rfl, ⟨rfl, ⟨rfl, ⟨rfl, trivial⟩⟩⟩⟩⟩⟩) ht
      · have ht := ht.2 c10
        refine ab_iload_n (i := 3) dX12_carries_64 rfl rfl ?_
        refine ab_goto (tgt := 77) dX12_carries_65 (by decide) ?_
        obtain ⟨hc16, ht⟩ := ht
        refine ab_iast (sh_k hs 107 14 (by decide) rfl) hc16 dX12_carries_77 ?_
        refine Wp.nm fun h17 e18 => ?_
        have ht := ht h17 e18
        have hs19 : Sh h17 := by rw [e18]; exact sh_si hs
        refine ab_iinc (i := 6) (x := x6) (v := (x6 + 1)) (L' := [some (.ref 82), none, some (.int x2), some (.int x3), some (.int x4), some (.int x5), some (.int (x6 + 1)), some (.int (f_X12_lesser (x6 - x2) x4))]) dX12_carries_78 rfl rfl (by exact (Nat.le_of_ble_eq_true rfl)) rfl rfl ?_
        refine ab_goto (tgt := 22) dX12_carries_81 (by decide) ?_
        exact Wp.fewer (L' := [some (.ref 82), none, some (.int x2), some (.int x3), some (.int x4), some (.int x5), some (.int (x6 + 1)), none]) (show ab_leL _ _ from ⟨rfl, ⟨rfl, ⟨rfl, ⟨rfl, ⟨rfl, ⟨rfl, trivial⟩⟩⟩⟩⟩⟩) ht
    · have ht := ht.2 c9
      refine ab_iconst (v := (-1)) dX12_carries_55 (by decide) ?_
      refine ab_goto (tgt := 77) dX12_carries_56 (by decide) ?_
      obtain ⟨hc20, ht⟩ := ht
      refine ab_iast (sh_k hs 107 14 (by decide) rfl) hc20 dX12_carries_77 ?_
      refine Wp.nm fun h21 e22 => ?_
      have ht := ht h21 e22
      have hs23 : Sh h21 := by rw [e22]; exact sh_si hs
      refine ab_iinc (i := 6) (x := x6) (v := (x6 + 1)) (L' := [some (.ref 82), none, some (.int x2), some (.int x3), some (.int x4), some (.int x5), some (.int (x6 + 1)), some (.int (f_X12_lesser (x6 - x2) x4))]) dX12_carries_78 rfl rfl (by exact (Nat.le_of_ble_eq_true rfl)) rfl rfl ?_
      refine ab_goto (tgt := 22) dX12_carries_81 (by decide) ?_
      exact Wp.fewer (L' := [some (.ref 82), none, some (.int x2), some (.int x3), some (.int x4), some (.int x5), some (.int (x6 + 1)), none]) (show ab_leL _ _ from ⟨rfl, ⟨rfl, ⟨rfl, ⟨rfl, ⟨rfl, ⟨rfl, trivial⟩⟩⟩⟩⟩⟩) ht
set_option maxRecDepth 20000 in
theorem T_X12_carries {Q : Option Value → ah_T → Prop} {h : ah_T} (hs : Sh h) (x1 : Int32) (x2 : Int32) (x3 : Int32) (x4 : Int32) (ht : (vp_in (ah_i h 82 42) (ah_n h 108)) ∧ (∀ h2, h2 = ah_si h 108 (Int32.toNatClampNeg (ah_i h 82 42)) x1 → Wp mX12_carries Q 0 0 22 [some (.ref 82), none, some (.int x2), some (.int x3), some (.int x4), some (.int (120 * (ah_i h 82 42))), some (.int 0), none] [] h2)) : Mt mX12_carries [.ref 82, .int x1, .int x2, .int x3, .int x4] h Q := by
  refine Mt.ofWp rfl (by exact (Nat.le_of_ble_eq_true rfl)) (Wp.fewer (L' := [some (.ref 82), some (.int x1), some (.int x2), some (.int x3), some (.int x4), none, none, none]) (show ab_leL _ _ from ⟨rfl, ⟨rfl, ⟨rfl, ⟨rfl, ⟨rfl, trivial⟩⟩⟩⟩⟩) ?_)
  refine ab_bipush (v := 120) dX12_carries_0 (by decide) ?_
  refine ab_aload_n (i := 0) dX12_carries_2 rfl rfl ?_
  refine ab_getI f_X12_381 rfl (sh_k hs 82 12 (by decide) rfl) dX12_carries_3 ?_
  refine ab_imul dX12_carries_6 ?_
  refine ab_istore (i := 5) (L' := [some (.ref 82), some (.int x1), some (.int x2), some (.int x3), some (.int x4), some (.int (120 * (ah_i h 82 42))), none, none]) dX12_carries_7 (by exact (Nat.le_of_ble_eq_true rfl)) rfl rfl ?_
  refine ab_aload_n (i := 0) dX12_carries_9 rfl rfl ?_
  refine ab_getR (b := 108) f_X12_101 rfl (sh_k hs 82 12 (by decide) rfl) (sh_r hs 124 rfl) dX12_carries_10 ?_
  refine ab_aload_n (i := 0) dX12_carries_13 rfl rfl ?_
  refine ab_getI f_X12_381 rfl (sh_k hs 82 12 (by decide) rfl) dX12_carries_14 ?_
  refine ab_iload_n (i := 1) dX12_carries_17 rfl rfl ?_
  obtain ⟨hc1, ht⟩ := ht
  refine ab_iast (sh_k hs 108 14 (by decide) rfl) hc1 dX12_carries_18 ?_
  refine Wp.nm fun h2 e3 => ?_
  have ht := ht h2 e3
  have hs4 : Sh h2 := by rw [e3]; exact sh_si hs
  refine ab_iconst (v := 0) dX12_carries_19 (by decide) ?_
  refine ab_istore (i := 6) (L' := [some (.ref 82), some (.int x1), some (.int x2), some (.int x3), some (.int x4), some (.int (120 * (ah_i h 82 42))), some (.int 0), none]) dX12_carries_20 (by exact (Nat.le_of_ble_eq_true rfl)) rfl rfl ?_
  exact Wp.fewer (L' := [some (.ref 82), none, some (.int x2), some (.int x3), some (.int x4), some (.int (120 * (ah_i h 82 42))), some (.int 0), none]) (show ab_leL _ _ from ⟨rfl, ⟨rfl, ⟨rfl, ⟨rfl, ⟨rfl, ⟨rfl, trivial⟩⟩⟩⟩⟩⟩) ht
theorem dX12_triesGo_0 : decode cX12_triesGo 0 = .ok (.aload_n 0, 1) := by decide +kernel
theorem dX12_triesGo_1 : decode cX12_triesGo 1 = .ok (.invokevirtual 416, 3) := by decide +kernel
theorem dX12_triesGo_4 : decode cX12_triesGo 4 = .ok (.aload_n 0, 1) := by decide +kernel
theorem dX12_triesGo_5 : decode cX12_triesGo 5 = .ok (.iload_n 1, 1) := by decide +kernel
theorem dX12_triesGo_6 : decode cX12_triesGo 6 = .ok (.iload_n 2, 1) := by decide +kernel
theorem dX12_triesGo_7 : decode cX12_triesGo 7 = .ok (.iload_n 3, 1) := by decide +kernel
theorem dX12_triesGo_8 : decode cX12_triesGo 8 = .ok (.iload 4, 2) := by decide +kernel
theorem dX12_triesGo_10 : decode cX12_triesGo 10 = .ok (.invokevirtual 451, 3) := by decide +kernel
theorem dX12_triesGo_13 : decode cX12_triesGo 13 = .ok (.aload_n 0, 1) := by decide +kernel
theorem dX12_triesGo_14 : decode cX12_triesGo 14 = .ok (.iconst 0, 1) := by decide +kernel
theorem dX12_triesGo_15 : decode cX12_triesGo 15 = .ok (.invokevirtual 455, 3) := by decide +kernel
theorem dX12_triesGo_18 : decode cX12_triesGo 18 = .ok (.aload_n 0, 1) := by decide +kernel
theorem dX12_triesGo_19 : decode cX12_triesGo 19 = .ok (.getfield 458, 3) := by decide +kernel
theorem dX12_triesGo_22 : decode cX12_triesGo 22 = .ok (.iconst (-1), 1) := by decide +kernel
theorem dX12_triesGo_23 : decode cX12_triesGo 23 = .ok (.if_icmp .eq 15, 3) := by decide +kernel
theorem dX12_triesGo_26 : decode cX12_triesGo 26 = .ok (.aload_n 0, 1) := by decide +kernel
theorem dX12_triesGo_27 : decode cX12_triesGo 27 = .ok (.getfield 387, 3) := by decide +kernel
theorem dX12_triesGo_30 : decode cX12_triesGo 30 = .ok (.aload_n 0, 1) := by decide +kernel
theorem dX12_triesGo_31 : decode cX12_triesGo 31 = .ok (.getfield 458, 3) := by decide +kernel
theorem dX12_triesGo_34 : decode cX12_triesGo 34 = .ok (.if_icmp .lt 4, 3) := by decide +kernel
theorem dX12_triesGo_37 : decode cX12_triesGo 37 = .ok (.return_, 1) := by decide +kernel
theorem dX12_triesGo_38 : decode cX12_triesGo 38 = .ok (.aload_n 0, 1) := by decide +kernel
theorem dX12_triesGo_39 : decode cX12_triesGo 39 = .ok (.aload_n 0, 1) := by decide +kernel
theorem dX12_triesGo_40 : decode cX12_triesGo 40 = .ok (.getfield 387, 3) := by decide +kernel
theorem dX12_triesGo_43 : decode cX12_triesGo 43 = .ok (.putfield 458, 3) := by decide +kernel
theorem dX12_triesGo_46 : decode cX12_triesGo 46 = .ok (.iconst 0, 1) := by decide +kernel
theorem dX12_triesGo_47 : decode cX12_triesGo 47 = .ok (.istore 5, 2) := by decide +kernel
theorem dX12_triesGo_49 : decode cX12_triesGo 49 = .ok (.iload 5, 2) := by decide +kernel
theorem dX12_triesGo_51 : decode cX12_triesGo 51 = .ok (.iload 4, 2) := by decide +kernel
theorem dX12_triesGo_53 : decode cX12_triesGo 53 = .ok (.if_icmp .ge 23, 3) := by decide +kernel
theorem dX12_triesGo_56 : decode cX12_triesGo 56 = .ok (.aload_n 0, 1) := by decide +kernel
theorem dX12_triesGo_57 : decode cX12_triesGo 57 = .ok (.getfield 128, 3) := by decide +kernel
theorem dX12_triesGo_60 : decode cX12_triesGo 60 = .ok (.iload 5, 2) := by decide +kernel
theorem dX12_triesGo_62 : decode cX12_triesGo 62 = .ok (.aload_n 0, 1) := by decide +kernel
theorem dX12_triesGo_63 : decode cX12_triesGo 63 = .ok (.getfield 125, 3) := by decide +kernel
theorem dX12_triesGo_66 : decode cX12_triesGo 66 = .ok (.iload 5, 2) := by decide +kernel
theorem dX12_triesGo_68 : decode cX12_triesGo 68 = .ok (.iaload, 1) := by decide +kernel
theorem dX12_triesGo_69 : decode cX12_triesGo 69 = .ok (.iastore, 1) := by decide +kernel
theorem dX12_triesGo_70 : decode cX12_triesGo 70 = .ok (.iinc 5 1, 3) := by decide +kernel
theorem dX12_triesGo_73 : decode cX12_triesGo 73 = .ok (.goto (-24), 3) := by decide +kernel
theorem dX12_triesGo_76 : decode cX12_triesGo 76 = .ok (.return_, 1) := by decide +kernel
set_option maxRecDepth 20000 in
theorem T_X12_triesGo_49 {Q : Option Value → ah_T → Prop} {h : ah_T} (hs : Sh h) (x4 : Int32) (x5 : Int32) (ht : ((x4 ≤ x5 → Q none h) ∧ (¬ x4 ≤ x5 → (vp_in x5 (ah_n h 115)) ∧ (vp_in x5 (ah_n h 116)) ∧ (∀ h21, h21 = ah_si h 116 (Int32.toNatClampNeg x5) (ah_i h 115 (Int32.toNatClampNeg x5)) → Wp mX12_triesGo Q 0 0 49 [some (.ref 82), none, none, none, some (.int x4), some (.int (x5 + 1))] [] h21)))) : Wp mX12_triesGo Q 0 0 49 [some (.ref 82), none, none, none, some (.int x4), some (.int x5)] [] h := by
  refine ab_iload (i := 5) dX12_triesGo_49 rfl ?_
  refine ab_iload (i := 4) dX12_triesGo_51 rfl ?_
  refine ab_icmp_ge (tgt := 76) dX12_triesGo_53 (by decide) (fun c18 => ?_) (fun c18 => ?_)
  · have ht := ht.1 c18
    exact ab_vret rfl dX12_triesGo_76 (Nat.le_of_ble_eq_true rfl) (Nat.le_of_ble_eq_true rfl) ht
  · have ht := ht.2 c18
    refine ab_aload_n (i := 0) dX12_triesGo_56 rfl rfl ?_
    refine ab_getR (b := 116) f_X12_128 rfl (sh_k hs 82 12 (by decide) rfl) (sh_r hs 132 rfl) dX12_triesGo_57 ?_
    refine ab_iload (i := 5) dX12_triesGo_60 rfl ?_
    refine ab_aload_n (i := 0) dX12_triesGo_62 rfl rfl ?_
    refine ab_getR (b := 115) f_X12_125 rfl (sh_k hs 82 12 (by decide) rfl) (sh_r hs 131 rfl) dX12_triesGo_63 ?_
    refine ab_iload (i := 5) dX12_triesGo_66 rfl ?_
    obtain ⟨hc19, ht⟩ := ht
    refine ab_iald (sh_k hs 115 14 (by decide) rfl) hc19 dX12_triesGo_68 ?_
    obtain ⟨hc20, ht⟩ := ht
    refine ab_iast (sh_k hs 116 14 (by decide) rfl) hc20 dX12_triesGo_69 ?_
    refine Wp.nm fun h21 e22 => ?_
    have ht := ht h21 e22
    have hs23 : Sh h21 := by rw [e22]; exact sh_si hs
    refine ab_iinc (i := 5) (x := x5) (v := (x5 + 1)) (L' := [some (.ref 82), none, none, none, some (.int x4), some (.int (x5 + 1))]) dX12_triesGo_70 rfl rfl (by exact (Nat.le_of_ble_eq_true rfl)) rfl rfl ?_
    refine ab_goto (tgt := 49) dX12_triesGo_73 (by decide) ?_
    exact Wp.fewer (L' := [some (.ref 82), none, none, none, some (.int x4), some (.int (x5 + 1))]) (show ab_leL _ _ from ⟨rfl, ⟨rfl, ⟨rfl, trivial⟩⟩⟩) ht
set_option maxRecDepth 20000 in
theorem T_X12_triesGo {Q : Option Value → ah_T → Prop} {h : ah_T} (hs : Sh h) (x1 : Int32) (x2 : Int32) (x3 : Int32) (x4 : Int32) (ht : (Mt mX12_looks [.ref 82] h (ab_qv fun h1 => Sh h1 ∧ (Mt mX12_carries [.ref 82, .int x1, .int x2, .int x3, .int x4] h1 (ab_qv fun h4 => Sh h4 ∧ (Mt mX12_tries [.ref 82, .int 0] h4 (ab_qv fun h7 => Sh h7 ∧ (((ah_i h7 82 55) = (-1) → (∀ h11, h11 = ah_si h7 82 55 (ah_i h7 82 47) → Wp mX12_triesGo Q 0 0 49 [some (.ref 82), none, none, none, some (.int x4), some (.int 0)] [] h11)) ∧ (¬ (ah_i h7 82 55) = (-1) → (((ah_i h7 82 47) < (ah_i h7 82 55) → (∀ h15, h15 = ah_si h7 82 55 (ah_i h7 82 47) → Wp mX12_triesGo Q 0 0 49 [some (.ref 82), none, none, none, some (.int x4), some (.int 0)] [] h15)) ∧ (¬ (ah_i h7 82 47) < (ah_i h7 82 55) → Q none h7))))))))))) : Mt mX12_triesGo [.ref 82, .int x1, .int x2, .int x3, .int x4] h Q := by
  refine Mt.ofWp rfl (by exact (Nat.le_of_ble_eq_true rfl)) (Wp.fewer (L' := [some (.ref 82), some (.int x1), some (.int x2), some (.int x3), some (.int x4), none]) (show ab_leL _ _ from ⟨rfl, ⟨rfl, ⟨rfl, ⟨rfl, ⟨rfl, trivial⟩⟩⟩⟩⟩) ?_)
  refine ab_aload_n (i := 0) dX12_triesGo_0 rfl rfl ?_
  refine ab_callV (b := 82) (As := []) ht (Y_X12_looks) l_X12_416 in_X12_looks se_X12_looks (sh_k hs 82 12 (by decide) rfl) (by decide) rfl rfl ⟨(Nat.le_of_ble_eq_true rfl), (Nat.le_of_ble_eq_true rfl), (Nat.le_of_ble_eq_true rfl), (Nat.le_of_ble_eq_true rfl)⟩ dX12_triesGo_1 ?_
  rintro _ h1 ⟨rfl, hs2, ht⟩
  refine ab_aload_n (i := 0) dX12_triesGo_4 rfl rfl ?_
  refine ab_iload_n (i := 1) dX12_triesGo_5 rfl rfl ?_
  refine ab_iload_n (i := 2) dX12_triesGo_6 rfl rfl ?_
  refine ab_iload_n (i := 3) dX12_triesGo_7 rfl rfl ?_
  refine ab_iload (i := 4) dX12_triesGo_8 rfl ?_
  refine ab_callV (b := 82) (As := [.int x1, .int x2, .int x3, .int x4]) ht (Y_X12_carries) l_X12_451 in_X12_carries se_X12_carries (sh_k hs2 82 12 (by decide) rfl) (by decide) rfl rfl ⟨(Nat.le_of_ble_eq_true rfl), (Nat.le_of_ble_eq_true rfl), (Nat.le_of_ble_eq_true rfl), (Nat.le_of_ble_eq_true rfl)⟩ dX12_triesGo_10 ?_
  rintro _ h4 ⟨rfl, hs5, ht⟩
  refine ab_aload_n (i := 0) dX12_triesGo_13 rfl rfl ?_
  refine ab_iconst (v := 0) dX12_triesGo_14 (by decide) ?_
  refine ab_callV (b := 82) (As := [.int 0]) ht (Y_X12_tries) l_X12_455 in_X12_tries se_X12_tries (sh_k hs5 82 12 (by decide) rfl) (by decide) rfl rfl ⟨(Nat.le_of_ble_eq_true rfl), (Nat.le_of_ble_eq_true rfl), (Nat.le_of_ble_eq_true rfl), (Nat.le_of_ble_eq_true rfl)⟩ dX12_triesGo_15 ?_
  rintro _ h7 ⟨rfl, hs8, ht⟩
  refine ab_aload_n (i := 0) dX12_triesGo_18 rfl rfl ?_
  refine ab_getI f_X12_458 rfl (sh_k hs8 82 12 (by decide) rfl) dX12_triesGo_19 ?_
  refine ab_iconst (v := (-1)) dX12_triesGo_22 (by decide) ?_
  refine ab_icmp_eq (tgt := 38) dX12_triesGo_23 (by decide) (fun c10 => ?_) (fun c10 => ?_)
  · have ht := ht.1 c10
    refine ab_aload_n (i := 0) dX12_triesGo_38 rfl rfl ?_
    refine ab_aload_n (i := 0) dX12_triesGo_39 rfl rfl ?_
    refine ab_getI f_X12_387 rfl (sh_k hs8 82 12 (by decide) rfl) dX12_triesGo_40 ?_
    refine ab_putI f_X12_458 (Or.inl rfl) rfl (sh_k hs8 82 12 (by decide) rfl) rfl rfl dX12_triesGo_43 ?_
    refine Wp.nm fun h11 e12 => ?_
    have ht := ht h11 e12
    have hs13 : Sh h11 := by rw [e12]; exact sh_si hs8
    refine ab_iconst (v := 0) dX12_triesGo_46 (by decide) ?_
    refine ab_istore (i := 5) (L' := [some (.ref 82), some (.int x1), some (.int x2), some (.int x3), some (.int x4), some (.int 0)]) dX12_triesGo_47 (by exact (Nat.le_of_ble_eq_true rfl)) rfl rfl ?_
    exact Wp.fewer (L' := [some (.ref 82), none, none, none, some (.int x4), some (.int 0)]) (show ab_leL _ _ from ⟨rfl, ⟨rfl, ⟨rfl, trivial⟩⟩⟩) ht
  · have ht := ht.2 c10
    refine ab_aload_n (i := 0) dX12_triesGo_26 rfl rfl ?_
    refine ab_getI f_X12_387 rfl (sh_k hs8 82 12 (by decide) rfl) dX12_triesGo_27 ?_
    refine ab_aload_n (i := 0) dX12_triesGo_30 rfl rfl ?_
    refine ab_getI f_X12_458 rfl (sh_k hs8 82 12 (by decide) rfl) dX12_triesGo_31 ?_
    refine ab_icmp_lt (tgt := 38) dX12_triesGo_34 (by decide) (fun c14 => ?_) (fun c14 => ?_)
    · have ht := ht.1 c14
      refine ab_aload_n (i := 0) dX12_triesGo_38 rfl rfl ?_
      refine ab_aload_n (i := 0) dX12_triesGo_39 rfl rfl ?_
      refine ab_getI f_X12_387 rfl (sh_k hs8 82 12 (by decide) rfl) dX12_triesGo_40 ?_
      refine ab_putI f_X12_458 (Or.inl rfl) rfl (sh_k hs8 82 12 (by decide) rfl) rfl rfl dX12_triesGo_43 ?_
      refine Wp.nm fun h15 e16 => ?_
      have ht := ht h15 e16
      have hs17 : Sh h15 := by rw [e16]; exact sh_si hs8
      refine ab_iconst (v := 0) dX12_triesGo_46 (by decide) ?_
      refine ab_istore (i := 5) (L' := [some (.ref 82), some (.int x1), some (.int x2), some (.int x3), some (.int x4), some (.int 0)]) dX12_triesGo_47 (by exact (Nat.le_of_ble_eq_true rfl)) rfl rfl ?_
      exact Wp.fewer (L' := [some (.ref 82), none, none, none, some (.int x4), some (.int 0)]) (show ab_leL _ _ from ⟨rfl, ⟨rfl, ⟨rfl, trivial⟩⟩⟩) ht
    · have ht := ht.2 c14
      exact ab_vret rfl dX12_triesGo_37 (Nat.le_of_ble_eq_true rfl) (Nat.le_of_ble_eq_true rfl) ht
theorem dX12_worst_0 : decode cX12_worst 0 = .ok (.iload_n 1, 1) := by decide +kernel
theorem dX12_worst_1 : decode cX12_worst 1 = .ok (.invokestatic 192, 3) := by decide +kernel
theorem dX12_worst_4 : decode cX12_worst 4 = .ok (.ifCond .eq 40, 3) := by decide +kernel
theorem dX12_worst_7 : decode cX12_worst 7 = .ok (.iload_n 2, 1) := by decide +kernel
theorem dX12_worst_8 : decode cX12_worst 8 = .ok (.invokestatic 201, 3) := by decide +kernel
theorem dX12_worst_11 : decode cX12_worst 11 = .ok (.ifCond .eq 33, 3) := by decide +kernel
theorem dX12_worst_14 : decode cX12_worst 14 = .ok (.iload_n 3, 1) := by decide +kernel
theorem dX12_worst_15 : decode cX12_worst 15 = .ok (.invokestatic 174, 3) := by decide +kernel
theorem dX12_worst_18 : decode cX12_worst 18 = .ok (.ifCond .eq 26, 3) := by decide +kernel
theorem dX12_worst_21 : decode cX12_worst 21 = .ok (.iload 4, 2) := by decide +kernel
theorem dX12_worst_23 : decode cX12_worst 23 = .ok (.iconst 0, 1) := by decide +kernel
theorem dX12_worst_24 : decode cX12_worst 24 = .ok (.iconst 3, 1) := by decide +kernel
theorem dX12_worst_25 : decode cX12_worst 25 = .ok (.invokestatic 156, 3) := by decide +kernel
theorem dX12_worst_28 : decode cX12_worst 28 = .ok (.ifCond .eq 16, 3) := by decide +kernel
theorem dX12_worst_31 : decode cX12_worst 31 = .ok (.iload 5, 2) := by decide +kernel
theorem dX12_worst_33 : decode cX12_worst 33 = .ok (.iconst (-1), 1) := by decide +kernel
theorem dX12_worst_34 : decode cX12_worst 34 = .ok (.iload 4, 2) := by decide +kernel
theorem dX12_worst_36 : decode cX12_worst 36 = .ok (.iconst 1, 1) := by decide +kernel
theorem dX12_worst_37 : decode cX12_worst 37 = .ok (.isub, 1) := by decide +kernel
theorem dX12_worst_38 : decode cX12_worst 38 = .ok (.invokestatic 156, 3) := by decide +kernel
theorem dX12_worst_41 : decode cX12_worst 41 = .ok (.ifCond .ne 5, 3) := by decide +kernel
theorem dX12_worst_44 : decode cX12_worst 44 = .ok (.iconst (-1), 1) := by decide +kernel
theorem dX12_worst_45 : decode cX12_worst 45 = .ok (.ireturn, 1) := by decide +kernel
theorem dX12_worst_46 : decode cX12_worst 46 = .ok (.aload_n 0, 1) := by decide +kernel
theorem dX12_worst_47 : decode cX12_worst 47 = .ok (.iconst (-1), 1) := by decide +kernel
theorem dX12_worst_48 : decode cX12_worst 48 = .ok (.putfield 458, 3) := by decide +kernel
theorem dX12_worst_51 : decode cX12_worst 51 = .ok (.iload 4, 2) := by decide +kernel
theorem dX12_worst_53 : decode cX12_worst 53 = .ok (.ifCond .ne 7, 3) := by decide +kernel
theorem dX12_worst_56 : decode cX12_worst 56 = .ok (.iconst 1, 1) := by decide +kernel
theorem dX12_worst_57 : decode cX12_worst 57 = .ok (.goto 29, 3) := by decide +kernel
theorem dX12_worst_60 : decode cX12_worst 60 = .ok (.iload 4, 2) := by decide +kernel
theorem dX12_worst_62 : decode cX12_worst 62 = .ok (.iconst 1, 1) := by decide +kernel
theorem dX12_worst_63 : decode cX12_worst 63 = .ok (.if_icmp .ne 8, 3) := by decide +kernel
theorem dX12_worst_66 : decode cX12_worst 66 = .ok (.bipush 12, 2) := by decide +kernel
theorem dX12_worst_68 : decode cX12_worst 68 = .ok (.goto 18, 3) := by decide +kernel
theorem dX12_worst_71 : decode cX12_worst 71 = .ok (.iload 4, 2) := by decide +kernel
theorem dX12_worst_73 : decode cX12_worst 73 = .ok (.iconst 2, 1) := by decide +kernel
theorem dX12_worst_74 : decode cX12_worst 74 = .ok (.if_icmp .ne 9, 3) := by decide +kernel
theorem dX12_worst_77 : decode cX12_worst 77 = .ok (.sipush 144, 3) := by decide +kernel
theorem dX12_worst_80 : decode cX12_worst 80 = .ok (.goto 6, 3) := by decide +kernel
theorem dX12_worst_83 : decode cX12_worst 83 = .ok (.sipush 1728, 3) := by decide +kernel
theorem dX12_worst_86 : decode cX12_worst 86 = .ok (.istore 6, 2) := by decide +kernel
theorem dX12_worst_88 : decode cX12_worst 88 = .ok (.iconst 0, 1) := by decide +kernel
theorem dX12_worst_89 : decode cX12_worst 89 = .ok (.istore 7, 2) := by decide +kernel
theorem dX12_worst_91 : decode cX12_worst 91 = .ok (.iload 7, 2) := by decide +kernel
theorem dX12_worst_93 : decode cX12_worst 93 = .ok (.iload 6, 2) := by decide +kernel
theorem dX12_worst_95 : decode cX12_worst 95 = .ok (.if_icmp .ge 134, 3) := by decide +kernel
theorem dX12_worst_98 : decode cX12_worst 98 = .ok (.iload 7, 2) := by decide +kernel
theorem dX12_worst_100 : decode cX12_worst 100 = .ok (.istore 8, 2) := by decide +kernel
theorem dX12_worst_102 : decode cX12_worst 102 = .ok (.iload 4, 2) := by decide +kernel
theorem dX12_worst_104 : decode cX12_worst 104 = .ok (.iconst 1, 1) := by decide +kernel
theorem dX12_worst_105 : decode cX12_worst 105 = .ok (.isub, 1) := by decide +kernel
theorem dX12_worst_106 : decode cX12_worst 106 = .ok (.istore 9, 2) := by decide +kernel
theorem dX12_worst_108 : decode cX12_worst 108 = .ok (.iload 9, 2) := by decide +kernel
theorem dX12_worst_110 : decode cX12_worst 110 = .ok (.ifCond .lt 28, 3) := by decide +kernel
theorem dX12_worst_113 : decode cX12_worst 113 = .ok (.aload_n 0, 1) := by decide +kernel
theorem dX12_worst_114 : decode cX12_worst 114 = .ok (.getfield 125, 3) := by decide +kernel
theorem dX12_worst_117 : decode cX12_worst 117 = .ok (.iload 9, 2) := by decide +kernel
theorem dX12_worst_119 : decode cX12_worst 119 = .ok (.iload 8, 2) := by decide +kernel
theorem dX12_worst_121 : decode cX12_worst 121 = .ok (.bipush 12, 2) := by decide +kernel
theorem dX12_worst_123 : decode cX12_worst 123 = .ok (.irem, 1) := by decide +kernel
theorem dX12_worst_124 : decode cX12_worst 124 = .ok (.iastore, 1) := by decide +kernel
theorem dX12_worst_125 : decode cX12_worst 125 = .ok (.iload 8, 2) := by decide +kernel
theorem dX12_worst_127 : decode cX12_worst 127 = .ok (.bipush 12, 2) := by decide +kernel
theorem dX12_worst_129 : decode cX12_worst 129 = .ok (.idiv, 1) := by decide +kernel
theorem dX12_worst_130 : decode cX12_worst 130 = .ok (.istore 8, 2) := by decide +kernel
theorem dX12_worst_132 : decode cX12_worst 132 = .ok (.iinc 9 (-1), 3) := by decide +kernel
theorem dX12_worst_135 : decode cX12_worst 135 = .ok (.goto (-27), 3) := by decide +kernel
theorem dX12_worst_138 : decode cX12_worst 138 = .ok (.iconst 1, 1) := by decide +kernel
theorem dX12_worst_139 : decode cX12_worst 139 = .ok (.istore 9, 2) := by decide +kernel
theorem dX12_worst_141 : decode cX12_worst 141 = .ok (.iload_n 3, 1) := by decide +kernel
theorem dX12_worst_142 : decode cX12_worst 142 = .ok (.istore 10, 2) := by decide +kernel
theorem dX12_worst_144 : decode cX12_worst 144 = .ok (.iconst 0, 1) := by decide +kernel
theorem dX12_worst_145 : decode cX12_worst 145 = .ok (.istore 11, 2) := by decide +kernel
theorem dX12_worst_147 : decode cX12_worst 147 = .ok (.iload 11, 2) := by decide +kernel
theorem dX12_worst_149 : decode cX12_worst 149 = .ok (.iload 4, 2) := by decide +kernel
theorem dX12_worst_151 : decode cX12_worst 151 = .ok (.if_icmp .ge 58, 3) := by decide +kernel
theorem dX12_worst_154 : decode cX12_worst 154 = .ok (.iload 9, 2) := by decide +kernel
theorem dX12_worst_156 : decode cX12_worst 156 = .ok (.ifCond .eq 35, 3) := by decide +kernel
theorem dX12_worst_159 : decode cX12_worst 159 = .ok (.aload_n 0, 1) := by decide +kernel
theorem dX12_worst_160 : decode cX12_worst 160 = .ok (.getfield 125, 3) := by decide +kernel
theorem dX12_worst_163 : decode cX12_worst 163 = .ok (.iload 11, 2) := by decide +kernel
theorem dX12_worst_165 : decode cX12_worst 165 = .ok (.iaload, 1) := by decide +kernel
theorem dX12_worst_166 : decode cX12_worst 166 = .ok (.iload 10, 2) := by decide +kernel
theorem dX12_worst_168 : decode cX12_worst 168 = .ok (.if_icmp .eq 19, 3) := by decide +kernel
theorem dX12_worst_171 : decode cX12_worst 171 = .ok (.aload_n 0, 1) := by decide +kernel
theorem dX12_worst_172 : decode cX12_worst 172 = .ok (.iload 10, 2) := by decide +kernel
theorem dX12_worst_174 : decode cX12_worst 174 = .ok (.aload_n 0, 1) := by decide +kernel
theorem dX12_worst_175 : decode cX12_worst 175 = .ok (.getfield 125, 3) := by decide +kernel
theorem dX12_worst_178 : decode cX12_worst 178 = .ok (.iload 11, 2) := by decide +kernel
theorem dX12_worst_180 : decode cX12_worst 180 = .ok (.iaload, 1) := by decide +kernel
theorem dX12_worst_181 : decode cX12_worst 181 = .ok (.invokevirtual 178, 3) := by decide +kernel
theorem dX12_worst_184 : decode cX12_worst 184 = .ok (.ifCond .eq 7, 3) := by decide +kernel
theorem dX12_worst_187 : decode cX12_worst 187 = .ok (.iconst 1, 1) := by decide +kernel
theorem dX12_worst_188 : decode cX12_worst 188 = .ok (.goto 4, 3) := by decide +kernel
theorem dX12_worst_191 : decode cX12_worst 191 = .ok (.iconst 0, 1) := by decide +kernel
theorem dX12_worst_192 : decode cX12_worst 192 = .ok (.istore 9, 2) := by decide +kernel
theorem dX12_worst_194 : decode cX12_worst 194 = .ok (.aload_n 0, 1) := by decide +kernel
theorem dX12_worst_195 : decode cX12_worst 195 = .ok (.getfield 125, 3) := by decide +kernel
theorem dX12_worst_198 : decode cX12_worst 198 = .ok (.iload 11, 2) := by decide +kernel
theorem dX12_worst_200 : decode cX12_worst 200 = .ok (.iaload, 1) := by decide +kernel
theorem dX12_worst_201 : decode cX12_worst 201 = .ok (.istore 10, 2) := by decide +kernel
theorem dX12_worst_203 : decode cX12_worst 203 = .ok (.iinc 11 1, 3) := by decide +kernel
theorem dX12_worst_206 : decode cX12_worst 206 = .ok (.goto (-59), 3) := by decide +kernel
theorem dX12_worst_209 : decode cX12_worst 209 = .ok (.iload 9, 2) := by decide +kernel
theorem dX12_worst_211 : decode cX12_worst 211 = .ok (.ifCond .eq 12, 3) := by decide +kernel
theorem dX12_worst_214 : decode cX12_worst 214 = .ok (.aload_n 0, 1) := by decide +kernel
theorem dX12_worst_215 : decode cX12_worst 215 = .ok (.iload_n 1, 1) := by decide +kernel
theorem dX12_worst_216 : decode cX12_worst 216 = .ok (.iload_n 2, 1) := by decide +kernel
theorem dX12_worst_217 : decode cX12_worst 217 = .ok (.iload_n 3, 1) := by decide +kernel
theorem dX12_worst_218 : decode cX12_worst 218 = .ok (.iload 4, 2) := by decide +kernel
theorem dX12_worst_220 : decode cX12_worst 220 = .ok (.invokevirtual 461, 3) := by decide +kernel
theorem dX12_worst_223 : decode cX12_worst 223 = .ok (.iinc 7 1, 3) := by decide +kernel
theorem dX12_worst_226 : decode cX12_worst 226 = .ok (.goto (-135), 3) := by decide +kernel
theorem dX12_worst_229 : decode cX12_worst 229 = .ok (.iload 5, 2) := by decide +kernel
theorem dX12_worst_231 : decode cX12_worst 231 = .ok (.iconst (-1), 1) := by decide +kernel
theorem dX12_worst_232 : decode cX12_worst 232 = .ok (.if_icmp .ne 10, 3) := by decide +kernel
theorem dX12_worst_235 : decode cX12_worst 235 = .ok (.aload_n 0, 1) := by decide +kernel
theorem dX12_worst_236 : decode cX12_worst 236 = .ok (.getfield 458, 3) := by decide +kernel
theorem dX12_worst_239 : decode cX12_worst 239 = .ok (.goto 10, 3) := by decide +kernel
theorem dX12_worst_242 : decode cX12_worst 242 = .ok (.aload_n 0, 1) := by decide +kernel
theorem dX12_worst_243 : decode cX12_worst 243 = .ok (.getfield 128, 3) := by decide +kernel
theorem dX12_worst_246 : decode cX12_worst 246 = .ok (.iload 5, 2) := by decide +kernel
theorem dX12_worst_248 : decode cX12_worst 248 = .ok (.iaload, 1) := by decide +kernel
theorem dX12_worst_249 : decode cX12_worst 249 = .ok (.ireturn, 1) := by decide +kernel
set_option maxRecDepth 20000 in
theorem T_X12_worst_91 {Q : Option Value → ah_T → Prop} {h : ah_T} (hs : Sh h) (x1 : Int32) (x2 : Int32) (x3 : Int32) (x4 : Int32) (x5 : Int32) (x6 : Int32) (x7 : Int32) (ht : ((x6 ≤ x7 → ((¬ x5 = (-1) → (vp_in x5 (ah_n h 116)) ∧ Q (some (.int (ah_i h 116 (Int32.toNatClampNeg x5)))) h) ∧ (x5 = (-1) → Q (some (.int (ah_i h 82 55))) h))) ∧ (¬ x6 ≤ x7 → Wp mX12_worst Q 0 0 108 [some (.ref 82), some (.int x1), some (.int x2), some (.int x3), some (.int x4), some (.int x5), some (.int x6), some (.int x7), some (.int x7), some (.int (x4 - 1)), none, none] [] h))) : Wp mX12_worst Q 0 0 91 [some (.ref 82), some (.int x1), some (.int x2), some (.int x3), some (.int x4), some (.int x5), some (.int x6), some (.int x7), none, none, none, none] [] h := by
  refine ab_iload (i := 7) dX12_worst_91 rfl ?_
  refine ab_iload (i := 6) dX12_worst_93 rfl ?_
  refine ab_icmp_ge (tgt := 229) dX12_worst_95 (by decide) (fun c12 => ?_) (fun c12 => ?_)
  · have ht := ht.1 c12
    refine ab_iload (i := 5) dX12_worst_229 rfl ?_
    refine ab_iconst (v := (-1)) dX12_worst_231 (by decide) ?_
    refine ab_icmp_ne (tgt := 242) dX12_worst_232 (by decide) (fun c13 => ?_) (fun c13 => ?_)
    · have ht := ht.1 c13
      refine ab_aload_n (i := 0) dX12_worst_242 rfl rfl ?_
      refine ab_getR (b := 116) f_X12_128 rfl (sh_k hs 82 12 (by decide) rfl) (sh_r hs 132 rfl) dX12_worst_243 ?_
      refine ab_iload (i := 5) dX12_worst_246 rfl ?_
      obtain ⟨hc14, ht⟩ := ht
      refine ab_iald (sh_k hs 116 14 (by decide) rfl) hc14 dX12_worst_248 ?_
      exact ab_iret rfl dX12_worst_249 (Nat.le_of_ble_eq_true rfl) (Nat.le_of_ble_eq_true rfl) ht
    · have ht := ht.2 c13
      refine ab_aload_n (i := 0) dX12_worst_235 rfl rfl ?_
      refine ab_getI f_X12_458 rfl (sh_k hs 82 12 (by decide) rfl) dX12_worst_236 ?_
      refine ab_goto (tgt := 249) dX12_worst_239 (by decide) ?_
      exact ab_iret rfl dX12_worst_249 (Nat.le_of_ble_eq_true rfl) (Nat.le_of_ble_eq_true rfl) ht
  · have ht := ht.2 c12
    refine ab_iload (i := 7) dX12_worst_98 rfl ?_
    refine ab_istore (i := 8) (L' := [some (.ref 82), some (.int x1), some (.int x2), some (.int x3), some (.int x4), some (.int x5), some (.int x6), some (.int x7), some (.int x7), none, none, none]) dX12_worst_100 (by exact (Nat.le_of_ble_eq_true rfl)) rfl rfl ?_
    refine ab_iload (i := 4) dX12_worst_102 rfl ?_
    refine ab_iconst (v := 1) dX12_worst_104 (by decide) ?_
    refine ab_isub dX12_worst_105 ?_
    refine ab_istore (i := 9) (L' := [some (.ref 82), some (.int x1), some (.int x2), some (.int x3), some (.int x4), some (.int x5), some (.int x6), some (.int x7), some (.int x7), some (.int (x4 - 1)), none, none]) dX12_worst_106 (by exact (Nat.le_of_ble_eq_true rfl)) rfl rfl ?_
    exact Wp.fewer (L' := [some (.ref 82), some (.int x1), some (.int x2), some (.int x3), some (.int x4), some (.int x5), some (.int x6), some (.int x7), some (.int x7), some (.int (x4 - 1)), none, none]) (show ab_leL _ _ from ⟨rfl, ⟨rfl, ⟨rfl, ⟨rfl, ⟨rfl, ⟨rfl, ⟨rfl, ⟨rfl, ⟨rfl, ⟨rfl, trivial⟩⟩⟩⟩⟩⟩⟩⟩⟩⟩) ht
set_option maxRecDepth 20000 in
theorem T_X12_worst_108 {Q : Option Value → ah_T → Prop} {h : ah_T} (hs : Sh h) (x1 : Int32) (x2 : Int32) (x3 : Int32) (x4 : Int32) (x5 : Int32) (x6 : Int32) (x7 : Int32) (x8 : Int32) (x9 : Int32) (ht : ((x9 < 0 → Wp mX12_worst Q 0 0 147 [some (.ref 82), some (.int x1), some (.int x2), some (.int x3), some (.int x4), some (.int x5), some (.int x6), some (.int x7), none, some (.int 1), some (.int x3), some (.int 0)] [] h) ∧ (¬ x9 < 0 → (vp_in x9 (ah_n h 115)) ∧ (∀ h17, h17 = ah_si h 115 (Int32.toNatClampNeg x9) (x8 - x8 / 12 * 12) → Wp mX12_worst Q 0 0 108 [some (.ref 82), some (.int x1), some (.int x2), some (.int x3), some (.int x4), some (.int x5), some (.int x6), some (.int x7), some (.int (x8 / 12)), some (.int (x9 + (-1))), none, none] [] h17)))) : Wp mX12_worst Q 0 0 108 [some (.ref 82), some (.int x1), some (.int x2), some (.int x3), some (.int x4), some (.int x5), some (.int x6), some (.int x7), some (.int x8), some (.int x9), none, none] [] h := by
  refine ab_iload (i := 9) dX12_worst_108 rfl ?_
  refine ab_if_lt (tgt := 138) dX12_worst_110 (by decide) (fun c15 => ?_) (fun c15 => ?_)
  · have ht := ht.1 c15
    refine ab_iconst (v := 1) dX12_worst_138 (by decide) ?_
    refine ab_istore (i := 9) (L' := [some (.ref 82), some (.int x1), some (.int x2), some (.int x3), some (.int x4), some (.int x5), some (.int x6), some (.int x7), some (.int x8), some (.int 1), none, none]) dX12_worst_139 (by exact (Nat.le_of_ble_eq_true rfl)) rfl rfl ?_
    refine ab_iload_n (i := 3) dX12_worst_141 rfl rfl ?_
    refine ab_istore (i := 10) (L' := [some (.ref 82), some (.int x1), some (.int x2), some (.int x3), some (.int x4), some (.int x5), some (.int x6), some (.int x7), some (.int x8), some (.int 1), some (.int x3), none]) dX12_worst_142 (by exact (Nat.le_of_ble_eq_true rfl)) rfl rfl ?_
    refine ab_iconst (v := 0) dX12_worst_144 (by decide) ?_
    refine ab_istore (i := 11) (L' := [some (.ref 82), some (.int x1), some (.int x2), some (.int x3), some (.int x4), some (.int x5), some (.int x6), some (.int x7), some (.int x8), some (.int 1), some (.int x3), some (.int 0)]) dX12_worst_145 (by exact (Nat.le_of_ble_eq_true rfl)) rfl rfl ?_
    exact Wp.fewer (L' := [some (.ref 82), some (.int x1), some (.int x2), some (.int x3), some (.int x4), some (.int x5), some (.int x6), some (.int x7), none, some (.int 1), some (.int x3), some (.int 0)]) (show ab_leL _ _ from ⟨rfl, ⟨rfl, ⟨rfl, ⟨rfl, ⟨rfl, ⟨rfl, ⟨rfl, ⟨rfl, ⟨rfl, ⟨rfl, ⟨rfl, trivial⟩⟩⟩⟩⟩⟩⟩⟩⟩⟩⟩) ht
  · have ht := ht.2 c15
    refine ab_aload_n (i := 0) dX12_worst_113 rfl rfl ?_
    refine ab_getR (b := 115) f_X12_125 rfl (sh_k hs 82 12 (by decide) rfl) (sh_r hs 131 rfl) dX12_worst_114 ?_
    refine ab_iload (i := 9) dX12_worst_117 rfl ?_
    refine ab_iload (i := 8) dX12_worst_119 rfl ?_
    refine ab_bipush (v := 12) dX12_worst_121 (by decide) ?_
    refine ab_irem dX12_worst_123 (by decide) ?_
    obtain ⟨hc16, ht⟩ := ht
    refine ab_iast (sh_k hs 115 14 (by decide) rfl) hc16 dX12_worst_124 ?_
    refine Wp.nm fun h17 e18 => ?_
    have ht := ht h17 e18
    have hs19 : Sh h17 := by rw [e18]; exact sh_si hs
    refine ab_iload (i := 8) dX12_worst_125 rfl ?_
    refine ab_bipush (v := 12) dX12_worst_127 (by decide) ?_
    refine ab_idiv dX12_worst_129 (by decide) ?_
    refine ab_istore (i := 8) (L' := [some (.ref 82), some (.int x1), some (.int x2), some (.int x3), some (.int x4), some (.int x5), some (.int x6), some (.int x7), some (.int (x8 / 12)), some (.int x9), none, none]) dX12_worst_130 (by exact (Nat.le_of_ble_eq_true rfl)) rfl rfl ?_
    refine ab_iinc (i := 9) (x := x9) (v := (x9 + (-1))) (L' := [some (.ref 82), some (.int x1), some (.int x2), some (.int x3), some (.int x4), some (.int x5), some (.int x6), some (.int x7), some (.int (x8 / 12)), some (.int (x9 + (-1))), none, none]) dX12_worst_132 rfl rfl (by exact (Nat.le_of_ble_eq_true rfl)) rfl rfl ?_
    refine ab_goto (tgt := 108) dX12_worst_135 (by decide) ?_
    exact Wp.fewer (L' := [some (.ref 82), some (.int x1), some (.int x2), some (.int x3), some (.int x4), some (.int x5), some (.int x6), some (.int x7), some (.int (x8 / 12)), some (.int (x9 + (-1))), none, none]) (show ab_leL _ _ from ⟨rfl, ⟨rfl, ⟨rfl, ⟨rfl, ⟨rfl, ⟨rfl, ⟨rfl, ⟨rfl, ⟨rfl, ⟨rfl, trivial⟩⟩⟩⟩⟩⟩⟩⟩⟩⟩) ht
set_option maxRecDepth 20000 in
theorem T_X12_worst_147 {Q : Option Value → ah_T → Prop} {h : ah_T} (hs : Sh h) (x1 : Int32) (x2 : Int32) (x3 : Int32) (x4 : Int32) (x5 : Int32) (x6 : Int32) (x7 : Int32) (x9 : Int32) (x10 : Int32) (x11 : Int32) (ht : ((x4 ≤ x11 → ((x9 = 0 → Wp mX12_worst Q 0 0 91 [some (.ref 82), some (.int x1), some (.int x2), some (.int x3), some (.int x4), some (.int x5), some (.int x6), some (.int (x7 + 1)), none, none, none, none] [] h) ∧ (¬ x9 = 0 → (Mt mX12_triesGo [.ref 82, .int x1, .int x2, .int x3, .int x4] h (ab_qv fun h22 => Sh h22 ∧ Wp mX12_worst Q 0 0 91 [some (.ref 82), some (.int x1), some (.int x2), some (.int x3), some (.int x4), some (.int x5), some (.int x6), some (.int (x7 + 1)), none, none, none, none] [] h22))))) ∧ (¬ x4 ≤ x11 → ((x9 = 0 → (vp_in x11 (ah_n h 115)) ∧ Wp mX12_worst Q 0 0 147 [some (.ref 82), some (.int x1), some (.int x2), some (.int x3), some (.int x4), some (.int x5), some (.int x6), some (.int x7), none, some (.int 0), some (.int (ah_i h 115 (Int32.toNatClampNeg x11))), some (.int (x11 + 1))] [] h) ∧ (¬ x9 = 0 → (vp_in x11 (ah_n h 115)) ∧ (((ah_i h 115 (Int32.toNatClampNeg x11)) = x10 → (vp_in x11 (ah_n h 115)) ∧ Wp mX12_worst Q 0 0 147 [some (.ref 82), some (.int x1), some (.int x2), some (.int x3), some (.int x4), some (.int x5), some (.int x6), some (.int x7), none, some (.int 1), some (.int (ah_i h 115 (Int32.toNatClampNeg x11))), some (.int (x11 + 1))] [] h) ∧ (¬ (ah_i h 115 (Int32.toNatClampNeg x11)) = x10 → (vp_in x11 (ah_n h 115)) ∧ (Mt mX12_hasWay [.ref 82, .int x10, .int (ah_i h 115 (Int32.toNatClampNeg x11))] h (ab_qi fun v33 h31 => Sh h31 ∧ ((v33 = 0 → (vp_in x11 (ah_n h31 115)) ∧ Wp mX12_worst Q 0 0 147 [some (.ref 82), some (.int x1), some (.int x2), some (.int x3), some (.int x4), some (.int x5), some (.int x6), some (.int x7), none, some (.int 0), some (.int (ah_i h31 115 (Int32.toNatClampNeg x11))), some (.int (x11 + 1))] [] h31) ∧ (¬ v33 = 0 → (vp_in x11 (ah_n h31 115)) ∧ Wp mX12_worst Q 0 0 147 [some (.ref 82), some (.int x1), some (.int x2), some (.int x3), some (.int x4), some (.int x5), some (.int x6), some (.int x7), none, some (.int 1), some (.int (ah_i h31 115 (Int32.toNatClampNeg x11))), some (.int (x11 + 1))] [] h31))))))))))) : Wp mX12_worst Q 0 0 147 [some (.ref 82), some (.int x1), some (.int x2), some (.int x3), some (.int x4), some (.int x5), some (.int x6), some (.int x7), none, some (.int x9), some (.int x10), some (.int x11)] [] h := by
  refine ab_iload (i := 11) dX12_worst_147 rfl ?_
  refine ab_iload (i := 4) dX12_worst_149 rfl ?_
  refine ab_icmp_ge (tgt := 209) dX12_worst_151 (by decide) (fun c20 => ?_) (fun c20 => ?_)
  · have ht := ht.1 c20
    refine ab_iload (i := 9) dX12_worst_209 rfl ?_
    refine ab_if_eq (tgt := 223) dX12_worst_211 (by decide) (fun c21 => ?_) (fun c21 => ?_)
    · have ht := ht.1 c21
      refine ab_iinc (i := 7) (x := x7) (v := (x7 + 1)) (L' := [some (.ref 82), some (.int x1), some (.int x2), some (.int x3), some (.int x4), some (.int x5), some (.int x6), some (.int (x7 + 1)), none, some (.int x9), some (.int x10), some (.int x11)]) dX12_worst_223 rfl rfl (by exact (Nat.le_of_ble_eq_true rfl)) rfl rfl ?_
      refine ab_goto (tgt := 91) dX12_worst_226 (by decide) ?_
      exact Wp.fewer (L' := [some (.ref 82), some (.int x1), some (.int x2), some (.int x3), some (.int x4), some (.int x5), some (.int x6), some (.int (x7 + 1)), none, none, none, none]) (show ab_leL _ _ from ⟨rfl, ⟨rfl, ⟨rfl, ⟨rfl, ⟨rfl, ⟨rfl, ⟨rfl, ⟨rfl, trivial⟩⟩⟩⟩⟩⟩⟩⟩) ht
    · have ht := ht.2 c21
      refine ab_aload_n (i := 0) dX12_worst_214 rfl rfl ?_
      refine ab_iload_n (i := 1) dX12_worst_215 rfl rfl ?_
      refine ab_iload_n (i := 2) dX12_worst_216 rfl rfl ?_
      refine ab_iload_n (i := 3) dX12_worst_217 rfl rfl ?_
      refine ab_iload (i := 4) dX12_worst_218 rfl ?_
      refine ab_callV (b := 82) (As := [.int x1, .int x2, .int x3, .int x4]) ht (Y_X12_triesGo) l_X12_461 in_X12_triesGo se_X12_triesGo (sh_k hs 82 12 (by decide) rfl) (by decide) rfl rfl ⟨(Nat.le_of_ble_eq_true rfl), (Nat.le_of_ble_eq_true rfl), (Nat.le_of_ble_eq_true rfl), (Nat.le_of_ble_eq_true rfl)⟩ dX12_worst_220 ?_
      rintro _ h22 ⟨rfl, hs23, ht⟩
      refine ab_iinc (i := 7) (x := x7) (v := (x7 + 1)) (L' := [some (.ref 82), some (.int x1), some (.int x2), some (.int x3), some (.int x4), some (.int x5), some (.int x6), some (.int (x7 + 1)), none, some (.int x9), some (.int x10), some (.int x11)]) dX12_worst_223 rfl rfl (by exact (Nat.le_of_ble_eq_true rfl)) rfl rfl ?_
      refine ab_goto (tgt := 91) dX12_worst_226 (by decide) ?_
      exact Wp.fewer (L' := [some (.ref 82), some (.int x1), some (.int x2), some (.int x3), some (.int x4), some (.int x5), some (.int x6), some (.int (x7 + 1)), none, none, none, none]) (show ab_leL _ _ from ⟨rfl, ⟨rfl, ⟨rfl, ⟨rfl, ⟨rfl, ⟨rfl, ⟨rfl, ⟨rfl, trivial⟩⟩⟩⟩⟩⟩⟩⟩) ht
  · have ht := ht.2 c20
    refine ab_iload (i := 9) dX12_worst_154 rfl ?_
    refine ab_if_eq (tgt := 191) dX12_worst_156 (by decide) (fun c25 => ?_) (fun c25 => ?_)
    · have ht := ht.1 c25
      refine ab_iconst (v := 0) dX12_worst_191 (by decide) ?_
      refine ab_istore (i := 9) (L' := [some (.ref 82), some (.int x1), some (.int x2), some (.int x3), some (.int x4), some (.int x5), some (.int x6), some (.int x7), none, some (.int 0), some (.int x10), some (.int x11)]) dX12_worst_192 (by exact (Nat.le_of_ble_eq_true rfl)) rfl rfl ?_
      refine ab_aload_n (i := 0) dX12_worst_194 rfl rfl ?_
      refine ab_getR (b := 115) f_X12_125 rfl (sh_k hs 82 12 (by decide) rfl) (sh_r hs 131 rfl) dX12_worst_195 ?_
      refine ab_iload (i := 11) dX12_worst_198 rfl ?_
      obtain ⟨hc26, ht⟩ := ht
      refine ab_iald (sh_k hs 115 14 (by decide) rfl) hc26 dX12_worst_200 ?_
      refine ab_istore (i := 10) (L' := [some (.ref 82), some (.int x1), some (.int x2), some (.int x3), some (.int x4), some (.int x5), some (.int x6), some (.int x7), none, some (.int 0), some (.int (ah_i h 115 (Int32.toNatClampNeg x11))), some (.int x11)]) dX12_worst_201 (by exact (Nat.le_of_ble_eq_true rfl)) rfl rfl ?_
      refine ab_iinc (i := 11) (x := x11) (v := (x11 + 1)) (L' := [some (.ref 82), some (.int x1), some (.int x2), some (.int x3), some (.int x4), some (.int x5), some (.int x6), some (.int x7), none, some (.int 0), some (.int (ah_i h 115 (Int32.toNatClampNeg x11))), some (.int (x11 + 1))]) dX12_worst_203 rfl rfl (by exact (Nat.le_of_ble_eq_true rfl)) rfl rfl ?_
      refine ab_goto (tgt := 147) dX12_worst_206 (by decide) ?_
      exact Wp.fewer (L' := [some (.ref 82), some (.int x1), some (.int x2), some (.int x3), some (.int x4), some (.int x5), some (.int x6), some (.int x7), none, some (.int 0), some (.int (ah_i h 115 (Int32.toNatClampNeg x11))), some (.int (x11 + 1))]) (show ab_leL _ _ from ⟨rfl, ⟨rfl, ⟨rfl, ⟨rfl, ⟨rfl, ⟨rfl, ⟨rfl, ⟨rfl, ⟨rfl, ⟨rfl, ⟨rfl, trivial⟩⟩⟩⟩⟩⟩⟩⟩⟩⟩⟩) ht
    · have ht := ht.2 c25
      refine ab_aload_n (i := 0) dX12_worst_159 rfl rfl ?_
      refine ab_getR (b := 115) f_X12_125 rfl (sh_k hs 82 12 (by decide) rfl) (sh_r hs 131 rfl) dX12_worst_160 ?_
      refine ab_iload (i := 11) dX12_worst_163 rfl ?_
      obtain ⟨hc27, ht⟩ := ht
      refine ab_iald (sh_k hs 115 14 (by decide) rfl) hc27 dX12_worst_165 ?_
      refine ab_iload (i := 10) dX12_worst_166 rfl ?_
      refine ab_icmp_eq (tgt := 187) dX12_worst_168 (by decide) (fun c28 => ?_) (fun c28 => ?_)
      · have ht := ht.1 c28
        refine ab_iconst (v := 1) dX12_worst_187 (by decide) ?_
        refine ab_goto (tgt := 192) dX12_worst_188 (by decide) ?_
        refine ab_istore (i := 9) (L' := [some (.ref 82), some (.int x1), some (.int x2), some (.int x3), some (.int x4), some (.int x5), some (.int x6), some (.int x7), none, some (.int 1), some (.int x10), some (.int x11)]) dX12_worst_192 (by exact (Nat.le_of_ble_eq_true rfl)) rfl rfl ?_
        refine ab_aload_n (i := 0) dX12_worst_194 rfl rfl ?_
        refine ab_getR (b := 115) f_X12_125 rfl (sh_k hs 82 12 (by decide) rfl) (sh_r hs 131 rfl) dX12_worst_195 ?_
        refine ab_iload (i := 11) dX12_worst_198 rfl ?_
        obtain ⟨hc29, ht⟩ := ht
        refine ab_iald (sh_k hs 115 14 (by decide) rfl) hc29 dX12_worst_200 ?_
        refine ab_istore (i := 10) (L' := [some (.ref 82), some (.int x1), some (.int x2), some (.int x3), some (.int x4), some (.int x5), some (.int x6), some (.int x7), none, some (.int 1), some (.int (ah_i h 115 (Int32.toNatClampNeg x11))), some (.int x11)]) dX12_worst_201 (by exact (Nat.le_of_ble_eq_true rfl)) rfl rfl ?_
        refine ab_iinc (i := 11) (x := x11) (v := (x11 + 1)) (L' := [some (.ref 82), some (.int x1), some (.int x2), some (.int x3), some (.int x4), some (.int x5), some (.int x6), some (.int x7), none, some (.int 1), some (.int (ah_i h 115 (Int32.toNatClampNeg x11))), some (.int (x11 + 1))]) dX12_worst_203 rfl rfl (by exact (Nat.le_of_ble_eq_true rfl)) rfl rfl ?_
        refine ab_goto (tgt := 147) dX12_worst_206 (by decide) ?_
        exact Wp.fewer (L' := [some (.ref 82), some (.int x1), some (.int x2), some (.int x3), some (.int x4), some (.int x5), some (.int x6), some (.int x7), none, some (.int 1), some (.int (ah_i h 115 (Int32.toNatClampNeg x11))), some (.int (x11 + 1))]) (show ab_leL _ _ from ⟨rfl, ⟨rfl, ⟨rfl, ⟨rfl, ⟨rfl, ⟨rfl, ⟨rfl, ⟨rfl, ⟨rfl, ⟨rfl, ⟨rfl, trivial⟩⟩⟩⟩⟩⟩⟩⟩⟩⟩⟩) ht
      · have ht := ht.2 c28
        refine ab_aload_n (i := 0) dX12_worst_171 rfl rfl ?_
        refine ab_iload (i := 10) dX12_worst_172 rfl ?_
        refine ab_aload_n (i := 0) dX12_worst_174 rfl rfl ?_
        refine ab_getR (b := 115) f_X12_125 rfl (sh_k hs 82 12 (by decide) rfl) (sh_r hs 131 rfl) dX12_worst_175 ?_
        refine ab_iload (i := 11) dX12_worst_178 rfl ?_
        obtain ⟨hc30, ht⟩ := ht
        refine ab_iald (sh_k hs 115 14 (by decide) rfl) hc30 dX12_worst_180 ?_
        refine ab_callV (b := 82) (As := [.int x10, .int (ah_i h 115 (Int32.toNatClampNeg x11))]) ht (Y_X12_hasWay) l_X12_178 in_X12_hasWay se_X12_hasWay (sh_k hs 82 12 (by decide) rfl) (by decide) rfl rfl ⟨(Nat.le_of_ble_eq_true rfl), (Nat.le_of_ble_eq_true rfl), (Nat.le_of_ble_eq_true rfl), (Nat.le_of_ble_eq_true rfl)⟩ dX12_worst_181 ?_
        rintro _ h31 ⟨v33, rfl, hs32, ht⟩
        refine ab_if_eq (tgt := 191) dX12_worst_184 (by decide) (fun c34 => ?_) (fun c34 => ?_)
        · have ht := ht.1 c34
          refine ab_iconst (v := 0) dX12_worst_191 (by decide) ?_
          refine ab_istore (i := 9) (L' := [some (.ref 82), some (.int x1), some (.int x2), some (.int x3), some (.int x4), some (.int x5), some (.int x6), some (.int x7), none, some (.int 0), some (.int x10), some (.int x11)]) dX12_worst_192 (by exact (Nat.le_of_ble_eq_true rfl)) rfl rfl ?_
          refine ab_aload_n (i := 0) dX12_worst_194 rfl rfl ?_
          refine ab_getR (b := 115) f_X12_125 rfl (sh_k hs32 82 12 (by decide) rfl) (sh_r hs32 131 rfl) dX12_worst_195 ?_
          refine ab_iload (i := 11) dX12_worst_198 rfl ?_
          obtain ⟨hc35, ht⟩ := ht
          refine ab_iald (sh_k hs32 115 14 (by decide) rfl) hc35 dX12_worst_200 ?_
          refine ab_istore (i := 10) (L' := [some (.ref 82), some (.int x1), some (.int x2), some (.int x3), some (.int x4), some (.int x5), some (.int x6), some (.int x7), none, some (.int 0), some (.int (ah_i h31 115 (Int32.toNatClampNeg x11))), some (.int x11)]) dX12_worst_201 (by exact (Nat.le_of_ble_eq_true rfl)) rfl rfl ?_
          refine ab_iinc (i := 11) (x := x11) (v := (x11 + 1)) (L' := [some (.ref 82), some (.int x1), some (.int x2), some (.int x3), some (.int x4), some (.int x5), some (.int x6), some (.int x7), none, some (.int 0), some (.int (ah_i h31 115 (Int32.toNatClampNeg x11))), some (.int (x11 + 1))]) dX12_worst_203 rfl rfl (by exact (Nat.le_of_ble_eq_true rfl)) rfl rfl ?_
          refine ab_goto (tgt := 147) dX12_worst_206 (by decide) ?_
          exact Wp.fewer (L' := [some (.ref 82), some (.int x1), some (.int x2), some (.int x3), some (.int x4), some (.int x5), some (.int x6), some (.int x7), none, some (.int 0), some (.int (ah_i h31 115 (Int32.toNatClampNeg x11))), some (.int (x11 + 1))]) (show ab_leL _ _ from ⟨rfl, ⟨rfl, ⟨rfl, ⟨rfl, ⟨rfl, ⟨rfl, ⟨rfl, ⟨rfl, ⟨rfl, ⟨rfl, ⟨rfl, trivial⟩⟩⟩⟩⟩⟩⟩⟩⟩⟩⟩) ht
        · have ht := ht.2 c34
          refine ab_iconst (v := 1) dX12_worst_187 (by decide) ?_
          refine ab_goto (tgt := 192) dX12_worst_188 (by decide) ?_
          refine ab_istore (i := 9) (L' := [some (.ref 82), some (.int x1), some (.int x2), some (.int x3), some (.int x4), some (.int x5), some (.int x6), some (.int x7), none, some (.int 1), some (.int x10), some (.int x11)]) dX12_worst_192 (by exact (Nat.le_of_ble_eq_true rfl)) rfl rfl ?_
          refine ab_aload_n (i := 0) dX12_worst_194 rfl rfl ?_
          refine ab_getR (b := 115) f_X12_125 rfl (sh_k hs32 82 12 (by decide) rfl) (sh_r hs32 131 rfl) dX12_worst_195 ?_
          refine ab_iload (i := 11) dX12_worst_198 rfl ?_
          obtain ⟨hc36, ht⟩ := ht
          refine ab_iald (sh_k hs32 115 14 (by decide) rfl) hc36 dX12_worst_200 ?_
          refine ab_istore (i := 10) (L' := [some (.ref 82), some (.int x1), some (.int x2), some (.int x3), some (.int x4), some (.int x5), some (.int x6), some (.int x7), none, some (.int 1), some (.int (ah_i h31 115 (Int32.toNatClampNeg x11))), some (.int x11)]) dX12_worst_201 (by exact (Nat.le_of_ble_eq_true rfl)) rfl rfl ?_
          refine ab_iinc (i := 11) (x := x11) (v := (x11 + 1)) (L' := [some (.ref 82), some (.int x1), some (.int x2), some (.int x3), some (.int x4), some (.int x5), some (.int x6), some (.int x7), none, some (.int 1), some (.int (ah_i h31 115 (Int32.toNatClampNeg x11))), some (.int (x11 + 1))]) dX12_worst_203 rfl rfl (by exact (Nat.le_of_ble_eq_true rfl)) rfl rfl ?_
          refine ab_goto (tgt := 147) dX12_worst_206 (by decide) ?_
          exact Wp.fewer (L' := [some (.ref 82), some (.int x1), some (.int x2), some (.int x3), some (.int x4), some (.int x5), some (.int x6), some (.int x7), none, some (.int 1), some (.int (ah_i h31 115 (Int32.toNatClampNeg x11))), some (.int (x11 + 1))]) (show ab_leL _ _ from ⟨rfl, ⟨rfl, ⟨rfl, ⟨rfl, ⟨rfl, ⟨rfl, ⟨rfl, ⟨rfl, ⟨rfl, ⟨rfl, ⟨rfl, trivial⟩⟩⟩⟩⟩⟩⟩⟩⟩⟩⟩) ht
set_option maxRecDepth 20000 in
theorem T_X12_worst {Q : Option Value → ah_T → Prop} {h : ah_T} (hs : Sh h) (x1 : Int32) (x2 : Int32) (x3 : Int32) (x4 : Int32) (x5 : Int32) (ht : (((f_X12_isKind x1) = 0 → Q (some (.int (-1))) h) ∧ (¬ (f_X12_isKind x1) = 0 → (((f_X12_isMinute x2) = 0 → Q (some (.int (-1))) h) ∧ (¬ (f_X12_isMinute x2) = 0 → (((f_X12_isCorner x3) = 0 → Q (some (.int (-1))) h) ∧ (¬ (f_X12_isCorner x3) = 0 → (((f_X12_lies x4 0 3) = 0 → Q (some (.int (-1))) h) ∧ (¬ (f_X12_lies x4 0 3) = 0 → ((¬ (f_X12_lies x5 (-1) (x4 - 1)) = 0 → (∀ h6, h6 = ah_si h 82 55 (-1) → ((¬ x4 = 0 → ((¬ x4 = 1 → ((¬ x4 = 2 → Wp mX12_worst Q 0 0 91 [some (.ref 82), some (.int x1), some (.int x2), some (.int x3), some (.int x4), some (.int x5), some (.int 1728), some (.int 0), none, none, none, none] [] h6) ∧ (x4 = 2 → Wp mX12_worst Q 0 0 91 [some (.ref 82), some (.int x1), some (.int x2), some (.int x3), some (.int x4), some (.int x5), some (.int 144), some (.int 0), none, none, none, none] [] h6))) ∧ (x4 = 1 → Wp mX12_worst Q 0 0 91 [some (.ref 82), some (.int x1), some (.int x2), some (.int x3), some (.int x4), some (.int x5), some (.int 12), some (.int 0), none, none, none, none] [] h6))) ∧ (x4 = 0 → Wp mX12_worst Q 0 0 91 [some (.ref 82), some (.int x1), some (.int x2), some (.int x3), some (.int x4), some (.int x5), some (.int 1), some (.int 0), none, none, none, none] [] h6)))) ∧ ((f_X12_lies x5 (-1) (x4 - 1)) = 0 → Q (some (.int (-1))) h))))))))))) : Mt mX12_worst [.ref 82, .int x1, .int x2, .int x3, .int x4, .int x5] h Q := by
  refine Mt.ofWp rfl (by exact (Nat.le_of_ble_eq_true rfl)) (Wp.fewer (L' := [some (.ref 82), some (.int x1), some (.int x2), some (.int x3), some (.int x4), some (.int x5), none, none, none, none, none, none]) (show ab_leL _ _ from ⟨rfl, ⟨rfl, ⟨rfl, ⟨rfl, ⟨rfl, ⟨rfl, trivial⟩⟩⟩⟩⟩⟩) ?_)
  refine ab_iload_n (i := 1) dX12_worst_0 rfl rfl ?_
  refine ab_callS (Q' := fun r h' => r = some (.int (f_X12_isKind x1)) ∧ h = h') (As := [.int x1]) (c_X12_isKind hs x1 ⟨rfl, rfl⟩) (Y_X12_isKind) l_X12_192 st_X12_isKind rfl ⟨(Nat.le_of_ble_eq_true rfl), (Nat.le_of_ble_eq_true rfl), (Nat.le_of_ble_eq_true rfl), (Nat.le_of_ble_eq_true rfl)⟩ dX12_worst_1 ?_
  rintro _ _ ⟨rfl, rfl⟩
  refine ab_if_eq (tgt := 44) dX12_worst_4 (by decide) (fun c1 => ?_) (fun c1 => ?_)
  · have ht := ht.1 c1
    refine ab_iconst (v := (-1)) dX12_worst_44 (by decide) ?_
    exact ab_iret rfl dX12_worst_45 (Nat.le_of_ble_eq_true rfl) (Nat.le_of_ble_eq_true rfl) ht
  · have ht := ht.2 c1
    refine ab_iload_n (i := 2) dX12_worst_7 rfl rfl ?_
    refine ab_callS (Q' := fun r h' => r = some (.int (f_X12_isMinute x2)) ∧ h = h') (As := [.int x2]) (c_X12_isMinute hs x2 ⟨rfl, rfl⟩) (Y_X12_isMinute) l_X12_201 st_X12_isMinute rfl ⟨(Nat.le_of_ble_eq_true rfl), (Nat.le_of_ble_eq_true rfl), (Nat.le_of_ble_eq_true rfl), (Nat.le_of_ble_eq_true rfl)⟩ dX12_worst_8 ?_
    rintro _ _ ⟨rfl, rfl⟩
    refine ab_if_eq (tgt := 44) dX12_worst_11 (by decide) (fun c2 => ?_) (fun c2 => ?_)
    · have ht := ht.1 c2
      refine ab_iconst (v := (-1)) dX12_worst_44 (by decide) ?_
      exact ab_iret rfl dX12_worst_45 (Nat.le_of_ble_eq_true rfl) (Nat.le_of_ble_eq_true rfl) ht
    · have ht := ht.2 c2
      refine ab_iload_n (i := 3) dX12_worst_14 rfl rfl ?_
      refine ab_callS (Q' := fun r h' => r = some (.int (f_X12_isCorner x3)) ∧ h = h') (As := [.int x3]) (c_X12_isCorner hs x3 ⟨rfl, rfl⟩) (Y_X12_isCorner) l_X12_174 st_X12_isCorner rfl ⟨(Nat.le_of_ble_eq_true rfl), (Nat.le_of_ble_eq_true rfl), (Nat.le_of_ble_eq_true rfl), (Nat.le_of_ble_eq_true rfl)⟩ dX12_worst_15 ?_
      rintro _ _ ⟨rfl, rfl⟩
      refine ab_if_eq (tgt := 44) dX12_worst_18 (by decide) (fun c3 => ?_) (fun c3 => ?_)
      · have ht := ht.1 c3
        refine ab_iconst (v := (-1)) dX12_worst_44 (by decide) ?_
        exact ab_iret rfl dX12_worst_45 (Nat.le_of_ble_eq_true rfl) (Nat.le_of_ble_eq_true rfl) ht
      · have ht := ht.2 c3
        refine ab_iload (i := 4) dX12_worst_21 rfl ?_
        refine ab_iconst (v := 0) dX12_worst_23 (by decide) ?_
        refine ab_iconst (v := 3) dX12_worst_24 (by decide) ?_
        refine ab_callS (Q' := fun r h' => r = some (.int (f_X12_lies x4 0 3)) ∧ h = h') (As := [.int x4, .int 0, .int 3]) (c_X12_lies hs x4 0 3 ⟨rfl, rfl⟩) (Y_X12_lies) l_X12_156 st_X12_lies rfl ⟨(Nat.le_of_ble_eq_true rfl), (Nat.le_of_ble_eq_true rfl), (Nat.le_of_ble_eq_true rfl), (Nat.le_of_ble_eq_true rfl)⟩ dX12_worst_25 ?_
        rintro _ _ ⟨rfl, rfl⟩
        refine ab_if_eq (tgt := 44) dX12_worst_28 (by decide) (fun c4 => ?_) (fun c4 => ?_)
        · have ht := ht.1 c4
          refine ab_iconst (v := (-1)) dX12_worst_44 (by decide) ?_
          exact ab_iret rfl dX12_worst_45 (Nat.le_of_ble_eq_true rfl) (Nat.le_of_ble_eq_true rfl) ht
        · have ht := ht.2 c4
          refine ab_iload (i := 5) dX12_worst_31 rfl ?_
          refine ab_iconst (v := (-1)) dX12_worst_33 (by decide) ?_
          refine ab_iload (i := 4) dX12_worst_34 rfl ?_
          refine ab_iconst (v := 1) dX12_worst_36 (by decide) ?_
          refine ab_isub dX12_worst_37 ?_
          refine ab_callS (Q' := fun r h' => r = some (.int (f_X12_lies x5 (-1) (x4 - 1))) ∧ h = h') (As := [.int x5, .int (-1), .int (x4 - 1)]) (c_X12_lies hs x5 (-1) (x4 - 1) ⟨rfl, rfl⟩) (Y_X12_lies) l_X12_156 st_X12_lies rfl ⟨(Nat.le_of_ble_eq_true rfl), (Nat.le_of_ble_eq_true rfl), (Nat.le_of_ble_eq_true rfl), (Nat.le_of_ble_eq_true rfl)⟩ dX12_worst_38 ?_
          rintro _ _ ⟨rfl, rfl⟩
          refine ab_if_ne (tgt := 46) dX12_worst_41 (by decide) (fun c5 => ?_) (fun c5 => ?_)
          · have ht := ht.1 c5
            refine ab_aload_n (i := 0) dX12_worst_46 rfl rfl ?_
            refine ab_iconst (v := (-1)) dX12_worst_47 (by decide) ?_
            refine ab_putI f_X12_458 (Or.inl rfl) rfl (sh_k hs 82 12 (by decide) rfl) rfl rfl dX12_worst_48 ?_
            refine Wp.nm fun h6 e7 => ?_
            have ht := ht h6 e7
            have hs8 : Sh h6 := by rw [e7]; exact sh_si hs
            refine ab_iload (i := 4) dX12_worst_51 rfl ?_
            refine ab_if_ne (tgt := 60) dX12_worst_53 (by decide) (fun c9 => ?_) (fun c9 => ?_)
            · have ht := ht.1 c9
              refine ab_iload (i := 4) dX12_worst_60 rfl ?_
              refine ab_iconst (v := 1) dX12_worst_62 (by decide) ?_
              refine ab_icmp_ne (tgt := 71) dX12_worst_63 (by decide) (fun c10 => ?_) (fun c10 => ?_)
              · have ht := ht.1 c10
                refine ab_iload (i := 4) dX12_worst_71 rfl ?_
                refine ab_iconst (v := 2) dX12_worst_73 (by decide) ?_
                refine ab_icmp_ne (tgt := 83) dX12_worst_74 (by decide) (fun c11 => ?_) (fun c11 => ?_)
                · have ht := ht.1 c11
                  refine ab_sipush (v := 1728) dX12_worst_83 (by decide) ?_
                  refine ab_istore (i := 6) (L' := [some (.ref 82), some (.int x1), some (.int x2), some (.int x3), some (.int x4), some (.int x5), some (.int 1728), none, none, none, none, none]) dX12_worst_86 (by exact (Nat.le_of_ble_eq_true rfl)) rfl rfl ?_
                  refine ab_iconst (v := 0) dX12_worst_88 (by decide) ?_
                  refine ab_istore (i := 7) (L' := [some (.ref 82), some (.int x1), some (.int x2), some (.int x3), some (.int x4), some (.int x5), some (.int 1728), some (.int 0), none, none, none, none]) dX12_worst_89 (by exact (Nat.le_of_ble_eq_true rfl)) rfl rfl ?_
                  exact Wp.fewer (L' := [some (.ref 82), some (.int x1), some (.int x2), some (.int x3), some (.int x4), some (.int x5), some (.int 1728), some (.int 0), none, none, none, none]) (show ab_leL _ _ from ⟨rfl, ⟨rfl, ⟨rfl, ⟨rfl, ⟨rfl, ⟨rfl, ⟨rfl, ⟨rfl, trivial⟩⟩⟩⟩⟩⟩⟩⟩) ht
                · have ht := ht.2 c11
                  refine ab_sipush (v := 144) dX12_worst_77 (by decide) ?_
                  refine ab_goto (tgt := 86) dX12_worst_80 (by decide) ?_
                  refine ab_istore (i := 6) (L' := [some (.ref 82), some (.int x1), some (.int x2), some (.int x3), some (.int x4), some (.int x5), some (.int 144), none, none, none, none, none]) dX12_worst_86 (by exact (Nat.le_of_ble_eq_true rfl)) rfl rfl ?_
                  refine ab_iconst (v := 0) dX12_worst_88 (by decide) ?_
                  refine ab_istore (i := 7) (L' := [some (.ref 82), some (.int x1), some (.int x2), some (.int x3), some (.int x4), some (.int x5), some (.int 144), some (.int 0), none, none, none, none]) dX12_worst_89 (by exact (Nat.le_of_ble_eq_true rfl)) rfl rfl ?_
                  exact Wp.fewer (L' := [some (.ref 82), some (.int x1), some (.int x2), some (.int x3), some (.int x4), some (.int x5), some (.int 144), some (.int 0), none, none, none, none]) (show ab_leL _ _ from ⟨rfl, ⟨rfl, ⟨rfl, ⟨rfl, ⟨rfl, ⟨rfl, ⟨rfl, ⟨rfl, trivial⟩⟩⟩⟩⟩⟩⟩⟩) ht
              · have ht := ht.2 c10
                refine ab_bipush (v := 12) dX12_worst_66 (by decide) ?_
                refine ab_goto (tgt := 86) dX12_worst_68 (by decide) ?_
                refine ab_istore (i := 6) (L' := [some (.ref 82), some (.int x1), some (.int x2), some (.int x3), some (.int x4), some (.int x5), some (.int 12), none, none, none, none, none]) dX12_worst_86 (by exact (Nat.le_of_ble_eq_true rfl)) rfl rfl ?_
                refine ab_iconst (v := 0) dX12_worst_88 (by decide) ?_
                refine ab_istore (i := 7) (L' := [some (.ref 82), some (.int x1), some (.int x2), some (.int x3), some (.int x4), some (.int x5), some (.int 12), some (.int 0), none, none, none, none]) dX12_worst_89 (by exact (Nat.le_of_ble_eq_true rfl)) rfl rfl ?_
                exact Wp.fewer (L' := [some (.ref 82), some (.int x1), some (.int x2), some (.int x3), some (.int x4), some (.int x5), some (.int 12), some (.int 0), none, none, none, none]) (show ab_leL _ _ from ⟨rfl, ⟨rfl, ⟨rfl, ⟨rfl, ⟨rfl, ⟨rfl, ⟨rfl, ⟨rfl, trivial⟩⟩⟩⟩⟩⟩⟩⟩) ht
            · have ht := ht.2 c9
              refine ab_iconst (v := 1) dX12_worst_56 (by decide) ?_
              refine ab_goto (tgt := 86) dX12_worst_57 (by decide) ?_
              refine ab_istore (i := 6) (L' := [some (.ref 82), some (.int x1), some (.int x2), some (.int x3), some (.int x4), some (.int x5), some (.int 1), none, none, none, none, none]) dX12_worst_86 (by exact (Nat.le_of_ble_eq_true rfl)) rfl rfl ?_
              refine ab_iconst (v := 0) dX12_worst_88 (by decide) ?_
              refine ab_istore (i := 7) (L' := [some (.ref 82), some (.int x1), some (.int x2), some (.int x3), some (.int x4), some (.int x5), some (.int 1), some (.int 0), none, none, none, none]) dX12_worst_89 (by exact (Nat.le_of_ble_eq_true rfl)) rfl rfl ?_
              exact Wp.fewer (L' := [some (.ref 82), some (.int x1), some (.int x2), some (.int x3), some (.int x4), some (.int x5), some (.int 1), some (.int 0), none, none, none, none]) (show ab_leL _ _ from ⟨rfl, ⟨rfl, ⟨rfl, ⟨rfl, ⟨rfl, ⟨rfl, ⟨rfl, ⟨rfl, trivial⟩⟩⟩⟩⟩⟩⟩⟩) ht
          · have ht := ht.2 c5
            refine ab_iconst (v := (-1)) dX12_worst_44 (by decide) ?_
            exact ab_iret rfl dX12_worst_45 (Nat.le_of_ble_eq_true rfl) (Nat.le_of_ble_eq_true rfl) ht
theorem dX12_hangs_0 : decode cX12_hangs 0 = .ok (.iconst 0, 1) := by decide +kernel
theorem dX12_hangs_1 : decode cX12_hangs 1 = .ok (.istore 4, 2) := by decide +kernel
theorem dX12_hangs_3 : decode cX12_hangs 3 = .ok (.iconst 0, 1) := by decide +kernel
theorem dX12_hangs_4 : decode cX12_hangs 4 = .ok (.istore 5, 2) := by decide +kernel
theorem dX12_hangs_6 : decode cX12_hangs 6 = .ok (.iload 5, 2) := by decide +kernel
theorem dX12_hangs_8 : decode cX12_hangs 8 = .ok (.iload_n 1, 1) := by decide +kernel
theorem dX12_hangs_9 : decode cX12_hangs 9 = .ok (.if_icmp .ge 166, 3) := by decide +kernel
theorem dX12_hangs_12 : decode cX12_hangs 12 = .ok (.aload_n 0, 1) := by decide +kernel
theorem dX12_hangs_13 : decode cX12_hangs 13 = .ok (.getfield 134, 3) := by decide +kernel
theorem dX12_hangs_16 : decode cX12_hangs 16 = .ok (.iload 5, 2) := by decide +kernel
theorem dX12_hangs_18 : decode cX12_hangs 18 = .ok (.iaload, 1) := by decide +kernel
theorem dX12_hangs_19 : decode cX12_hangs 19 = .ok (.bipush 100, 2) := by decide +kernel
theorem dX12_hangs_21 : decode cX12_hangs 21 = .ok (.if_icmp .ne 6, 3) := by decide +kernel
theorem dX12_hangs_24 : decode cX12_hangs 24 = .ok (.goto 145, 3) := by decide +kernel
theorem dX12_hangs_27 : decode cX12_hangs 27 = .ok (.iconst 0, 1) := by decide +kernel
theorem dX12_hangs_28 : decode cX12_hangs 28 = .ok (.istore 6, 2) := by decide +kernel
theorem dX12_hangs_30 : decode cX12_hangs 30 = .ok (.iload 6, 2) := by decide +kernel
theorem dX12_hangs_32 : decode cX12_hangs 32 = .ok (.iload_n 1, 1) := by decide +kernel
theorem dX12_hangs_33 : decode cX12_hangs 33 = .ok (.if_icmp .ge 81, 3) := by decide +kernel
theorem dX12_hangs_36 : decode cX12_hangs 36 = .ok (.iload 6, 2) := by decide +kernel
theorem dX12_hangs_38 : decode cX12_hangs 38 = .ok (.iload 5, 2) := by decide +kernel
theorem dX12_hangs_40 : decode cX12_hangs 40 = .ok (.if_icmp .eq 68, 3) := by decide +kernel
theorem dX12_hangs_43 : decode cX12_hangs 43 = .ok (.aload_n 0, 1) := by decide +kernel
theorem dX12_hangs_44 : decode cX12_hangs 44 = .ok (.getfield 134, 3) := by decide +kernel
theorem dX12_hangs_47 : decode cX12_hangs 47 = .ok (.iload 6, 2) := by decide +kernel
theorem dX12_hangs_49 : decode cX12_hangs 49 = .ok (.iaload, 1) := by decide +kernel
theorem dX12_hangs_50 : decode cX12_hangs 50 = .ok (.bipush 100, 2) := by decide +kernel
theorem dX12_hangs_52 : decode cX12_hangs 52 = .ok (.if_icmp .ne 6, 3) := by decide +kernel
theorem dX12_hangs_55 : decode cX12_hangs 55 = .ok (.goto 53, 3) := by decide +kernel
theorem dX12_hangs_58 : decode cX12_hangs 58 = .ok (.aload_n 0, 1) := by decide +kernel
theorem dX12_hangs_59 : decode cX12_hangs 59 = .ok (.iload 5, 2) := by decide +kernel
theorem dX12_hangs_61 : decode cX12_hangs 61 = .ok (.aload_n 0, 1) := by decide +kernel
theorem dX12_hangs_62 : decode cX12_hangs 62 = .ok (.getfield 134, 3) := by decide +kernel
theorem dX12_hangs_65 : decode cX12_hangs 65 = .ok (.iload 5, 2) := by decide +kernel
theorem dX12_hangs_67 : decode cX12_hangs 67 = .ok (.iaload, 1) := by decide +kernel
theorem dX12_hangs_68 : decode cX12_hangs 68 = .ok (.aload_n 0, 1) := by decide +kernel
theorem dX12_hangs_69 : decode cX12_hangs 69 = .ok (.getfield 134, 3) := by decide +kernel
theorem dX12_hangs_72 : decode cX12_hangs 72 = .ok (.iload 6, 2) := by decide +kernel
theorem dX12_hangs_74 : decode cX12_hangs 74 = .ok (.iaload, 1) := by decide +kernel
theorem dX12_hangs_75 : decode cX12_hangs 75 = .ok (.aload_n 0, 1) := by decide +kernel
theorem dX12_hangs_76 : decode cX12_hangs 76 = .ok (.getfield 74, 3) := by decide +kernel
theorem dX12_hangs_79 : decode cX12_hangs 79 = .ok (.bipush 12, 2) := by decide +kernel
theorem dX12_hangs_81 : decode cX12_hangs 81 = .ok (.aload_n 0, 1) := by decide +kernel
theorem dX12_hangs_82 : decode cX12_hangs 82 = .ok (.getfield 131, 3) := by decide +kernel
theorem dX12_hangs_85 : decode cX12_hangs 85 = .ok (.iload 5, 2) := by decide +kernel
theorem dX12_hangs_87 : decode cX12_hangs 87 = .ok (.iaload, 1) := by decide +kernel
theorem dX12_hangs_88 : decode cX12_hangs 88 = .ok (.imul, 1) := by decide +kernel
theorem dX12_hangs_89 : decode cX12_hangs 89 = .ok (.aload_n 0, 1) := by decide +kernel
theorem dX12_hangs_90 : decode cX12_hangs 90 = .ok (.getfield 131, 3) := by decide +kernel
theorem dX12_hangs_93 : decode cX12_hangs 93 = .ok (.iload 6, 2) := by decide +kernel
theorem dX12_hangs_95 : decode cX12_hangs 95 = .ok (.iaload, 1) := by decide +kernel
theorem dX12_hangs_96 : decode cX12_hangs 96 = .ok (.iadd, 1) := by decide +kernel
theorem dX12_hangs_97 : decode cX12_hangs 97 = .ok (.iaload, 1) := by decide +kernel
theorem dX12_hangs_98 : decode cX12_hangs 98 = .ok (.iconst 0, 1) := by decide +kernel
theorem dX12_hangs_99 : decode cX12_hangs 99 = .ok (.iload_n 3, 1) := by decide +kernel
theorem dX12_hangs_100 : decode cX12_hangs 100 = .ok (.invokevirtual 409, 3) := by decide +kernel
theorem dX12_hangs_103 : decode cX12_hangs 103 = .ok (.ifCond .eq 5, 3) := by decide +kernel
theorem dX12_hangs_106 : decode cX12_hangs 106 = .ok (.iconst 0, 1) := by decide +kernel
theorem dX12_hangs_107 : decode cX12_hangs 107 = .ok (.ireturn, 1) := by decide +kernel
theorem dX12_hangs_108 : decode cX12_hangs 108 = .ok (.iinc 6 1, 3) := by decide +kernel
theorem dX12_hangs_111 : decode cX12_hangs 111 = .ok (.goto (-81), 3) := by decide +kernel
theorem dX12_hangs_114 : decode cX12_hangs 114 = .ok (.iconst 0, 1) := by decide +kernel
theorem dX12_hangs_115 : decode cX12_hangs 115 = .ok (.istore 6, 2) := by decide +kernel
theorem dX12_hangs_117 : decode cX12_hangs 117 = .ok (.iload 6, 2) := by decide +kernel
theorem dX12_hangs_119 : decode cX12_hangs 119 = .ok (.bipush 12, 2) := by decide +kernel
theorem dX12_hangs_121 : decode cX12_hangs 121 = .ok (.if_icmp .ge 48, 3) := by decide +kernel
theorem dX12_hangs_124 : decode cX12_hangs 124 = .ok (.iload 4, 2) := by decide +kernel
theorem dX12_hangs_126 : decode cX12_hangs 126 = .ok (.aload_n 0, 1) := by decide +kernel
theorem dX12_hangs_127 : decode cX12_hangs 127 = .ok (.iload 5, 2) := by decide +kernel
theorem dX12_hangs_129 : decode cX12_hangs 129 = .ok (.aload_n 0, 1) := by decide +kernel
theorem dX12_hangs_130 : decode cX12_hangs 130 = .ok (.getfield 131, 3) := by decide +kernel
theorem dX12_hangs_133 : decode cX12_hangs 133 = .ok (.iload 5, 2) := by decide +kernel
theorem dX12_hangs_135 : decode cX12_hangs 135 = .ok (.iaload, 1) := by decide +kernel
theorem dX12_hangs_136 : decode cX12_hangs 136 = .ok (.aload_n 0, 1) := by decide +kernel
theorem dX12_hangs_137 : decode cX12_hangs 137 = .ok (.getfield 134, 3) := by decide +kernel
theorem dX12_hangs_140 : decode cX12_hangs 140 = .ok (.iload 5, 2) := by decide +kernel
theorem dX12_hangs_142 : decode cX12_hangs 142 = .ok (.iaload, 1) := by decide +kernel
theorem dX12_hangs_143 : decode cX12_hangs 143 = .ok (.iload 6, 2) := by decide +kernel
theorem dX12_hangs_145 : decode cX12_hangs 145 = .ok (.iload_n 3, 1) := by decide +kernel
theorem dX12_hangs_146 : decode cX12_hangs 146 = .ok (.invokevirtual 423, 3) := by decide +kernel
theorem dX12_hangs_149 : decode cX12_hangs 149 = .ok (.ifCond .eq 10, 3) := by decide +kernel
theorem dX12_hangs_152 : decode cX12_hangs 152 = .ok (.iconst 1, 1) := by decide +kernel
theorem dX12_hangs_153 : decode cX12_hangs 153 = .ok (.iload 6, 2) := by decide +kernel
theorem dX12_hangs_155 : decode cX12_hangs 155 = .ok (.ishl, 1) := by decide +kernel
theorem dX12_hangs_156 : decode cX12_hangs 156 = .ok (.goto 4, 3) := by decide +kernel
theorem dX12_hangs_159 : decode cX12_hangs 159 = .ok (.iconst 0, 1) := by decide +kernel
theorem dX12_hangs_160 : decode cX12_hangs 160 = .ok (.ior, 1) := by decide +kernel
theorem dX12_hangs_161 : decode cX12_hangs 161 = .ok (.istore 4, 2) := by decide +kernel
theorem dX12_hangs_163 : decode cX12_hangs 163 = .ok (.iinc 6 1, 3) := by decide +kernel
theorem dX12_hangs_166 : decode cX12_hangs 166 = .ok (.goto (-49), 3) := by decide +kernel
theorem dX12_hangs_169 : decode cX12_hangs 169 = .ok (.iinc 5 1, 3) := by decide +kernel
theorem dX12_hangs_172 : decode cX12_hangs 172 = .ok (.goto (-166), 3) := by decide +kernel
theorem dX12_hangs_175 : decode cX12_hangs 175 = .ok (.iload_n 2, 1) := by decide +kernel
theorem dX12_hangs_176 : decode cX12_hangs 176 = .ok (.iload 4, 2) := by decide +kernel
theorem dX12_hangs_178 : decode cX12_hangs 178 = .ok (.iconst (-1), 1) := by decide +kernel
theorem dX12_hangs_179 : decode cX12_hangs 179 = .ok (.ixor, 1) := by decide +kernel
theorem dX12_hangs_180 : decode cX12_hangs 180 = .ok (.iand, 1) := by decide +kernel
theorem dX12_hangs_181 : decode cX12_hangs 181 = .ok (.ifCond .ne 7, 3) := by decide +kernel
theorem dX12_hangs_184 : decode cX12_hangs 184 = .ok (.iconst 1, 1) := by decide +kernel
theorem dX12_hangs_185 : decode cX12_hangs 185 = .ok (.goto 4, 3) := by decide +kernel
theorem dX12_hangs_188 : decode cX12_hangs 188 = .ok (.iconst 0, 1) := by decide +kernel
theorem dX12_hangs_189 : decode cX12_hangs 189 = .ok (.ireturn, 1) := by decide +kernel
set_option maxRecDepth 20000 in
theorem T_X12_hangs_6 {Q : Option Value → ah_T → Prop} {h : ah_T} (hs : Sh h) (x1 : Int32) (x2 : Int32) (x3 : Int32) (x4 : Int32) (x5 : Int32) (ht : ((x1 ≤ x5 → ((¬ (x2 &&& (x4 ^^^ (-1))) = 0 → Q (some (.int 0)) h) ∧ ((x2 &&& (x4 ^^^ (-1))) = 0 → Q (some (.int 1)) h))) ∧ (¬ x1 ≤ x5 → (vp_in x5 (ah_n h 118)) ∧ ((¬ (ah_i h 118 (Int32.toNatClampNeg x5)) = 100 → Wp mX12_hangs Q 0 0 30 [some (.ref 82), some (.int x1), some (.int x2), some (.int x3), some (.int x4), some (.int x5), some (.int 0)] [] h) ∧ ((ah_i h 118 (Int32.toNatClampNeg x5)) = 100 → Wp mX12_hangs Q 0 0 6 [some (.ref 82), some (.int x1), some (.int x2), some (.int x3), some (.int x4), some (.int (x5 + 1)), none] [] h))))) : Wp mX12_hangs Q 0 0 6 [some (.ref 82), some (.int x1), some (.int x2), some (.int x3), some (.int x4), some (.int x5), none] [] h := by
  refine ab_iload (i := 5) dX12_hangs_6 rfl ?_
  refine ab_iload_n (i := 1) dX12_hangs_8 rfl rfl ?_
  refine ab_icmp_ge (tgt := 175) dX12_hangs_9 (by decide) (fun c1 => ?_) (fun c1 => ?_)
  · have ht := ht.1 c1
    refine ab_iload_n (i := 2) dX12_hangs_175 rfl rfl ?_
    refine ab_iload (i := 4) dX12_hangs_176 rfl ?_
    refine ab_iconst (v := (-1)) dX12_hangs_178 (by decide) ?_
    refine ab_ixor dX12_hangs_179 ?_
    refine ab_iand dX12_hangs_180 ?_
    refine ab_if_ne (tgt := 188) dX12_hangs_181 (by decide) (fun c2 => ?_) (fun c2 => ?_)
    · have ht := ht.1 c2
      refine ab_iconst (v := 0) dX12_hangs_188 (by decide) ?_
      exact ab_zret rfl rfl dX12_hangs_189 (Nat.le_of_ble_eq_true rfl) (Nat.le_of_ble_eq_true rfl) ht
    · have ht := ht.2 c2
      refine ab_iconst (v := 1) dX12_hangs_184 (by decide) ?_
      refine ab_goto (tgt := 189) dX12_hangs_185 (by decide) ?_
      exact ab_zret rfl rfl dX12_hangs_189 (Nat.le_of_ble_eq_true rfl) (Nat.le_of_ble_eq_true rfl) ht
  · have ht := ht.2 c1
    refine ab_aload_n (i := 0) dX12_hangs_12 rfl rfl ?_
    refine ab_getR (b := 118) f_X12_134 rfl (sh_k hs 82 12 (by decide) rfl) (sh_r hs 134 rfl) dX12_hangs_13 ?_
    refine ab_iload (i := 5) dX12_hangs_16 rfl ?_
    obtain ⟨hc3, ht⟩ := ht
    refine ab_iald (sh_k hs 118 14 (by decide) rfl) hc3 dX12_hangs_18 ?_
    refine ab_bipush (v := 100) dX12_hangs_19 (by decide) ?_
    refine ab_icmp_ne (tgt := 27) dX12_hangs_21 (by decide) (fun c4 => ?_) (fun c4 => ?_)
    · have ht := ht.1 c4
      refine ab_iconst (v := 0) dX12_hangs_27 (by decide) ?_
      refine ab_istore (i := 6) (L' := [some (.ref 82), some (.int x1), some (.int x2), some (.int x3), some (.int x4), some (.int x5), some (.int 0)]) dX12_hangs_28 (by exact (Nat.le_of_ble_eq_true rfl)) rfl rfl ?_
      exact Wp.fewer (L' := [some (.ref 82), some (.int x1), some (.int x2), some (.int x3), some (.int x4), some (.int x5), some (.int 0)]) (show ab_leL _ _ from ⟨rfl, ⟨rfl, ⟨rfl, ⟨rfl, ⟨rfl, ⟨rfl, ⟨rfl, trivial⟩⟩⟩⟩⟩⟩⟩) ht
    · have ht := ht.2 c4
      refine ab_goto (tgt := 169) dX12_hangs_24 (by decide) ?_
      refine ab_iinc (i := 5) (x := x5) (v := (x5 + 1)) (L' := [some (.ref 82), some (.int x1), some (.int x2), some (.int x3), some (.int x4), some (.int (x5 + 1)), none]) dX12_hangs_169 rfl rfl (by exact (Nat.le_of_ble_eq_true rfl)) rfl rfl ?_
      refine ab_goto (tgt := 6) dX12_hangs_172 (by decide) ?_
      exact Wp.fewer (L' := [some (.ref 82), some (.int x1), some (.int x2), some (.int x3), some (.int x4), some (.int (x5 + 1)), none]) (show ab_leL _ _ from ⟨rfl, ⟨rfl, ⟨rfl, ⟨rfl, ⟨rfl, ⟨rfl, trivial⟩⟩⟩⟩⟩⟩) ht
set_option maxRecDepth 20000 in
theorem T_X12_hangs_30 {Q : Option Value → ah_T → Prop} {h : ah_T} (hs : Sh h) (x1 : Int32) (x2 : Int32) (x3 : Int32) (x4 : Int32) (x5 : Int32) (x6 : Int32) (ht : ((x1 ≤ x6 → Wp mX12_hangs Q 0 0 117 [some (.ref 82), some (.int x1), some (.int x2), some (.int x3), some (.int x4), some (.int x5), some (.int 0)] [] h) ∧ (¬ x1 ≤ x6 → ((x6 = x5 → Wp mX12_hangs Q 0 0 30 [some (.ref 82), some (.int x1), some (.int x2), some (.int x3), some (.int x4), some (.int x5), some (.int (x6 + 1))] [] h) ∧ (¬ x6 = x5 → (vp_in x6 (ah_n h 118)) ∧ ((¬ (ah_i h 118 (Int32.toNatClampNeg x6)) = 100 → (vp_in x5 (ah_n h 118)) ∧ (vp_in x6 (ah_n h 118)) ∧ (vp_in x5 (ah_n h 117)) ∧ (vp_in x6 (ah_n h 117)) ∧ (vp_in ((12 * (ah_i h 117 (Int32.toNatClampNeg x5))) + (ah_i h 117 (Int32.toNatClampNeg x6))) (ah_n h 99)) ∧ (Mt mX12_doesShun [.ref 82, .int x5, .int (ah_i h 118 (Int32.toNatClampNeg x5)), .int (ah_i h 118 (Int32.toNatClampNeg x6)), .int (ah_i h 99 (Int32.toNatClampNeg ((12 * (ah_i h 117 (Int32.toNatClampNeg x5))) + (ah_i h 117 (Int32.toNatClampNeg x6))))), .int 0, .int x3] h (ab_qi fun v16 h14 => Sh h14 ∧ ((v16 = 0 → Wp mX12_hangs Q 0 0 30 [some (.ref 82), some (.int x1), some (.int x2), some (.int x3), some (.int x4), some (.int x5), some (.int (x6 + 1))] [] h14) ∧ (¬ v16 = 0 → Q (some (.int 0)) h14))))) ∧ ((ah_i h 118 (Int32.toNatClampNeg x6)) = 100 → Wp mX12_hangs Q 0 0 30 [some (.ref 82), some (.int x1), some (.int x2), some (.int x3), some (.int x4), some (.int x5), some (.int (x6 + 1))] [] h))))))) : Wp mX12_hangs Q 0 0 30 [some (.ref 82), some (.int x1), some (.int x2), some (.int x3), some (.int x4), some (.int x5), some (.int x6)] [] h := by
  refine ab_iload (i := 6) dX12_hangs_30 rfl ?_
  refine ab_iload_n (i := 1) dX12_hangs_32 rfl rfl ?_
  refine ab_icmp_ge (tgt := 114) dX12_hangs_33 (by decide) (fun c5 => ?_) (fun c5 => ?_)
  · have ht := ht.1 c5
    refine ab_iconst (v := 0) dX12_hangs_114 (by decide) ?_
    refine ab_istore (i := 6) (L' := [some (.ref 82), some (.int x1), some (.int x2), some (.int x3), some (.int x4), some (.int x5), some (.int 0)]) dX12_hangs_115 (by exact (Nat.le_of_ble_eq_true rfl)) rfl rfl ?_
    exact Wp.fewer (L' := [some (.ref 82), some (.int x1), some (.int x2), some (.int x3), some (.int x4), some (.int x5), some (.int 0)]) (show ab_leL _ _ from ⟨rfl, ⟨rfl, ⟨rfl, ⟨rfl, ⟨rfl, ⟨rfl, ⟨rfl, trivial⟩⟩⟩⟩⟩⟩⟩) ht
  · have ht := ht.2 c5
    refine ab_iload (i := 6) dX12_hangs_36 rfl ?_
    refine ab_iload (i := 5) dX12_hangs_38 rfl ?_
    refine ab_icmp_eq (tgt := 108) dX12_hangs_40 (by decide) (fun c6 => ?_) (fun c6 => ?_)
    · have ht := ht.1 c6
      refine ab_iinc (i := 6) (x := x6) (v := (x6 + 1)) (L' := [some (.ref 82), some (.int x1), some (.int x2), some (.int x3), some (.int x4), some (.int x5), some (.int (x6 + 1))]) dX12_hangs_108 rfl rfl (by exact (Nat.le_of_ble_eq_true rfl)) rfl rfl ?_
      refine ab_goto (tgt := 30) dX12_hangs_111 (by decide) ?_
      exact Wp.fewer (L' := [some (.ref 82), some (.int x1), some (.int x2), some (.int x3), some (.int x4), some (.int x5), some (.int (x6 + 1))]) (show ab_leL _ _ from ⟨rfl, ⟨rfl, ⟨rfl, ⟨rfl, ⟨rfl, ⟨rfl, ⟨rfl, trivial⟩⟩⟩⟩⟩⟩⟩) ht
    · have ht := ht.2 c6
      refine ab_aload_n (i := 0) dX12_hangs_43 rfl rfl ?_
      refine ab_getR (b := 118) f_X12_134 rfl (sh_k hs 82 12 (by decide) rfl) (sh_r hs 134 rfl) dX12_hangs_44 ?_
      refine ab_iload (i := 6) dX12_hangs_47 rfl ?_
      obtain ⟨hc7, ht⟩ := ht
      refine ab_iald (sh_k hs 118 14 (by decide) rfl) hc7 dX12_hangs_49 ?_
      refine ab_bipush (v := 100) dX12_hangs_50 (by decide) ?_
      refine ab_icmp_ne (tgt := 58) dX12_hangs_52 (by decide) (fun c8 => ?_) (fun c8 => ?_)
      · have ht := ht.1 c8
        refine ab_aload_n (i := 0) dX12_hangs_58 rfl rfl ?_
        refine ab_iload (i := 5) dX12_hangs_59 rfl ?_
        refine ab_aload_n (i := 0) dX12_hangs_61 rfl rfl ?_
        refine ab_getR (b := 118) f_X12_134 rfl (sh_k hs 82 12 (by decide) rfl) (sh_r hs 134 rfl) dX12_hangs_62 ?_
        refine ab_iload (i := 5) dX12_hangs_65 rfl ?_
        obtain ⟨hc9, ht⟩ := ht
        refine ab_iald (sh_k hs 118 14 (by decide) rfl) hc9 dX12_hangs_67 ?_
        refine ab_aload_n (i := 0) dX12_hangs_68 rfl rfl ?_
        refine ab_getR (b := 118) f_X12_134 rfl (sh_k hs 82 12 (by decide) rfl) (sh_r hs 134 rfl) dX12_hangs_69 ?_
        refine ab_iload (i := 6) dX12_hangs_72 rfl ?_
        obtain ⟨hc10, ht⟩ := ht
        refine ab_iald (sh_k hs 118 14 (by decide) rfl) hc10 dX12_hangs_74 ?_
        refine ab_aload_n (i := 0) dX12_hangs_75 rfl rfl ?_
        refine ab_getR (b := 99) f_X12_74 rfl (sh_k hs 82 12 (by decide) rfl) (sh_r hs 115 rfl) dX12_hangs_76 ?_
        refine ab_bipush (v := 12) dX12_hangs_79 (by decide) ?_
        refine ab_aload_n (i := 0) dX12_hangs_81 rfl rfl ?_
        refine ab_getR (b := 117) f_X12_131 rfl (sh_k hs 82 12 (by decide) rfl) (sh_r hs 133 rfl) dX12_hangs_82 ?_
        refine ab_iload (i := 5) dX12_hangs_85 rfl ?_
        obtain ⟨hc11, ht⟩ := ht
        refine ab_iald (sh_k hs 117 14 (by decide) rfl) hc11 dX12_hangs_87 ?_
        refine ab_imul dX12_hangs_88 ?_
        refine ab_aload_n (i := 0) dX12_hangs_89 rfl rfl ?_
        refine ab_getR (b := 117) f_X12_131 rfl (sh_k hs 82 12 (by decide) rfl) (sh_r hs 133 rfl) dX12_hangs_90 ?_
        refine ab_iload (i := 6) dX12_hangs_93 rfl ?_
        obtain ⟨hc12, ht⟩ := ht
        refine ab_iald (sh_k hs 117 14 (by decide) rfl) hc12 dX12_hangs_95 ?_
        refine ab_iadd dX12_hangs_96 ?_
        obtain ⟨hc13, ht⟩ := ht
        refine ab_iald (sh_k hs 99 14 (by decide) rfl) hc13 dX12_hangs_97 ?_
        refine ab_iconst (v := 0) dX12_hangs_98 (by decide) ?_
        refine ab_iload_n (i := 3) dX12_hangs_99 rfl rfl ?_
        refine ab_callV (b := 82) (As := [.int x5, .int (ah_i h 118 (Int32.toNatClampNeg x5)), .int (ah_i h 118 (Int32.toNatClampNeg x6)), .int (ah_i h 99 (Int32.toNatClampNeg ((12 * (ah_i h 117 (Int32.toNatClampNeg x5))) + (ah_i h 117 (Int32.toNatClampNeg x6))))), .int 0, .int x3]) ht (Y_X12_doesShun) l_X12_409 in_X12_doesShun se_X12_doesShun (sh_k hs 82 12 (by decide) rfl) (by decide) rfl rfl ⟨(Nat.le_of_ble_eq_true rfl), (Nat.le_of_ble_eq_true rfl), (Nat.le_of_ble_eq_true rfl), (Nat.le_of_ble_eq_true rfl)⟩ dX12_hangs_100 ?_
        rintro _ h14 ⟨v16, rfl, hs15, ht⟩
        refine ab_if_eq (tgt := 108) dX12_hangs_103 (by decide) (fun c17 => ?_) (fun c17 => ?_)
        · have ht := ht.1 c17
          refine ab_iinc (i := 6) (x := x6) (v := (x6 + 1)) (L' := [some (.ref 82), some (.int x1), some (.int x2), some (.int x3), some (.int x4), some (.int x5), some (.int (x6 + 1))]) dX12_hangs_108 rfl rfl (by exact (Nat.le_of_ble_eq_true rfl)) rfl rfl ?_
          refine ab_goto (tgt := 30) dX12_hangs_111 (by decide) ?_
          exact Wp.fewer (L' := [some (.ref 82), some (.int x1), some (.int x2), some (.int x3), some (.int x4), some (.int x5), some (.int (x6 + 1))]) (show ab_leL _ _ from ⟨rfl, ⟨rfl, ⟨rfl, ⟨rfl, ⟨rfl, ⟨rfl, ⟨rfl, trivial⟩⟩⟩⟩⟩⟩⟩) ht
        · have ht := ht.2 c17
          refine ab_iconst (v := 0) dX12_hangs_106 (by decide) ?_
          exact ab_zret rfl rfl dX12_hangs_107 (Nat.le_of_ble_eq_true rfl) (Nat.le_of_ble_eq_true rfl) ht
      · have ht := ht.2 c8
        refine ab_goto (tgt := 108) dX12_hangs_55 (by decide) ?_
        refine ab_iinc (i := 6) (x := x6) (v := (x6 + 1)) (L' := [some (.ref 82), some (.int x1), some (.int x2), some (.int x3), some (.int x4), some (.int x5), some (.int (x6 + 1))]) dX12_hangs_108 rfl rfl (by exact (Nat.le_of_ble_eq_true rfl)) rfl rfl ?_
        refine ab_goto (tgt := 30) dX12_hangs_111 (by decide) ?_
        exact Wp.fewer (L' := [some (.ref 82), some (.int x1), some (.int x2), some (.int x3), some (.int x4), some (.int x5), some (.int (x6 + 1))]) (show ab_leL _ _ from ⟨rfl, ⟨rfl, ⟨rfl, ⟨rfl, ⟨rfl, ⟨rfl, ⟨rfl, trivial⟩⟩⟩⟩⟩⟩⟩) ht
set_option maxRecDepth 20000 in
theorem T_X12_hangs_117 {Q : Option Value → ah_T → Prop} {h : ah_T} (hs : Sh h) (x1 : Int32) (x2 : Int32) (x3 : Int32) (x4 : Int32) (x5 : Int32) (x6 : Int32) (ht : ((12 ≤ x6 → Wp mX12_hangs Q 0 0 6 [some (.ref 82), some (.int x1), some (.int x2), some (.int x3), some (.int x4), some (.int (x5 + 1)), none] [] h) ∧ (¬ 12 ≤ x6 → (vp_in x5 (ah_n h 117)) ∧ (vp_in x5 (ah_n h 118)) ∧ (Mt mX12_isReached [.ref 82, .int x5, .int (ah_i h 117 (Int32.toNatClampNeg x5)), .int (ah_i h 118 (Int32.toNatClampNeg x5)), .int x6, .int x3] h (ab_qi fun v23 h21 => Sh h21 ∧ ((v23 = 0 → Wp mX12_hangs Q 0 0 117 [some (.ref 82), some (.int x1), some (.int x2), some (.int x3), some (.int (x4 ||| 0)), some (.int x5), some (.int (x6 + 1))] [] h21) ∧ (¬ v23 = 0 → Wp mX12_hangs Q 0 0 117 [some (.ref 82), some (.int x1), some (.int x2), some (.int x3), some (.int (x4 ||| ((1 : Int32) <<< (x6 &&& 31)))), some (.int x5), some (.int (x6 + 1))] [] h21))))))) : Wp mX12_hangs Q 0 0 117 [some (.ref 82), some (.int x1), some (.int x2), some (.int x3), some (.int x4), some (.int x5), some (.int x6)] [] h := by
  refine ab_iload (i := 6) dX12_hangs_117 rfl ?_
  refine ab_bipush (v := 12) dX12_hangs_119 (by decide) ?_
  refine ab_icmp_ge (tgt := 169) dX12_hangs_121 (by decide) (fun c18 => ?_) (fun c18 => ?_)
  · have ht := ht.1 c18
    refine ab_iinc (i := 5) (x := x5) (v := (x5 + 1)) (L' := [some (.ref 82), some (.int x1), some (.int x2), some (.int x3), some (.int x4), some (.int (x5 + 1)), some (.int x6)]) dX12_hangs_169 rfl rfl (by exact (Nat.le_of_ble_eq_true rfl)) rfl rfl ?_
    refine ab_goto (tgt := 6) dX12_hangs_172 (by decide) ?_
    exact Wp.fewer (L' := [some (.ref 82), some (.int x1), some (.int x2), some (.int x3), some (.int x4), some (.int (x5 + 1)), none]) (show ab_leL _ _ from ⟨rfl, ⟨rfl, ⟨rfl, ⟨rfl, ⟨rfl, ⟨rfl, trivial⟩⟩⟩⟩⟩⟩) ht
  · have ht := ht.2 c18
    refine ab_iload (i := 4) dX12_hangs_124 rfl ?_
    refine ab_aload_n (i := 0) dX12_hangs_126 rfl rfl ?_
    refine ab_iload (i := 5) dX12_hangs_127 rfl ?_
    refine ab_aload_n (i := 0) dX12_hangs_129 rfl rfl ?_
    refine ab_getR (b := 117) f_X12_131 rfl (sh_k hs 82 12 (by decide) rfl) (sh_r hs 133 rfl) dX12_hangs_130 ?_
    refine ab_iload (i := 5) dX12_hangs_133 rfl ?_
    obtain ⟨hc19, ht⟩ := ht
    refine ab_iald (sh_k hs 117 14 (by decide) rfl) hc19 dX12_hangs_135 ?_
    refine ab_aload_n (i := 0) dX12_hangs_136 rfl rfl ?_
    refine ab_getR (b := 118) f_X12_134 rfl (sh_k hs 82 12 (by decide) rfl) (sh_r hs 134 rfl) dX12_hangs_137 ?_
    refine ab_iload (i := 5) dX12_hangs_140 rfl ?_
    obtain ⟨hc20, ht⟩ := ht
    refine ab_iald (sh_k hs 118 14 (by decide) rfl) hc20 dX12_hangs_142 ?_
    refine ab_iload (i := 6) dX12_hangs_143 rfl ?_
    refine ab_iload_n (i := 3) dX12_hangs_145 rfl rfl ?_
    refine ab_callV (b := 82) (As := [.int x5, .int (ah_i h 117 (Int32.toNatClampNeg x5)), .int (ah_i h 118 (Int32.toNatClampNeg x5)), .int x6, .int x3]) ht (Y_X12_isReached) l_X12_423 in_X12_isReached se_X12_isReached (sh_k hs 82 12 (by decide) rfl) (by decide) rfl rfl ⟨(Nat.le_of_ble_eq_true rfl), (Nat.le_of_ble_eq_true rfl), (Nat.le_of_ble_eq_true rfl), (Nat.le_of_ble_eq_true rfl)⟩ dX12_hangs_146 ?_
    rintro _ h21 ⟨v23, rfl, hs22, ht⟩
    refine ab_if_eq (tgt := 159) dX12_hangs_149 (by decide) (fun c24 => ?_) (fun c24 => ?_)
    · have ht := ht.1 c24
      refine ab_iconst (v := 0) dX12_hangs_159 (by decide) ?_
      refine ab_ior dX12_hangs_160 ?_
      refine ab_istore (i := 4) (L' := [some (.ref 82), some (.int x1), some (.int x2), some (.int x3), some (.int (x4 ||| 0)), some (.int x5), some (.int x6)]) dX12_hangs_161 (by exact (Nat.le_of_ble_eq_true rfl)) rfl rfl ?_
      refine ab_iinc (i := 6) (x := x6) (v := (x6 + 1)) (L' := [some (.ref 82), some (.int x1), some (.int x2), some (.int x3), some (.int (x4 ||| 0)), some (.int x5), some (.int (x6 + 1))]) dX12_hangs_163 rfl rfl (by exact (Nat.le_of_ble_eq_true rfl)) rfl rfl ?_
      refine ab_goto (tgt := 117) dX12_hangs_166 (by decide) ?_
      exact Wp.fewer (L' := [some (.ref 82), some (.int x1), some (.int x2), some (.int x3), some (.int (x4 ||| 0)), some (.int x5), some (.int (x6 + 1))]) (show ab_leL _ _ from ⟨rfl, ⟨rfl, ⟨rfl, ⟨rfl, ⟨rfl, ⟨rfl, ⟨rfl, trivial⟩⟩⟩⟩⟩⟩⟩) ht
    · have ht := ht.2 c24
      refine ab_iconst (v := 1) dX12_hangs_152 (by decide) ?_
      refine ab_iload (i := 6) dX12_hangs_153 rfl ?_
      refine ab_ishl dX12_hangs_155 ?_
      refine ab_goto (tgt := 160) dX12_hangs_156 (by decide) ?_
      refine ab_ior dX12_hangs_160 ?_
      refine ab_istore (i := 4) (L' := [some (.ref 82), some (.int x1), some (.int x2), some (.int x3), some (.int (x4 ||| ((1 : Int32) <<< (x6 &&& 31)))), some (.int x5), some (.int x6)]) dX12_hangs_161 (by exact (Nat.le_of_ble_eq_true rfl)) rfl rfl ?_
      refine ab_iinc (i := 6) (x := x6) (v := (x6 + 1)) (L' := [some (.ref 82), some (.int x1), some (.int x2), some (.int x3), some (.int (x4 ||| ((1 : Int32) <<< (x6 &&& 31)))), some (.int x5), some (.int (x6 + 1))]) dX12_hangs_163 rfl rfl (by exact (Nat.le_of_ble_eq_true rfl)) rfl rfl ?_
      refine ab_goto (tgt := 117) dX12_hangs_166 (by decide) ?_
      exact Wp.fewer (L' := [some (.ref 82), some (.int x1), some (.int x2), some (.int x3), some (.int (x4 ||| ((1 : Int32) <<< (x6 &&& 31)))), some (.int x5), some (.int (x6 + 1))]) (show ab_leL _ _ from ⟨rfl, ⟨rfl, ⟨rfl, ⟨rfl, ⟨rfl, ⟨rfl, ⟨rfl, trivial⟩⟩⟩⟩⟩⟩⟩) ht
set_option maxRecDepth 20000 in
theorem T_X12_hangs {Q : Option Value → ah_T → Prop} {h : ah_T} (hs : Sh h) (x1 : Int32) (x2 : Int32) (x3 : Int32) (ht : Wp mX12_hangs Q 0 0 6 [some (.ref 82), some (.int x1), some (.int x2), some (.int x3), some (.int 0), some (.int 0), none] [] h) : Mt mX12_hangs [.ref 82, .int x1, .int x2, .int x3] h Q := by
  refine Mt.ofWp rfl (by exact (Nat.le_of_ble_eq_true rfl)) (Wp.fewer (L' := [some (.ref 82), some (.int x1), some (.int x2), some (.int x3), none, none, none]) (show ab_leL _ _ from ⟨rfl, ⟨rfl, ⟨rfl, ⟨rfl, trivial⟩⟩⟩⟩) ?_)
  refine ab_iconst (v := 0) dX12_hangs_0 (by decide) ?_
  refine ab_istore (i := 4) (L' := [some (.ref 82), some (.int x1), some (.int x2), some (.int x3), some (.int 0), none, none]) dX12_hangs_1 (by exact (Nat.le_of_ble_eq_true rfl)) rfl rfl ?_
  refine ab_iconst (v := 0) dX12_hangs_3 (by decide) ?_
  refine ab_istore (i := 5) (L' := [some (.ref 82), some (.int x1), some (.int x2), some (.int x3), some (.int 0), some (.int 0), none]) dX12_hangs_4 (by exact (Nat.le_of_ble_eq_true rfl)) rfl rfl ?_
  exact Wp.fewer (L' := [some (.ref 82), some (.int x1), some (.int x2), some (.int x3), some (.int 0), some (.int 0), none]) (show ab_leL _ _ from ⟨rfl, ⟨rfl, ⟨rfl, ⟨rfl, ⟨rfl, ⟨rfl, trivial⟩⟩⟩⟩⟩⟩) ht
theorem dX12_bitsTo_0 : decode cX12_bitsTo 0 = .ok (.iconst 0, 1) := by decide +kernel
theorem dX12_bitsTo_1 : decode cX12_bitsTo 1 = .ok (.istore_n 3, 1) := by decide +kernel
theorem dX12_bitsTo_2 : decode cX12_bitsTo 2 = .ok (.iconst 0, 1) := by decide +kernel
theorem dX12_bitsTo_3 : decode cX12_bitsTo 3 = .ok (.istore 4, 2) := by decide +kernel
theorem dX12_bitsTo_5 : decode cX12_bitsTo 5 = .ok (.iload 4, 2) := by decide +kernel
theorem dX12_bitsTo_7 : decode cX12_bitsTo 7 = .ok (.bipush 12, 2) := by decide +kernel
theorem dX12_bitsTo_9 : decode cX12_bitsTo 9 = .ok (.if_icmp .ge 34, 3) := by decide +kernel
theorem dX12_bitsTo_12 : decode cX12_bitsTo 12 = .ok (.iload_n 0, 1) := by decide +kernel
theorem dX12_bitsTo_13 : decode cX12_bitsTo 13 = .ok (.iload 4, 2) := by decide +kernel
theorem dX12_bitsTo_15 : decode cX12_bitsTo 15 = .ok (.invokestatic 367, 3) := by decide +kernel
theorem dX12_bitsTo_18 : decode cX12_bitsTo 18 = .ok (.ifCond .ne 6, 3) := by decide +kernel
theorem dX12_bitsTo_21 : decode cX12_bitsTo 21 = .ok (.goto 16, 3) := by decide +kernel
theorem dX12_bitsTo_24 : decode cX12_bitsTo 24 = .ok (.iload_n 3, 1) := by decide +kernel
theorem dX12_bitsTo_25 : decode cX12_bitsTo 25 = .ok (.iload_n 2, 1) := by decide +kernel
theorem dX12_bitsTo_26 : decode cX12_bitsTo 26 = .ok (.if_icmp .ge 8, 3) := by decide +kernel
theorem dX12_bitsTo_29 : decode cX12_bitsTo 29 = .ok (.aload_n 1, 1) := by decide +kernel
theorem dX12_bitsTo_30 : decode cX12_bitsTo 30 = .ok (.iload_n 3, 1) := by decide +kernel
theorem dX12_bitsTo_31 : decode cX12_bitsTo 31 = .ok (.iload 4, 2) := by decide +kernel
theorem dX12_bitsTo_33 : decode cX12_bitsTo 33 = .ok (.iastore, 1) := by decide +kernel
theorem dX12_bitsTo_34 : decode cX12_bitsTo 34 = .ok (.iinc 3 1, 3) := by decide +kernel
theorem dX12_bitsTo_37 : decode cX12_bitsTo 37 = .ok (.iinc 4 1, 3) := by decide +kernel
theorem dX12_bitsTo_40 : decode cX12_bitsTo 40 = .ok (.goto (-35), 3) := by decide +kernel
theorem dX12_bitsTo_43 : decode cX12_bitsTo 43 = .ok (.iload_n 3, 1) := by decide +kernel
theorem dX12_bitsTo_44 : decode cX12_bitsTo 44 = .ok (.ireturn, 1) := by decide +kernel
set_option maxRecDepth 20000 in
theorem T_X12_bitsTo_5 {Q : Option Value → ah_T → Prop} {h : ah_T} (hs : Sh h) (x0 : Int32) (a1 : Nat) (x2 : Int32) (x3 : Int32) (x4 : Int32) (hk_a1 : ah_k h a1 = 14) (ht : ((12 ≤ x4 → Q (some (.int x3)) h) ∧ (¬ 12 ≤ x4 → ((¬ (f_X12_isIn x0 x4) = 0 → ((x2 ≤ x3 → Wp mX12_bitsTo Q 0 0 5 [some (.int x0), some (.ref a1), some (.int x2), some (.int (x3 + 1)), some (.int (x4 + 1))] [] h) ∧ (¬ x2 ≤ x3 → (vp_in x3 (ah_n h a1)) ∧ (∀ h5, h5 = ah_si h a1 (Int32.toNatClampNeg x3) x4 → Wp mX12_bitsTo Q 0 0 5 [some (.int x0), some (.ref a1), some (.int x2), some (.int (x3 + 1)), some (.int (x4 + 1))] [] h5)))) ∧ ((f_X12_isIn x0 x4) = 0 → Wp mX12_bitsTo Q 0 0 5 [some (.int x0), some (.ref a1), some (.int x2), some (.int x3), some (.int (x4 + 1))] [] h))))) : Wp mX12_bitsTo Q 0 0 5 [some (.int x0), some (.ref a1), some (.int x2), some (.int x3), some (.int x4)] [] h := by
  refine ab_iload (i := 4) dX12_bitsTo_5 rfl ?_
  refine ab_bipush (v := 12) dX12_bitsTo_7 (by decide) ?_
  refine ab_icmp_ge (tgt := 43) dX12_bitsTo_9 (by decide) (fun c1 => ?_) (fun c1 => ?_)
  · have ht := ht.1 c1
    refine ab_iload_n (i := 3) dX12_bitsTo_43 rfl rfl ?_
    exact ab_iret rfl dX12_bitsTo_44 (Nat.le_of_ble_eq_true rfl) (Nat.le_of_ble_eq_true rfl) ht
  · have ht := ht.2 c1
    refine ab_iload_n (i := 0) dX12_bitsTo_12 rfl rfl ?_
    refine ab_iload (i := 4) dX12_bitsTo_13 rfl ?_
    refine ab_callS (Q' := fun r h' => r = some (.int (f_X12_isIn x0 x4)) ∧ h = h') (As := [.int x0, .int x4]) (c_X12_isIn hs x0 x4 ⟨rfl, rfl⟩) (Y_X12_isIn) l_X12_367 st_X12_isIn rfl ⟨(Nat.le_of_ble_eq_true rfl), (Nat.le_of_ble_eq_true rfl), (Nat.le_of_ble_eq_true rfl), (Nat.le_of_ble_eq_true rfl)⟩ dX12_bitsTo_15 ?_
    rintro _ _ ⟨rfl, rfl⟩
    refine ab_if_ne (tgt := 24) dX12_bitsTo_18 (by decide) (fun c2 => ?_) (fun c2 => ?_)
    · have ht := ht.1 c2
      refine ab_iload_n (i := 3) dX12_bitsTo_24 rfl rfl ?_
      refine ab_iload_n (i := 2) dX12_bitsTo_25 rfl rfl ?_
      refine ab_icmp_ge (tgt := 34) dX12_bitsTo_26 (by decide) (fun c3 => ?_) (fun c3 => ?_)
      · have ht := ht.1 c3
        refine ab_iinc (i := 3) (x := x3) (v := (x3 + 1)) (L' := [some (.int x0), some (.ref a1), some (.int x2), some (.int (x3 + 1)), some (.int x4)]) dX12_bitsTo_34 rfl rfl (by exact (Nat.le_of_ble_eq_true rfl)) rfl rfl ?_
        refine ab_iinc (i := 4) (x := x4) (v := (x4 + 1)) (L' := [some (.int x0), some (.ref a1), some (.int x2), some (.int (x3 + 1)), some (.int (x4 + 1))]) dX12_bitsTo_37 rfl rfl (by exact (Nat.le_of_ble_eq_true rfl)) rfl rfl ?_
        refine ab_goto (tgt := 5) dX12_bitsTo_40 (by decide) ?_
        exact Wp.fewer (L' := [some (.int x0), some (.ref a1), some (.int x2), some (.int (x3 + 1)), some (.int (x4 + 1))]) (show ab_leL _ _ from ⟨rfl, ⟨rfl, ⟨rfl, ⟨rfl, ⟨rfl, trivial⟩⟩⟩⟩⟩) ht
      · have ht := ht.2 c3
        refine ab_aload_n (i := 1) dX12_bitsTo_29 rfl rfl ?_
        refine ab_iload_n (i := 3) dX12_bitsTo_30 rfl rfl ?_
        refine ab_iload (i := 4) dX12_bitsTo_31 rfl ?_
        obtain ⟨hc4, ht⟩ := ht
        refine ab_iast hk_a1 hc4 dX12_bitsTo_33 ?_
        refine Wp.nm fun h5 e6 => ?_
        have ht := ht h5 e6
        have hs7 : Sh h5 := by rw [e6]; exact sh_si hs
        have hk8 : ah_k h5 a1 = 14 := by rw [e6]; exact hk_a1
        refine ab_iinc (i := 3) (x := x3) (v := (x3 + 1)) (L' := [some (.int x0), some (.ref a1), some (.int x2), some (.int (x3 + 1)), some (.int x4)]) dX12_bitsTo_34 rfl rfl (by exact (Nat.le_of_ble_eq_true rfl)) rfl rfl ?_
        refine ab_iinc (i := 4) (x := x4) (v := (x4 + 1)) (L' := [some (.int x0), some (.ref a1), some (.int x2), some (.int (x3 + 1)), some (.int (x4 + 1))]) dX12_bitsTo_37 rfl rfl (by exact (Nat.le_of_ble_eq_true rfl)) rfl rfl ?_
        refine ab_goto (tgt := 5) dX12_bitsTo_40 (by decide) ?_
        exact Wp.fewer (L' := [some (.int x0), some (.ref a1), some (.int x2), some (.int (x3 + 1)), some (.int (x4 + 1))]) (show ab_leL _ _ from ⟨rfl, ⟨rfl, ⟨rfl, ⟨rfl, ⟨rfl, trivial⟩⟩⟩⟩⟩) ht
    · have ht := ht.2 c2
      refine ab_goto (tgt := 37) dX12_bitsTo_21 (by decide) ?_
      refine ab_iinc (i := 4) (x := x4) (v := (x4 + 1)) (L' := [some (.int x0), some (.ref a1), some (.int x2), some (.int x3), some (.int (x4 + 1))]) dX12_bitsTo_37 rfl rfl (by exact (Nat.le_of_ble_eq_true rfl)) rfl rfl ?_
      refine ab_goto (tgt := 5) dX12_bitsTo_40 (by decide) ?_
      exact Wp.fewer (L' := [some (.int x0), some (.ref a1), some (.int x2), some (.int x3), some (.int (x4 + 1))]) (show ab_leL _ _ from ⟨rfl, ⟨rfl, ⟨rfl, ⟨rfl, ⟨rfl, trivial⟩⟩⟩⟩⟩) ht
set_option maxRecDepth 20000 in
theorem T_X12_bitsTo {Q : Option Value → ah_T → Prop} {h : ah_T} (hs : Sh h) (x0 : Int32) (a1 : Nat) (x2 : Int32) (hk_a1 : ah_k h a1 = 14) (ht : Wp mX12_bitsTo Q 0 0 5 [some (.int x0), some (.ref a1), some (.int x2), some (.int 0), some (.int 0)] [] h) : Mt mX12_bitsTo [.int x0, .ref a1, .int x2] h Q := by
  refine Mt.ofWp rfl (by exact (Nat.le_of_ble_eq_true rfl)) (Wp.fewer (L' := [some (.int x0), some (.ref a1), some (.int x2), none, none]) (show ab_leL _ _ from ⟨rfl, ⟨rfl, ⟨rfl, trivial⟩⟩⟩) ?_)
  refine ab_iconst (v := 0) dX12_bitsTo_0 (by decide) ?_
  refine ab_istore_n (i := 3) (L' := [some (.int x0), some (.ref a1), some (.int x2), some (.int 0), none]) dX12_bitsTo_1 rfl (by exact (Nat.le_of_ble_eq_true rfl)) rfl rfl ?_
  refine ab_iconst (v := 0) dX12_bitsTo_2 (by decide) ?_
  refine ab_istore (i := 4) (L' := [some (.int x0), some (.ref a1), some (.int x2), some (.int 0), some (.int 0)]) dX12_bitsTo_3 (by exact (Nat.le_of_ble_eq_true rfl)) rfl rfl ?_
  exact Wp.fewer (L' := [some (.int x0), some (.ref a1), some (.int x2), some (.int 0), some (.int 0)]) (show ab_leL _ _ from ⟨rfl, ⟨rfl, ⟨rfl, ⟨rfl, ⟨rfl, trivial⟩⟩⟩⟩⟩) ht
theorem dX12_hang_0 : decode cX12_hang 0 = .ok (.iload_n 1, 1) := by decide +kernel
theorem dX12_hang_1 : decode cX12_hang 1 = .ok (.iconst 1, 1) := by decide +kernel
theorem dX12_hang_2 : decode cX12_hang 2 = .ok (.sipush 4095, 3) := by decide +kernel
theorem dX12_hang_5 : decode cX12_hang 5 = .ok (.invokestatic 156, 3) := by decide +kernel
theorem dX12_hang_8 : decode cX12_hang 8 = .ok (.ifCond .eq 32, 3) := by decide +kernel
theorem dX12_hang_11 : decode cX12_hang 11 = .ok (.iload_n 2, 1) := by decide +kernel
theorem dX12_hang_12 : decode cX12_hang 12 = .ok (.iconst 1, 1) := by decide +kernel
theorem dX12_hang_13 : decode cX12_hang 13 = .ok (.bipush 63, 2) := by decide +kernel
theorem dX12_hang_15 : decode cX12_hang 15 = .ok (.invokestatic 156, 3) := by decide +kernel
theorem dX12_hang_18 : decode cX12_hang 18 = .ok (.ifCond .eq 22, 3) := by decide +kernel
theorem dX12_hang_21 : decode cX12_hang 21 = .ok (.iload_n 3, 1) := by decide +kernel
theorem dX12_hang_22 : decode cX12_hang 22 = .ok (.iconst 1, 1) := by decide +kernel
theorem dX12_hang_23 : decode cX12_hang 23 = .ok (.sipush 4095, 3) := by decide +kernel
theorem dX12_hang_26 : decode cX12_hang 26 = .ok (.invokestatic 156, 3) := by decide +kernel
theorem dX12_hang_29 : decode cX12_hang 29 = .ok (.ifCond .eq 11, 3) := by decide +kernel
theorem dX12_hang_32 : decode cX12_hang 32 = .ok (.iload 4, 2) := by decide +kernel
theorem dX12_hang_34 : decode cX12_hang 34 = .ok (.invokestatic 201, 3) := by decide +kernel
theorem dX12_hang_37 : decode cX12_hang 37 = .ok (.ifCond .ne 5, 3) := by decide +kernel
theorem dX12_hang_40 : decode cX12_hang 40 = .ok (.iconst (-1), 1) := by decide +kernel
theorem dX12_hang_41 : decode cX12_hang 41 = .ok (.ireturn, 1) := by decide +kernel
theorem dX12_hang_42 : decode cX12_hang 42 = .ok (.iload_n 1, 1) := by decide +kernel
theorem dX12_hang_43 : decode cX12_hang 43 = .ok (.aload_n 0, 1) := by decide +kernel
theorem dX12_hang_44 : decode cX12_hang 44 = .ok (.getfield 131, 3) := by decide +kernel
theorem dX12_hang_47 : decode cX12_hang 47 = .ok (.bipush 6, 2) := by decide +kernel
theorem dX12_hang_49 : decode cX12_hang 49 = .ok (.invokestatic 464, 3) := by decide +kernel
theorem dX12_hang_52 : decode cX12_hang 52 = .ok (.istore 6, 2) := by decide +kernel
theorem dX12_hang_54 : decode cX12_hang 54 = .ok (.iload_n 2, 1) := by decide +kernel
theorem dX12_hang_55 : decode cX12_hang 55 = .ok (.aload_n 0, 1) := by decide +kernel
theorem dX12_hang_56 : decode cX12_hang 56 = .ok (.getfield 140, 3) := by decide +kernel
theorem dX12_hang_59 : decode cX12_hang 59 = .ok (.iconst 3, 1) := by decide +kernel
theorem dX12_hang_60 : decode cX12_hang 60 = .ok (.invokestatic 464, 3) := by decide +kernel
theorem dX12_hang_63 : decode cX12_hang 63 = .ok (.istore 7, 2) := by decide +kernel
theorem dX12_hang_65 : decode cX12_hang 65 = .ok (.iload 6, 2) := by decide +kernel
theorem dX12_hang_67 : decode cX12_hang 67 = .ok (.bipush 6, 2) := by decide +kernel
theorem dX12_hang_69 : decode cX12_hang 69 = .ok (.if_icmp .gt 22, 3) := by decide +kernel
theorem dX12_hang_72 : decode cX12_hang 72 = .ok (.iload 7, 2) := by decide +kernel
theorem dX12_hang_74 : decode cX12_hang 74 = .ok (.iconst 3, 1) := by decide +kernel
theorem dX12_hang_75 : decode cX12_hang 75 = .ok (.if_icmp .gt 16, 3) := by decide +kernel
theorem dX12_hang_78 : decode cX12_hang 78 = .ok (.iload 5, 2) := by decide +kernel
theorem dX12_hang_80 : decode cX12_hang 80 = .ok (.iconst 0, 1) := by decide +kernel
theorem dX12_hang_81 : decode cX12_hang 81 = .ok (.iconst 1, 1) := by decide +kernel
theorem dX12_hang_82 : decode cX12_hang 82 = .ok (.iload 6, 2) := by decide +kernel
theorem dX12_hang_84 : decode cX12_hang 84 = .ok (.iadd, 1) := by decide +kernel
theorem dX12_hang_85 : decode cX12_hang 85 = .ok (.invokestatic 156, 3) := by decide +kernel
theorem dX12_hang_88 : decode cX12_hang 88 = .ok (.ifCond .ne 5, 3) := by decide +kernel
theorem dX12_hang_91 : decode cX12_hang 91 = .ok (.iconst (-1), 1) := by decide +kernel
theorem dX12_hang_92 : decode cX12_hang 92 = .ok (.ireturn, 1) := by decide +kernel
theorem dX12_hang_93 : decode cX12_hang 93 = .ok (.aload_n 0, 1) := by decide +kernel
theorem dX12_hang_94 : decode cX12_hang 94 = .ok (.aload_n 0, 1) := by decide +kernel
theorem dX12_hang_95 : decode cX12_hang 95 = .ok (.getfield 74, 3) := by decide +kernel
theorem dX12_hang_98 : decode cX12_hang 98 = .ok (.aload_n 0, 1) := by decide +kernel
theorem dX12_hang_99 : decode cX12_hang 99 = .ok (.invokevirtual 370, 3) := by decide +kernel
theorem dX12_hang_102 : decode cX12_hang 102 = .ok (.invokevirtual 374, 3) := by decide +kernel
theorem dX12_hang_105 : decode cX12_hang 105 = .ok (.iconst 1, 1) := by decide +kernel
theorem dX12_hang_106 : decode cX12_hang 106 = .ok (.istore 8, 2) := by decide +kernel
theorem dX12_hang_108 : decode cX12_hang 108 = .ok (.iconst 0, 1) := by decide +kernel
theorem dX12_hang_109 : decode cX12_hang 109 = .ok (.istore 9, 2) := by decide +kernel
theorem dX12_hang_111 : decode cX12_hang 111 = .ok (.iload 9, 2) := by decide +kernel
theorem dX12_hang_113 : decode cX12_hang 113 = .ok (.iload 6, 2) := by decide +kernel
theorem dX12_hang_115 : decode cX12_hang 115 = .ok (.if_icmp .ge 18, 3) := by decide +kernel
theorem dX12_hang_118 : decode cX12_hang 118 = .ok (.iload 8, 2) := by decide +kernel
theorem dX12_hang_120 : decode cX12_hang 120 = .ok (.iload 7, 2) := by decide +kernel
theorem dX12_hang_122 : decode cX12_hang 122 = .ok (.iconst 1, 1) := by decide +kernel
theorem dX12_hang_123 : decode cX12_hang 123 = .ok (.iadd, 1) := by decide +kernel
theorem dX12_hang_124 : decode cX12_hang 124 = .ok (.imul, 1) := by decide +kernel
theorem dX12_hang_125 : decode cX12_hang 125 = .ok (.istore 8, 2) := by decide +kernel
theorem dX12_hang_127 : decode cX12_hang 127 = .ok (.iinc 9 1, 3) := by decide +kernel
theorem dX12_hang_130 : decode cX12_hang 130 = .ok (.goto (-19), 3) := by decide +kernel
theorem dX12_hang_133 : decode cX12_hang 133 = .ok (.iconst (-1), 1) := by decide +kernel
theorem dX12_hang_134 : decode cX12_hang 134 = .ok (.istore 9, 2) := by decide +kernel
theorem dX12_hang_136 : decode cX12_hang 136 = .ok (.iconst 0, 1) := by decide +kernel
theorem dX12_hang_137 : decode cX12_hang 137 = .ok (.istore 10, 2) := by decide +kernel
theorem dX12_hang_139 : decode cX12_hang 139 = .ok (.iconst 0, 1) := by decide +kernel
theorem dX12_hang_140 : decode cX12_hang 140 = .ok (.istore 11, 2) := by decide +kernel
theorem dX12_hang_142 : decode cX12_hang 142 = .ok (.iload 11, 2) := by decide +kernel
theorem dX12_hang_144 : decode cX12_hang 144 = .ok (.iload 8, 2) := by decide +kernel
theorem dX12_hang_146 : decode cX12_hang 146 = .ok (.if_icmp .ge 181, 3) := by decide +kernel
theorem dX12_hang_149 : decode cX12_hang 149 = .ok (.iload 11, 2) := by decide +kernel
theorem dX12_hang_151 : decode cX12_hang 151 = .ok (.istore 12, 2) := by decide +kernel
theorem dX12_hang_153 : decode cX12_hang 153 = .ok (.iconst 0, 1) := by decide +kernel
theorem dX12_hang_154 : decode cX12_hang 154 = .ok (.istore 13, 2) := by decide +kernel
theorem dX12_hang_156 : decode cX12_hang 156 = .ok (.iload 6, 2) := by decide +kernel
theorem dX12_hang_158 : decode cX12_hang 158 = .ok (.iconst 1, 1) := by decide +kernel
theorem dX12_hang_159 : decode cX12_hang 159 = .ok (.isub, 1) := by decide +kernel
theorem dX12_hang_160 : decode cX12_hang 160 = .ok (.istore 14, 2) := by decide +kernel
theorem dX12_hang_162 : decode cX12_hang 162 = .ok (.iload 14, 2) := by decide +kernel
theorem dX12_hang_164 : decode cX12_hang 164 = .ok (.ifCond .lt 76, 3) := by decide +kernel
theorem dX12_hang_167 : decode cX12_hang 167 = .ok (.aload_n 0, 1) := by decide +kernel
theorem dX12_hang_168 : decode cX12_hang 168 = .ok (.getfield 134, 3) := by decide +kernel
theorem dX12_hang_171 : decode cX12_hang 171 = .ok (.iload 14, 2) := by decide +kernel
theorem dX12_hang_173 : decode cX12_hang 173 = .ok (.iload 12, 2) := by decide +kernel
theorem dX12_hang_175 : decode cX12_hang 175 = .ok (.iload 7, 2) := by decide +kernel
theorem dX12_hang_177 : decode cX12_hang 177 = .ok (.iconst 1, 1) := by decide +kernel
theorem dX12_hang_178 : decode cX12_hang 178 = .ok (.iadd, 1) := by decide +kernel
theorem dX12_hang_179 : decode cX12_hang 179 = .ok (.irem, 1) := by decide +kernel
theorem dX12_hang_180 : decode cX12_hang 180 = .ok (.ifCond .ne 8, 3) := by decide +kernel
theorem dX12_hang_183 : decode cX12_hang 183 = .ok (.bipush 100, 2) := by decide +kernel
theorem dX12_hang_185 : decode cX12_hang 185 = .ok (.goto 17, 3) := by decide +kernel
theorem dX12_hang_188 : decode cX12_hang 188 = .ok (.aload_n 0, 1) := by decide +kernel
theorem dX12_hang_189 : decode cX12_hang 189 = .ok (.getfield 140, 3) := by decide +kernel
theorem dX12_hang_192 : decode cX12_hang 192 = .ok (.iload 12, 2) := by decide +kernel
theorem dX12_hang_194 : decode cX12_hang 194 = .ok (.iload 7, 2) := by decide +kernel
theorem dX12_hang_196 : decode cX12_hang 196 = .ok (.iconst 1, 1) := by decide +kernel
theorem dX12_hang_197 : decode cX12_hang 197 = .ok (.iadd, 1) := by decide +kernel
theorem dX12_hang_198 : decode cX12_hang 198 = .ok (.irem, 1) := by decide +kernel
theorem dX12_hang_199 : decode cX12_hang 199 = .ok (.iconst 1, 1) := by decide +kernel
theorem dX12_hang_200 : decode cX12_hang 200 = .ok (.isub, 1) := by decide +kernel
theorem dX12_hang_201 : decode cX12_hang 201 = .ok (.iaload, 1) := by decide +kernel
theorem dX12_hang_202 : decode cX12_hang 202 = .ok (.iastore, 1) := by decide +kernel
theorem dX12_hang_203 : decode cX12_hang 203 = .ok (.iload 13, 2) := by decide +kernel
theorem dX12_hang_205 : decode cX12_hang 205 = .ok (.aload_n 0, 1) := by decide +kernel
theorem dX12_hang_206 : decode cX12_hang 206 = .ok (.getfield 134, 3) := by decide +kernel
theorem dX12_hang_209 : decode cX12_hang 209 = .ok (.iload 14, 2) := by decide +kernel
theorem dX12_hang_211 : decode cX12_hang 211 = .ok (.iaload, 1) := by decide +kernel
theorem dX12_hang_212 : decode cX12_hang 212 = .ok (.bipush 100, 2) := by decide +kernel
theorem dX12_hang_214 : decode cX12_hang 214 = .ok (.if_icmp .ne 7, 3) := by decide +kernel
theorem dX12_hang_217 : decode cX12_hang 217 = .ok (.iconst 0, 1) := by decide +kernel
theorem dX12_hang_218 : decode cX12_hang 218 = .ok (.goto 4, 3) := by decide +kernel
theorem dX12_hang_221 : decode cX12_hang 221 = .ok (.iconst 1, 1) := by decide +kernel
theorem dX12_hang_222 : decode cX12_hang 222 = .ok (.iadd, 1) := by decide +kernel
theorem dX12_hang_223 : decode cX12_hang 223 = .ok (.istore 13, 2) := by decide +kernel
theorem dX12_hang_225 : decode cX12_hang 225 = .ok (.iload 12, 2) := by decide +kernel
theorem dX12_hang_227 : decode cX12_hang 227 = .ok (.iload 7, 2) := by decide +kernel
theorem dX12_hang_229 : decode cX12_hang 229 = .ok (.iconst 1, 1) := by decide +kernel
theorem dX12_hang_230 : decode cX12_hang 230 = .ok (.iadd, 1) := by decide +kernel
theorem dX12_hang_231 : decode cX12_hang 231 = .ok (.idiv, 1) := by decide +kernel
theorem dX12_hang_232 : decode cX12_hang 232 = .ok (.istore 12, 2) := by decide +kernel
theorem dX12_hang_234 : decode cX12_hang 234 = .ok (.iinc 14 (-1), 3) := by decide +kernel
theorem dX12_hang_237 : decode cX12_hang 237 = .ok (.goto (-75), 3) := by decide +kernel
theorem dX12_hang_240 : decode cX12_hang 240 = .ok (.iload 9, 2) := by decide +kernel
theorem dX12_hang_242 : decode cX12_hang 242 = .ok (.iconst (-1), 1) := by decide +kernel
theorem dX12_hang_243 : decode cX12_hang 243 = .ok (.if_icmp .eq 10, 3) := by decide +kernel
theorem dX12_hang_246 : decode cX12_hang 246 = .ok (.iload 13, 2) := by decide +kernel
theorem dX12_hang_248 : decode cX12_hang 248 = .ok (.iload 9, 2) := by decide +kernel
theorem dX12_hang_250 : decode cX12_hang 250 = .ok (.if_icmp .gt 71, 3) := by decide +kernel
theorem dX12_hang_253 : decode cX12_hang 253 = .ok (.aload_n 0, 1) := by decide +kernel
theorem dX12_hang_254 : decode cX12_hang 254 = .ok (.iload 6, 2) := by decide +kernel
theorem dX12_hang_256 : decode cX12_hang 256 = .ok (.iload_n 3, 1) := by decide +kernel
theorem dX12_hang_257 : decode cX12_hang 257 = .ok (.iload 4, 2) := by decide +kernel
theorem dX12_hang_259 : decode cX12_hang 259 = .ok (.invokevirtual 468, 3) := by decide +kernel
theorem dX12_hang_262 : decode cX12_hang 262 = .ok (.ifCond .ne 6, 3) := by decide +kernel
theorem dX12_hang_265 : decode cX12_hang 265 = .ok (.goto 56, 3) := by decide +kernel
theorem dX12_hang_268 : decode cX12_hang 268 = .ok (.iload 9, 2) := by decide +kernel
theorem dX12_hang_270 : decode cX12_hang 270 = .ok (.iconst (-1), 1) := by decide +kernel
theorem dX12_hang_271 : decode cX12_hang 271 = .ok (.if_icmp .eq 10, 3) := by decide +kernel
theorem dX12_hang_274 : decode cX12_hang 274 = .ok (.iload 13, 2) := by decide +kernel
theorem dX12_hang_276 : decode cX12_hang 276 = .ok (.iload 9, 2) := by decide +kernel
theorem dX12_hang_278 : decode cX12_hang 278 = .ok (.if_icmp .ge 40, 3) := by decide +kernel
theorem dX12_hang_281 : decode cX12_hang 281 = .ok (.iload 13, 2) := by decide +kernel
theorem dX12_hang_283 : decode cX12_hang 283 = .ok (.istore 9, 2) := by decide +kernel
theorem dX12_hang_285 : decode cX12_hang 285 = .ok (.iconst 0, 1) := by decide +kernel
theorem dX12_hang_286 : decode cX12_hang 286 = .ok (.istore 10, 2) := by decide +kernel
theorem dX12_hang_288 : decode cX12_hang 288 = .ok (.iconst 0, 1) := by decide +kernel
theorem dX12_hang_289 : decode cX12_hang 289 = .ok (.istore 14, 2) := by decide +kernel
theorem dX12_hang_291 : decode cX12_hang 291 = .ok (.iload 14, 2) := by decide +kernel
theorem dX12_hang_293 : decode cX12_hang 293 = .ok (.iload 6, 2) := by decide +kernel
theorem dX12_hang_295 : decode cX12_hang 295 = .ok (.if_icmp .ge 23, 3) := by decide +kernel
theorem dX12_hang_298 : decode cX12_hang 298 = .ok (.aload_n 0, 1) := by decide +kernel
theorem dX12_hang_299 : decode cX12_hang 299 = .ok (.getfield 137, 3) := by decide +kernel
theorem dX12_hang_302 : decode cX12_hang 302 = .ok (.iload 14, 2) := by decide +kernel
theorem dX12_hang_304 : decode cX12_hang 304 = .ok (.aload_n 0, 1) := by decide +kernel
theorem dX12_hang_305 : decode cX12_hang 305 = .ok (.getfield 134, 3) := by decide +kernel
theorem dX12_hang_308 : decode cX12_hang 308 = .ok (.iload 14, 2) := by decide +kernel
theorem dX12_hang_310 : decode cX12_hang 310 = .ok (.iaload, 1) := by decide +kernel
theorem dX12_hang_311 : decode cX12_hang 311 = .ok (.iastore, 1) := by decide +kernel
theorem dX12_hang_312 : decode cX12_hang 312 = .ok (.iinc 14 1, 3) := by decide +kernel
theorem dX12_hang_315 : decode cX12_hang 315 = .ok (.goto (-24), 3) := by decide +kernel
theorem dX12_hang_318 : decode cX12_hang 318 = .ok (.iinc 10 1, 3) := by decide +kernel
theorem dX12_hang_321 : decode cX12_hang 321 = .ok (.iinc 11 1, 3) := by decide +kernel
theorem dX12_hang_324 : decode cX12_hang 324 = .ok (.goto (-182), 3) := by decide +kernel
theorem dX12_hang_327 : decode cX12_hang 327 = .ok (.iload 5, 2) := by decide +kernel
theorem dX12_hang_329 : decode cX12_hang 329 = .ok (.iconst 1, 1) := by decide +kernel
theorem dX12_hang_330 : decode cX12_hang 330 = .ok (.if_icmp .ne 6, 3) := by decide +kernel
theorem dX12_hang_333 : decode cX12_hang 333 = .ok (.iload 10, 2) := by decide +kernel
theorem dX12_hang_335 : decode cX12_hang 335 = .ok (.ireturn, 1) := by decide +kernel
theorem dX12_hang_336 : decode cX12_hang 336 = .ok (.iload 9, 2) := by decide +kernel
theorem dX12_hang_338 : decode cX12_hang 338 = .ok (.iconst (-1), 1) := by decide +kernel
theorem dX12_hang_339 : decode cX12_hang 339 = .ok (.if_icmp .ne 7, 3) := by decide +kernel
theorem dX12_hang_342 : decode cX12_hang 342 = .ok (.iconst (-1), 1) := by decide +kernel
theorem dX12_hang_343 : decode cX12_hang 343 = .ok (.goto 22, 3) := by decide +kernel
theorem dX12_hang_346 : decode cX12_hang 346 = .ok (.iload 5, 2) := by decide +kernel
theorem dX12_hang_348 : decode cX12_hang 348 = .ok (.ifCond .ne 8, 3) := by decide +kernel
theorem dX12_hang_351 : decode cX12_hang 351 = .ok (.iload 9, 2) := by decide +kernel
theorem dX12_hang_353 : decode cX12_hang 353 = .ok (.goto 12, 3) := by decide +kernel
theorem dX12_hang_356 : decode cX12_hang 356 = .ok (.aload_n 0, 1) := by decide +kernel
theorem dX12_hang_357 : decode cX12_hang 357 = .ok (.getfield 137, 3) := by decide +kernel
theorem dX12_hang_360 : decode cX12_hang 360 = .ok (.iload 5, 2) := by decide +kernel
theorem dX12_hang_362 : decode cX12_hang 362 = .ok (.iconst 2, 1) := by decide +kernel
theorem dX12_hang_363 : decode cX12_hang 363 = .ok (.isub, 1) := by decide +kernel
theorem dX12_hang_364 : decode cX12_hang 364 = .ok (.iaload, 1) := by decide +kernel
theorem dX12_hang_365 : decode cX12_hang 365 = .ok (.ireturn, 1) := by decide +kernel
set_option maxRecDepth 20000 in
theorem T_X12_hang_40 {Q : Option Value → ah_T → Prop} {h : ah_T} (hs : Sh h)  (ht : Q (some (.int (-1))) h) : Wp mX12_hang Q 0 0 40 [none, none, none, none, none, none, none, none, none, none, none, none, none, none, none] [] h := by
  refine ab_iconst (v := (-1)) dX12_hang_40 (by decide) ?_
  exact ab_iret rfl dX12_hang_41 (Nat.le_of_ble_eq_true rfl) (Nat.le_of_ble_eq_true rfl) ht
set_option maxRecDepth 20000 in
theorem T_X12_hang_91 {Q : Option Value → ah_T → Prop} {h : ah_T} (hs : Sh h)  (ht : Q (some (.int (-1))) h) : Wp mX12_hang Q 0 0 91 [none, none, none, none, none, none, none, none, none, none, none, none, none, none, none] [] h := by
  refine ab_iconst (v := (-1)) dX12_hang_91 (by decide) ?_
  exact ab_iret rfl dX12_hang_92 (Nat.le_of_ble_eq_true rfl) (Nat.le_of_ble_eq_true rfl) ht
set_option maxRecDepth 20000 in
theorem T_X12_hang_111 {Q : Option Value → ah_T → Prop} {h : ah_T} (hs : Sh h) (x3 : Int32) (x4 : Int32) (x5 : Int32) (x6 : Int32) (x7 : Int32) (x8 : Int32) (x9 : Int32) (ht : ((x6 ≤ x9 → Wp mX12_hang Q 0 0 142 [some (.ref 82), none, none, some (.int x3), some (.int x4), some (.int x5), some (.int x6), some (.int x7), some (.int x8), some (.int (-1)), some (.int 0), some (.int 0), none, none, none] [] h) ∧ (¬ x6 ≤ x9 → Wp mX12_hang Q 0 0 111 [some (.ref 82), none, none, some (.int x3), some (.int x4), some (.int x5), some (.int x6), some (.int x7), some (.int (x8 * (x7 + 1))), some (.int (x9 + 1)), none, none, none, none, none] [] h))) : Wp mX12_hang Q 0 0 111 [some (.ref 82), none, none, some (.int x3), some (.int x4), some (.int x5), some (.int x6), some (.int x7), some (.int x8), some (.int x9), none, none, none, none, none] [] h := by
  refine ab_iload (i := 9) dX12_hang_111 rfl ?_
  refine ab_iload (i := 6) dX12_hang_113 rfl ?_
  refine ab_icmp_ge (tgt := 133) dX12_hang_115 (by decide) (fun c20 => ?_) (fun c20 => ?_)
  · have ht := ht.1 c20
    refine ab_iconst (v := (-1)) dX12_hang_133 (by decide) ?_
    refine ab_istore (i := 9) (L' := [some (.ref 82), none, none, some (.int x3), some (.int x4), some (.int x5), some (.int x6), some (.int x7), some (.int x8), some (.int (-1)), none, none, none, none, none]) dX12_hang_134 (by exact (Nat.le_of_ble_eq_true rfl)) rfl rfl ?_
    refine ab_iconst (v := 0) dX12_hang_136 (by decide) ?_
    refine ab_istore (i := 10) (L' := [some (.ref 82), none, none, some (.int x3), some (.int x4), some (.int x5), some (.int x6), some (.int x7), some (.int x8), some (.int (-1)), some (.int 0), none, none, none, none]) dX12_hang_137 (by exact (Nat.le_of_ble_eq_true rfl)) rfl rfl ?_
    refine ab_iconst (v := 0) dX12_hang_139 (by decide) ?_
    refine ab_istore (i := 11) (L' := [some (.ref 82), none, none, some (.int x3), some (.int x4), some (.int x5), some (.int x6), some (.int x7), some (.int x8), some (.int (-1)), some (.int 0), some (.int 0), none, none, none]) dX12_hang_140 (by exact (Nat.le_of_ble_eq_true rfl)) rfl rfl ?_
    exact Wp.fewer (L' := [some (.ref 82), none, none, some (.int x3), some (.int x4), some (.int x5), some (.int x6), some (.int x7), some (.int x8), some (.int (-1)), some (.int 0), some (.int 0), none, none, none]) (show ab_leL _ _ from ⟨rfl, ⟨rfl, ⟨rfl, ⟨rfl, ⟨rfl, ⟨rfl, ⟨rfl, ⟨rfl, ⟨rfl, ⟨rfl, trivial⟩⟩⟩⟩⟩⟩⟩⟩⟩⟩) ht
  · have ht := ht.2 c20
    refine ab_iload (i := 8) dX12_hang_118 rfl ?_
    refine ab_iload (i := 7) dX12_hang_120 rfl ?_
    refine ab_iconst (v := 1) dX12_hang_122 (by decide) ?_
    refine ab_iadd dX12_hang_123 ?_
    refine ab_imul dX12_hang_124 ?_
    refine ab_istore (i := 8) (L' := [some (.ref 82), none, none, some (.int x3), some (.int x4), some (.int x5), some (.int x6), some (.int x7), some (.int (x8 * (x7 + 1))), some (.int x9), none, none, none, none, none]) dX12_hang_125 (by exact (Nat.le_of_ble_eq_true rfl)) rfl rfl ?_
    refine ab_iinc (i := 9) (x := x9) (v := (x9 + 1)) (L' := [some (.ref 82), none, none, some (.int x3), some (.int x4), some (.int x5), some (.int x6), some (.int x7), some (.int (x8 * (x7 + 1))), some (.int (x9 + 1)), none, none, none, none, none]) dX12_hang_127 rfl rfl (by exact (Nat.le_of_ble_eq_true rfl)) rfl rfl ?_
    refine ab_goto (tgt := 111) dX12_hang_130 (by decide) ?_
    exact Wp.fewer (L' := [some (.ref 82), none, none, some (.int x3), some (.int x4), some (.int x5), some (.int x6), some (.int x7), some (.int (x8 * (x7 + 1))), some (.int (x9 + 1)), none, none, none, none, none]) (show ab_leL _ _ from ⟨rfl, ⟨rfl, ⟨rfl, ⟨rfl, ⟨rfl, ⟨rfl, ⟨rfl, ⟨rfl, trivial⟩⟩⟩⟩⟩⟩⟩⟩) ht
set_option maxRecDepth 20000 in
theorem T_X12_hang_142 {Q : Option Value → ah_T → Prop} {h : ah_T} (hs : Sh h) (x3 : Int32) (x4 : Int32) (x5 : Int32) (x6 : Int32) (x7 : Int32) (x8 : Int32) (x9 : Int32) (x10 : Int32) (x11 : Int32) (ht : ((x8 ≤ x11 → ((¬ x5 = 1 → ((¬ x9 = (-1) → ((¬ x5 = 0 → (vp_in (x5 - 2) (ah_n h 119)) ∧ Q (some (.int (ah_i h 119 (Int32.toNatClampNeg (x5 - 2))))) h) ∧ (x5 = 0 → Q (some (.int x9)) h))) ∧ (x9 = (-1) → Q (some (.int (-1))) h))) ∧ (x5 = 1 → Q (some (.int x10)) h))) ∧ (¬ x8 ≤ x11 → Wp mX12_hang Q 0 0 162 [some (.ref 82), none, none, some (.int x3), some (.int x4), some (.int x5), some (.int x6), some (.int x7), some (.int x8), some (.int x9), some (.int x10), some (.int x11), some (.int x11), some (.int 0), some (.int (x6 - 1))] [] h))) : Wp mX12_hang Q 0 0 142 [some (.ref 82), none, none, some (.int x3), some (.int x4), some (.int x5), some (.int x6), some (.int x7), some (.int x8), some (.int x9), some (.int x10), some (.int x11), none, none, none] [] h := by
  refine ab_iload (i := 11) dX12_hang_142 rfl ?_
  refine ab_iload (i := 8) dX12_hang_144 rfl ?_
  refine ab_icmp_ge (tgt := 327) dX12_hang_146 (by decide) (fun c21 => ?_) (fun c21 => ?_)
  · have ht := ht.1 c21
    refine ab_iload (i := 5) dX12_hang_327 rfl ?_
    refine ab_iconst (v := 1) dX12_hang_329 (by decide) ?_
    refine ab_icmp_ne (tgt := 336) dX12_hang_330 (by decide) (fun c22 => ?_) (fun c22 => ?_)
    · have ht := ht.1 c22
      refine ab_iload (i := 9) dX12_hang_336 rfl ?_
      refine ab_iconst (v := (-1)) dX12_hang_338 (by decide) ?_
      refine ab_icmp_ne (tgt := 346) dX12_hang_339 (by decide) (fun c23 => ?_) (fun c23 => ?_)
      · have ht := ht.1 c23
        refine ab_iload (i := 5) dX12_hang_346 rfl ?_
        refine ab_if_ne (tgt := 356) dX12_hang_348 (by decide) (fun c24 => ?_) (fun c24 => ?_)
        · have ht := ht.1 c24
          refine ab_aload_n (i := 0) dX12_hang_356 rfl rfl ?_
          refine ab_getR (b := 119) f_X12_137 rfl (sh_k hs 82 12 (by decide) rfl) (sh_r hs 135 rfl) dX12_hang_357 ?_
          refine ab_iload (i := 5) dX12_hang_360 rfl ?_
          refine ab_iconst (v := 2) dX12_hang_362 (by decide) ?_
          refine ab_isub dX12_hang_363 ?_
          obtain ⟨hc25, ht⟩ := ht
          refine ab_iald (sh_k hs 119 14 (by decide) rfl) hc25 dX12_hang_364 ?_
          exact ab_iret rfl dX12_hang_365 (Nat.le_of_ble_eq_true rfl) (Nat.le_of_ble_eq_true rfl) ht
        · have ht := ht.2 c24
          refine ab_iload (i := 9) dX12_hang_351 rfl ?_
          refine ab_goto (tgt := 365) dX12_hang_353 (by decide) ?_
          exact ab_iret rfl dX12_hang_365 (Nat.le_of_ble_eq_true rfl) (Nat.le_of_ble_eq_true rfl) ht
      · have ht := ht.2 c23
        refine ab_iconst (v := (-1)) dX12_hang_342 (by decide) ?_
        refine ab_goto (tgt := 365) dX12_hang_343 (by decide) ?_
        exact ab_iret rfl dX12_hang_365 (Nat.le_of_ble_eq_true rfl) (Nat.le_of_ble_eq_true rfl) ht
    · have ht := ht.2 c22
      refine ab_iload (i := 10) dX12_hang_333 rfl ?_
      exact ab_iret rfl dX12_hang_335 (Nat.le_of_ble_eq_true rfl) (Nat.le_of_ble_eq_true rfl) ht
  · have ht := ht.2 c21
    refine ab_iload (i := 11) dX12_hang_149 rfl ?_
    refine ab_istore (i := 12) (L' := [some (.ref 82), none, none, some (.int x3), some (.int x4), some (.int x5), some (.int x6), some (.int x7), some (.int x8), some (.int x9), some (.int x10), some (.int x11), some (.int x11), none, none]) dX12_hang_151 (by exact (Nat.le_of_ble_eq_true rfl)) rfl rfl ?_
    refine ab_iconst (v := 0) dX12_hang_153 (by decide) ?_
    refine ab_istore (i := 13) (L' := [some (.ref 82), none, none, some (.int x3), some (.int x4), some (.int x5), some (.int x6), some (.int x7), some (.int x8), some (.int x9), some (.int x10), some (.int x11), some (.int x11), some (.int 0), none]) dX12_hang_154 (by exact (Nat.le_of_ble_eq_true rfl)) rfl rfl ?_
    refine ab_iload (i := 6) dX12_hang_156 rfl ?_
    refine ab_iconst (v := 1) dX12_hang_158 (by decide) ?_
    refine ab_isub dX12_hang_159 ?_
    refine ab_istore (i := 14) (L' := [some (.ref 82), none, none, some (.int x3), some (.int x4), some (.int x5), some (.int x6), some (.int x7), some (.int x8), some (.int x9), some (.int x10), some (.int x11), some (.int x11), some (.int 0), some (.int (x6 - 1))]) dX12_hang_160 (by exact (Nat.le_of_ble_eq_true rfl)) rfl rfl ?_
    exact Wp.fewer (L' := [some (.ref 82), none, none, some (.int x3), some (.int x4), some (.int x5), some (.int x6), some (.int x7), some (.int x8), some (.int x9), some (.int x10), some (.int x11), some (.int x11), some (.int 0), some (.int (x6 - 1))]) (show ab_leL _ _ from ⟨rfl, ⟨rfl, ⟨rfl, ⟨rfl, ⟨rfl, ⟨rfl, ⟨rfl, ⟨rfl, ⟨rfl, ⟨rfl, ⟨rfl, ⟨rfl, ⟨rfl, trivial⟩⟩⟩⟩⟩⟩⟩⟩⟩⟩⟩⟩⟩) ht
set_option maxRecDepth 20000 in
theorem T_X12_hang_162 {Q : Option Value → ah_T → Prop} {h : ah_T} (hs : Sh h) (x3 : Int32) (x4 : Int32) (x5 : Int32) (x6 : Int32) (x7 : Int32) (x8 : Int32) (x9 : Int32) (x10 : Int32) (x11 : Int32) (x12 : Int32) (x13 : Int32) (x14 : Int32) (ht : ((x14 < 0 → ((x9 = (-1) → Wp mX12_hang Q 0 0 253 [some (.ref 82), none, none, some (.int x3), some (.int x4), some (.int x5), some (.int x6), some (.int x7), some (.int x8), some (.int x9), some (.int x10), some (.int x11), none, some (.int x13), none] [] h) ∧ (¬ x9 = (-1) → ((x9 < x13 → Wp mX12_hang Q 0 0 321 [some (.ref 82), none, none, some (.int x3), some (.int x4), some (.int x5), some (.int x6), some (.int x7), some (.int x8), some (.int x9), some (.int x10), some (.int x11), none, none, none] [] h) ∧ (¬ x9 < x13 → Wp mX12_hang Q 0 0 253 [some (.ref 82), none, none, some (.int x3), some (.int x4), some (.int x5), some (.int x6), some (.int x7), some (.int x8), some (.int x9), some (.int x10), some (.int x11), none, some (.int x13), none] [] h))))) ∧ (¬ x14 < 0 → (¬ (x7 + 1) = 0) ∧ ((¬ (x12 - x12 / (x7 + 1) * (x7 + 1)) = 0 → (¬ (x7 + 1) = 0) ∧ (vp_in ((x12 - x12 / (x7 + 1) * (x7 + 1)) - 1) (ah_n h 120)) ∧ (vp_in x14 (ah_n h 118)) ∧ (∀ h34, h34 = ah_si h 118 (Int32.toNatClampNeg x14) (ah_i h 120 (Int32.toNatClampNeg ((x12 - x12 / (x7 + 1) * (x7 + 1)) - 1))) → (vp_in x14 (ah_n h34 118)) ∧ ((¬ (ah_i h34 118 (Int32.toNatClampNeg x14)) = 100 → (¬ (x7 + 1) = 0) ∧ Wp mX12_hang Q 0 0 162 [some (.ref 82), none, none, some (.int x3), some (.int x4), some (.int x5), some (.int x6), some (.int x7), some (.int x8), some (.int x9), some (.int x10), some (.int x11), some (.int (x12 / (x7 + 1))), some (.int (x13 + 1)), some (.int (x14 + (-1)))] [] h34) ∧ ((ah_i h34 118 (Int32.toNatClampNeg x14)) = 100 → (¬ (x7 + 1) = 0) ∧ Wp mX12_hang Q 0 0 162 [some (.ref 82), none, none, some (.int x3), some (.int x4), some (.int x5), some (.int x6), some (.int x7), some (.int x8), some (.int x9), some (.int x10), some (.int x11), some (.int (x12 / (x7 + 1))), some (.int (x13 + 0)), some (.int (x14 + (-1)))] [] h34)))) ∧ ((x12 - x12 / (x7 + 1) * (x7 + 1)) = 0 → (vp_in x14 (ah_n h 118)) ∧ (∀ h42, h42 = ah_si h 118 (Int32.toNatClampNeg x14) 100 → (vp_in x14 (ah_n h42 118)) ∧ ((¬ (ah_i h42 118 (Int32.toNatClampNeg x14)) = 100 → (¬ (x7 + 1) = 0) ∧ Wp mX12_hang Q 0 0 162 [some (.ref 82), none, none, some (.int x3), some (.int x4), some (.int x5), some (.int x6), some (.int x7), some (.int x8), some (.int x9), some (.int x10), some (.int x11), some (.int (x12 / (x7 + 1))), some (.int (x13 + 1)), some (.int (x14 + (-1)))] [] h42) ∧ ((ah_i h42 118 (Int32.toNatClampNeg x14)) = 100 → (¬ (x7 + 1) = 0) ∧ Wp mX12_hang Q 0 0 162 [some (.ref 82), none, none, some (.int x3), some (.int x4), some (.int x5), some (.int x6), some (.int x7), some (.int x8), some (.int x9), some (.int x10), some (.int x11), some (.int (x12 / (x7 + 1))), some (.int (x13 + 0)), some (.int (x14 + (-1)))] [] h42)))))))) : Wp mX12_hang Q 0 0 162 [some (.ref 82), none, none, some (.int x3), some (.int x4), some (.int x5), some (.int x6), some (.int x7), some (.int x8), some (.int x9), some (.int x10), some (.int x11), some (.int x12), some (.int x13), some (.int x14)] [] h := by
  refine ab_iload (i := 14) dX12_hang_162 rfl ?_
  refine ab_if_lt (tgt := 240) dX12_hang_164 (by decide) (fun c26 => ?_) (fun c26 => ?_)
  · have ht := ht.1 c26
    refine ab_iload (i := 9) dX12_hang_240 rfl ?_
    refine ab_iconst (v := (-1)) dX12_hang_242 (by decide) ?_
    refine ab_icmp_eq (tgt := 253) dX12_hang_243 (by decide) (fun c27 => ?_) (fun c27 => ?_)
    · have ht := ht.1 c27
      exact Wp.fewer (L' := [some (.ref 82), none, none, some (.int x3), some (.int x4), some (.int x5), some (.int x6), some (.int x7), some (.int x8), some (.int x9), some (.int x10), some (.int x11), none, some (.int x13), none]) (show ab_leL _ _ from ⟨rfl, ⟨rfl, ⟨rfl, ⟨rfl, ⟨rfl, ⟨rfl, ⟨rfl, ⟨rfl, ⟨rfl, ⟨rfl, ⟨rfl, trivial⟩⟩⟩⟩⟩⟩⟩⟩⟩⟩⟩) ht
    · have ht := ht.2 c27
      refine ab_iload (i := 13) dX12_hang_246 rfl ?_
      refine ab_iload (i := 9) dX12_hang_248 rfl ?_
      refine ab_icmp_gt (tgt := 321) dX12_hang_250 (by decide) (fun c28 => ?_) (fun c28 => ?_)
      · have ht := ht.1 c28
        exact Wp.fewer (L' := [some (.ref 82), none, none, some (.int x3), some (.int x4), some (.int x5), some (.int x6), some (.int x7), some (.int x8), some (.int x9), some (.int x10), some (.int x11), none, none, none]) (show ab_leL _ _ from ⟨rfl, ⟨rfl, ⟨rfl, ⟨rfl, ⟨rfl, ⟨rfl, ⟨rfl, ⟨rfl, ⟨rfl, ⟨rfl, trivial⟩⟩⟩⟩⟩⟩⟩⟩⟩⟩) ht
      · have ht := ht.2 c28
        exact Wp.fewer (L' := [some (.ref 82), none, none, some (.int x3), some (.int x4), some (.int x5), some (.int x6), some (.int x7), some (.int x8), some (.int x9), some (.int x10), some (.int x11), none, some (.int x13), none]) (show ab_leL _ _ from ⟨rfl, ⟨rfl, ⟨rfl, ⟨rfl, ⟨rfl, ⟨rfl, ⟨rfl, ⟨rfl, ⟨rfl, ⟨rfl, ⟨rfl, trivial⟩⟩⟩⟩⟩⟩⟩⟩⟩⟩⟩) ht
  · have ht := ht.2 c26
    refine ab_aload_n (i := 0) dX12_hang_167 rfl rfl ?_
    refine ab_getR (b := 118) f_X12_134 rfl (sh_k hs 82 12 (by decide) rfl) (sh_r hs 134 rfl) dX12_hang_168 ?_
    refine ab_iload (i := 14) dX12_hang_171 rfl ?_
    refine ab_iload (i := 12) dX12_hang_173 rfl ?_
    refine ab_iload (i := 7) dX12_hang_175 rfl ?_
    refine ab_iconst (v := 1) dX12_hang_177 (by decide) ?_
    refine ab_iadd dX12_hang_178 ?_
    obtain ⟨hc29, ht⟩ := ht
    refine ab_irem dX12_hang_179 hc29 ?_
    refine ab_if_ne (tgt := 188) dX12_hang_180 (by decide) (fun c30 => ?_) (fun c30 => ?_)
    · have ht := ht.1 c30
      refine ab_aload_n (i := 0) dX12_hang_188 rfl rfl ?_
      refine ab_getR (b := 120) f_X12_140 rfl (sh_k hs 82 12 (by decide) rfl) (sh_r hs 136 rfl) dX12_hang_189 ?_
      refine ab_iload (i := 12) dX12_hang_192 rfl ?_
      refine ab_iload (i := 7) dX12_hang_194 rfl ?_
      refine ab_iconst (v := 1) dX12_hang_196 (by decide) ?_
      refine ab_iadd dX12_hang_197 ?_
      obtain ⟨hc31, ht⟩ := ht
      refine ab_irem dX12_hang_198 hc31 ?_
      refine ab_iconst (v := 1) dX12_hang_199 (by decide) ?_
      refine ab_isub dX12_hang_200 ?_
      obtain ⟨hc32, ht⟩ := ht
      refine ab_iald (sh_k hs 120 14 (by decide) rfl) hc32 dX12_hang_201 ?_
      obtain ⟨hc33, ht⟩ := ht
      refine ab_iast (sh_k hs 118 14 (by decide) rfl) hc33 dX12_hang_202 ?_
      refine Wp.nm fun h34 e35 => ?_
      have ht := ht h34 e35
      have hs36 : Sh h34 := by rw [e35]; exact sh_si hs
      refine ab_iload (i := 13) dX12_hang_203 rfl ?_
      refine ab_aload_n (i := 0) dX12_hang_205 rfl rfl ?_
      refine ab_getR (b := 118) f_X12_134 rfl (sh_k hs36 82 12 (by decide) rfl) (sh_r hs36 134 rfl) dX12_hang_206 ?_
      refine ab_iload (i := 14) dX12_hang_209 rfl ?_
      obtain ⟨hc37, ht⟩ := ht
      refine ab_iald (sh_k hs36 118 14 (by decide) rfl) hc37 dX12_hang_211 ?_
      refine ab_bipush (v := 100) dX12_hang_212 (by decide) ?_
      refine ab_icmp_ne (tgt := 221) dX12_hang_214 (by decide) (fun c38 => ?_) (fun c38 => ?_)
      · have ht := ht.1 c38
        refine ab_iconst (v := 1) dX12_hang_221 (by decide) ?_
        refine ab_iadd dX12_hang_222 ?_
        refine ab_istore (i := 13) (L' := [some (.ref 82), none, none, some (.int x3), some (.int x4), some (.int x5), some (.int x6), some (.int x7), some (.int x8), some (.int x9), some (.int x10), some (.int x11), some (.int x12), some (.int (x13 + 1)), some (.int x14)]) dX12_hang_223 (by exact (Nat.le_of_ble_eq_true rfl)) rfl rfl ?_
        refine ab_iload (i := 12) dX12_hang_225 rfl ?_
        refine ab_iload (i := 7) dX12_hang_227 rfl ?_
        refine ab_iconst (v := 1) dX12_hang_229 (by decide) ?_
        refine ab_iadd dX12_hang_230 ?_
        obtain ⟨hc39, ht⟩ := ht
        refine ab_idiv dX12_hang_231 hc39 ?_
        refine ab_istore (i := 12) (L' := [some (.ref 82), none, none, some (.int x3), some (.int x4), some (.int x5), some (.int x6), some (.int x7), some (.int x8), some (.int x9), some (.int x10), some (.int x11), some (.int (x12 / (x7 + 1))), some (.int (x13 + 1)), some (.int x14)]) dX12_hang_232 (by exact (Nat.le_of_ble_eq_true rfl)) rfl rfl ?_
        refine ab_iinc (i := 14) (x := x14) (v := (x14 + (-1))) (L' := [some (.ref 82), none, none, some (.int x3), some (.int x4), some (.int x5), some (.int x6), some (.int x7), some (.int x8), some (.int x9), some (.int x10), some (.int x11), some (.int (x12 / (x7 + 1))), some (.int (x13 + 1)), some (.int (x14 + (-1)))]) dX12_hang_234 rfl rfl (by exact (Nat.le_of_ble_eq_true rfl)) rfl rfl ?_
        refine ab_goto (tgt := 162) dX12_hang_237 (by decide) ?_
        exact Wp.fewer (L' := [some (.ref 82), none, none, some (.int x3), some (.int x4), some (.int x5), some (.int x6), some (.int x7), some (.int x8), some (.int x9), some (.int x10), some (.int x11), some (.int (x12 / (x7 + 1))), some (.int (x13 + 1)), some (.int (x14 + (-1)))]) (show ab_leL _ _ from ⟨rfl, ⟨rfl, ⟨rfl, ⟨rfl, ⟨rfl, ⟨rfl, ⟨rfl, ⟨rfl, ⟨rfl, ⟨rfl, ⟨rfl, ⟨rfl, ⟨rfl, trivial⟩⟩⟩⟩⟩⟩⟩⟩⟩⟩⟩⟩⟩) ht
      · have ht := ht.2 c38
        refine ab_iconst (v := 0) dX12_hang_217 (by decide) ?_
        refine ab_goto (tgt := 222) dX12_hang_218 (by decide) ?_
        refine ab_iadd dX12_hang_222 ?_
        refine ab_istore (i := 13) (L' := [some (.ref 82), none, none, some (.int x3), some (.int x4), some (.int x5), some (.int x6), some (.int x7), some (.int x8), some (.int x9), some (.int x10), some (.int x11), some (.int x12), some (.int (x13 + 0)), some (.int x14)]) dX12_hang_223 (by exact (Nat.le_of_ble_eq_true rfl)) rfl rfl ?_
        refine ab_iload (i := 12) dX12_hang_225 rfl ?_
        refine ab_iload (i := 7) dX12_hang_227 rfl ?_
        refine ab_iconst (v := 1) dX12_hang_229 (by decide) ?_
        refine ab_iadd dX12_hang_230 ?_
        obtain ⟨hc40, ht⟩ := ht
        refine ab_idiv dX12_hang_231 hc40 ?_
        refine ab_istore (i := 12) (L' := [some (.ref 82), none, none, some (.int x3), some (.int x4), some (.int x5), some (.int x6), some (.int x7), some (.int x8), some (.int x9), some (.int x10), some (.int x11), some (.int (x12 / (x7 + 1))), some (.int (x13 + 0)), some (.int x14)]) dX12_hang_232 (by exact (Nat.le_of_ble_eq_true rfl)) rfl rfl ?_
        refine ab_iinc (i := 14) (x := x14) (v := (x14 + (-1))) (L' := [some (.ref 82), none, none, some (.int x3), some (.int x4), some (.int x5), some (.int x6), some (.int x7), some (.int x8), some (.int x9), some (.int x10), some (.int x11), some (.int (x12 / (x7 + 1))), some (.int (x13 + 0)), some (.int (x14 + (-1)))]) dX12_hang_234 rfl rfl (by exact (Nat.le_of_ble_eq_true rfl)) rfl rfl ?_
        refine ab_goto (tgt := 162) dX12_hang_237 (by decide) ?_
        exact Wp.fewer (L' := [some (.ref 82), none, none, some (.int x3), some (.int x4), some (.int x5), some (.int x6), some (.int x7), some (.int x8), some (.int x9), some (.int x10), some (.int x11), some (.int (x12 / (x7 + 1))), some (.int (x13 + 0)), some (.int (x14 + (-1)))]) (show ab_leL _ _ from ⟨rfl, ⟨rfl, ⟨rfl, ⟨rfl, ⟨rfl, ⟨rfl, ⟨rfl, ⟨rfl, ⟨rfl, ⟨rfl, ⟨rfl, ⟨rfl, ⟨rfl, trivial⟩⟩⟩⟩⟩⟩⟩⟩⟩⟩⟩⟩⟩) ht
    · have ht := ht.2 c30
      refine ab_bipush (v := 100) dX12_hang_183 (by decide) ?_
      refine ab_goto (tgt := 202) dX12_hang_185 (by decide) ?_
      obtain ⟨hc41, ht⟩ := ht
      refine ab_iast (sh_k hs 118 14 (by decide) rfl) hc41 dX12_hang_202 ?_
      refine Wp.nm fun h42 e43 => ?_
      have ht := ht h42 e43
      have hs44 : Sh h42 := by rw [e43]; exact sh_si hs
      refine ab_iload (i := 13) dX12_hang_203 rfl ?_
      refine ab_aload_n (i := 0) dX12_hang_205 rfl rfl ?_
      refine ab_getR (b := 118) f_X12_134 rfl (sh_k hs44 82 12 (by decide) rfl) (sh_r hs44 134 rfl) dX12_hang_206 ?_
      refine ab_iload (i := 14) dX12_hang_209 rfl ?_
      obtain ⟨hc45, ht⟩ := ht
      refine ab_iald (sh_k hs44 118 14 (by decide) rfl) hc45 dX12_hang_211 ?_
      refine ab_bipush (v := 100) dX12_hang_212 (by decide) ?_
      refine ab_icmp_ne (tgt := 221) dX12_hang_214 (by decide) (fun c46 => ?_) (fun c46 => ?_)
      · have ht := ht.1 c46
        refine ab_iconst (v := 1) dX12_hang_221 (by decide) ?_
        refine ab_iadd dX12_hang_222 ?_
        refine ab_istore (i := 13) (L' := [some (.ref 82), none, none, some (.int x3), some (.int x4), some (.int x5), some (.int x6), some (.int x7), some (.int x8), some (.int x9), some (.int x10), some (.int x11), some (.int x12), some (.int (x13 + 1)), some (.int x14)]) dX12_hang_223 (by exact (Nat.le_of_ble_eq_true rfl)) rfl rfl ?_
        refine ab_iload (i := 12) dX12_hang_225 rfl ?_
        refine ab_iload (i := 7) dX12_hang_227 rfl ?_
        refine ab_iconst (v := 1) dX12_hang_229 (by decide) ?_
        refine ab_iadd dX12_hang_230 ?_
        obtain ⟨hc47, ht⟩ := ht
        refine ab_idiv dX12_hang_231 hc47 ?_
        refine ab_istore (i := 12) (L' := [some (.ref 82), none, none, some (.int x3), some (.int x4), some (.int x5), some (.int x6), some (.int x7), some (.int x8), some (.int x9), some (.int x10), some (.int x11), some (.int (x12 / (x7 + 1))), some (.int (x13 + 1)), some (.int x14)]) dX12_hang_232 (by exact (Nat.le_of_ble_eq_true rfl)) rfl rfl ?_
        refine ab_iinc (i := 14) (x := x14) (v := (x14 + (-1))) (L' := [some (.ref 82), none, none, some (.int x3), some (.int x4), some (.int x5), some (.int x6), some (.int x7), some (.int x8), some (.int x9), some (.int x10), some (.int x11), some (.int (x12 / (x7 + 1))), some (.int (x13 + 1)), some (.int (x14 + (-1)))]) dX12_hang_234 rfl rfl (by exact (Nat.le_of_ble_eq_true rfl)) rfl rfl ?_
        refine ab_goto (tgt := 162) dX12_hang_237 (by decide) ?_
        exact Wp.fewer (L' := [some (.ref 82), none, none, some (.int x3), some (.int x4), some (.int x5), some (.int x6), some (.int x7), some (.int x8), some (.int x9), some (.int x10), some (.int x11), some (.int (x12 / (x7 + 1))), some (.int (x13 + 1)), some (.int (x14 + (-1)))]) (show ab_leL _ _ from ⟨rfl, ⟨rfl, ⟨rfl, ⟨rfl, ⟨rfl, ⟨rfl, ⟨rfl, ⟨rfl, ⟨rfl, ⟨rfl, ⟨rfl, ⟨rfl, ⟨rfl, trivial⟩⟩⟩⟩⟩⟩⟩⟩⟩⟩⟩⟩⟩) ht
      · have ht := ht.2 c46
        refine ab_iconst (v := 0) dX12_hang_217 (by decide) ?_
        refine ab_goto (tgt := 222) dX12_hang_218 (by decide) ?_
        refine ab_iadd dX12_hang_222 ?_
        refine ab_istore (i := 13) (L' := [some (.ref 82), none, none, some (.int x3), some (.int x4), some (.int x5), some (.int x6), some (.int x7), some (.int x8), some (.int x9), some (.int x10), some (.int x11), some (.int x12), some (.int (x13 + 0)), some (.int x14)]) dX12_hang_223 (by exact (Nat.le_of_ble_eq_true rfl)) rfl rfl ?_
        refine ab_iload (i := 12) dX12_hang_225 rfl ?_
        refine ab_iload (i := 7) dX12_hang_227 rfl ?_
        refine ab_iconst (v := 1) dX12_hang_229 (by decide) ?_
        refine ab_iadd dX12_hang_230 ?_
        obtain ⟨hc48, ht⟩ := ht
        refine ab_idiv dX12_hang_231 hc48 ?_
        refine ab_istore (i := 12) (L' := [some (.ref 82), none, none, some (.int x3), some (.int x4), some (.int x5), some (.int x6), some (.int x7), some (.int x8), some (.int x9), some (.int x10), some (.int x11), some (.int (x12 / (x7 + 1))), some (.int (x13 + 0)), some (.int x14)]) dX12_hang_232 (by exact (Nat.le_of_ble_eq_true rfl)) rfl rfl ?_
        refine ab_iinc (i := 14) (x := x14) (v := (x14 + (-1))) (L' := [some (.ref 82), none, none, some (.int x3), some (.int x4), some (.int x5), some (.int x6), some (.int x7), some (.int x8), some (.int x9), some (.int x10), some (.int x11), some (.int (x12 / (x7 + 1))), some (.int (x13 + 0)), some (.int (x14 + (-1)))]) dX12_hang_234 rfl rfl (by exact (Nat.le_of_ble_eq_true rfl)) rfl rfl ?_
        refine ab_goto (tgt := 162) dX12_hang_237 (by decide) ?_
        exact Wp.fewer (L' := [some (.ref 82), none, none, some (.int x3), some (.int x4), some (.int x5), some (.int x6), some (.int x7), some (.int x8), some (.int x9), some (.int x10), some (.int x11), some (.int (x12 / (x7 + 1))), some (.int (x13 + 0)), some (.int (x14 + (-1)))]) (show ab_leL _ _ from ⟨rfl, ⟨rfl, ⟨rfl, ⟨rfl, ⟨rfl, ⟨rfl, ⟨rfl, ⟨rfl, ⟨rfl, ⟨rfl, ⟨rfl, ⟨rfl, ⟨rfl, trivial⟩⟩⟩⟩⟩⟩⟩⟩⟩⟩⟩⟩⟩) ht
set_option maxRecDepth 20000 in
theorem T_X12_hang_253 {Q : Option Value → ah_T → Prop} {h : ah_T} (hs : Sh h) (x3 : Int32) (x4 : Int32) (x5 : Int32) (x6 : Int32) (x7 : Int32) (x8 : Int32) (x9 : Int32) (x10 : Int32) (x11 : Int32) (x13 : Int32) (ht : (Mt mX12_hangs [.ref 82, .int x6, .int x3, .int x4] h (ab_qi fun v51 h49 => Sh h49 ∧ ((¬ v51 = 0 → ((x9 = (-1) → Wp mX12_hang Q 0 0 281 [some (.ref 82), none, none, some (.int x3), some (.int x4), some (.int x5), some (.int x6), some (.int x7), some (.int x8), none, none, some (.int x11), none, some (.int x13), none] [] h49) ∧ (¬ x9 = (-1) → ((x9 ≤ x13 → Wp mX12_hang Q 0 0 318 [some (.ref 82), none, none, some (.int x3), some (.int x4), some (.int x5), some (.int x6), some (.int x7), some (.int x8), some (.int x9), some (.int x10), some (.int x11), none, none, none] [] h49) ∧ (¬ x9 ≤ x13 → Wp mX12_hang Q 0 0 281 [some (.ref 82), none, none, some (.int x3), some (.int x4), some (.int x5), some (.int x6), some (.int x7), some (.int x8), none, none, some (.int x11), none, some (.int x13), none] [] h49))))) ∧ (v51 = 0 → Wp mX12_hang Q 0 0 321 [some (.ref 82), none, none, some (.int x3), some (.int x4), some (.int x5), some (.int x6), some (.int x7), some (.int x8), some (.int x9), some (.int x10), some (.int x11), none, none, none] [] h49))))) : Wp mX12_hang Q 0 0 253 [some (.ref 82), none, none, some (.int x3), some (.int x4), some (.int x5), some (.int x6), some (.int x7), some (.int x8), some (.int x9), some (.int x10), some (.int x11), none, some (.int x13), none] [] h := by
  refine ab_aload_n (i := 0) dX12_hang_253 rfl rfl ?_
  refine ab_iload (i := 6) dX12_hang_254 rfl ?_
  refine ab_iload_n (i := 3) dX12_hang_256 rfl rfl ?_
  refine ab_iload (i := 4) dX12_hang_257 rfl ?_
  refine ab_callV (b := 82) (As := [.int x6, .int x3, .int x4]) ht (Y_X12_hangs) l_X12_468 in_X12_hangs se_X12_hangs (sh_k hs 82 12 (by decide) rfl) (by decide) rfl rfl ⟨(Nat.le_of_ble_eq_true rfl), (Nat.le_of_ble_eq_true rfl), (Nat.le_of_ble_eq_true rfl), (Nat.le_of_ble_eq_true rfl)⟩ dX12_hang_259 ?_
  rintro _ h49 ⟨v51, rfl, hs50, ht⟩
  refine ab_if_ne (tgt := 268) dX12_hang_262 (by decide) (fun c52 => ?_) (fun c52 => ?_)
  · have ht := ht.1 c52
    refine ab_iload (i := 9) dX12_hang_268 rfl ?_
    refine ab_iconst (v := (-1)) dX12_hang_270 (by decide) ?_
    refine ab_icmp_eq (tgt := 281) dX12_hang_271 (by decide) (fun c53 => ?_) (fun c53 => ?_)
    · have ht := ht.1 c53
      exact Wp.fewer (L' := [some (.ref 82), none, none, some (.int x3), some (.int x4), some (.int x5), some (.int x6), some (.int x7), some (.int x8), none, none, some (.int x11), none, some (.int x13), none]) (show ab_leL _ _ from ⟨rfl, ⟨rfl, ⟨rfl, ⟨rfl, ⟨rfl, ⟨rfl, ⟨rfl, ⟨rfl, ⟨rfl, trivial⟩⟩⟩⟩⟩⟩⟩⟩⟩) ht
    · have ht := ht.2 c53
      refine ab_iload (i := 13) dX12_hang_274 rfl ?_
      refine ab_iload (i := 9) dX12_hang_276 rfl ?_
      refine ab_icmp_ge (tgt := 318) dX12_hang_278 (by decide) (fun c54 => ?_) (fun c54 => ?_)
      · have ht := ht.1 c54
        exact Wp.fewer (L' := [some (.ref 82), none, none, some (.int x3), some (.int x4), some (.int x5), some (.int x6), some (.int x7), some (.int x8), some (.int x9), some (.int x10), some (.int x11), none, none, none]) (show ab_leL _ _ from ⟨rfl, ⟨rfl, ⟨rfl, ⟨rfl, ⟨rfl, ⟨rfl, ⟨rfl, ⟨rfl, ⟨rfl, ⟨rfl, trivial⟩⟩⟩⟩⟩⟩⟩⟩⟩⟩) ht
      · have ht := ht.2 c54
        exact Wp.fewer (L' := [some (.ref 82), none, none, some (.int x3), some (.int x4), some (.int x5), some (.int x6), some (.int x7), some (.int x8), none, none, some (.int x11), none, some (.int x13), none]) (show ab_leL _ _ from ⟨rfl, ⟨rfl, ⟨rfl, ⟨rfl, ⟨rfl, ⟨rfl, ⟨rfl, ⟨rfl, ⟨rfl, trivial⟩⟩⟩⟩⟩⟩⟩⟩⟩) ht
  · have ht := ht.2 c52
    refine ab_goto (tgt := 321) dX12_hang_265 (by decide) ?_
    exact Wp.fewer (L' := [some (.ref 82), none, none, some (.int x3), some (.int x4), some (.int x5), some (.int x6), some (.int x7), some (.int x8), some (.int x9), some (.int x10), some (.int x11), none, none, none]) (show ab_leL _ _ from ⟨rfl, ⟨rfl, ⟨rfl, ⟨rfl, ⟨rfl, ⟨rfl, ⟨rfl, ⟨rfl, ⟨rfl, ⟨rfl, trivial⟩⟩⟩⟩⟩⟩⟩⟩⟩⟩) ht
set_option maxRecDepth 20000 in
theorem T_X12_hang_321 {Q : Option Value → ah_T → Prop} {h : ah_T} (hs : Sh h) (x3 : Int32) (x4 : Int32) (x5 : Int32) (x6 : Int32) (x7 : Int32) (x8 : Int32) (x9 : Int32) (x10 : Int32) (x11 : Int32) (ht : Wp mX12_hang Q 0 0 142 [some (.ref 82), none, none, some (.int x3), some (.int x4), some (.int x5), some (.int x6), some (.int x7), some (.int x8), some (.int x9), some (.int x10), some (.int (x11 + 1)), none, none, none] [] h) : Wp mX12_hang Q 0 0 321 [some (.ref 82), none, none, some (.int x3), some (.int x4), some (.int x5), some (.int x6), some (.int x7), some (.int x8), some (.int x9), some (.int x10), some (.int x11), none, none, none] [] h := by
  refine ab_iinc (i := 11) (x := x11) (v := (x11 + 1)) (L' := [some (.ref 82), none, none, some (.int x3), some (.int x4), some (.int x5), some (.int x6), some (.int x7), some (.int x8), some (.int x9), some (.int x10), some (.int (x11 + 1)), none, none, none]) dX12_hang_321 rfl rfl (by exact (Nat.le_of_ble_eq_true rfl)) rfl rfl ?_
  refine ab_goto (tgt := 142) dX12_hang_324 (by decide) ?_
  exact Wp.fewer (L' := [some (.ref 82), none, none, some (.int x3), some (.int x4), some (.int x5), some (.int x6), some (.int x7), some (.int x8), some (.int x9), some (.int x10), some (.int (x11 + 1)), none, none, none]) (show ab_leL _ _ from ⟨rfl, ⟨rfl, ⟨rfl, ⟨rfl, ⟨rfl, ⟨rfl, ⟨rfl, ⟨rfl, ⟨rfl, ⟨rfl, trivial⟩⟩⟩⟩⟩⟩⟩⟩⟩⟩) ht
set_option maxRecDepth 20000 in
theorem T_X12_hang_281 {Q : Option Value → ah_T → Prop} {h : ah_T} (hs : Sh h) (x3 : Int32) (x4 : Int32) (x5 : Int32) (x6 : Int32) (x7 : Int32) (x8 : Int32) (x11 : Int32) (x13 : Int32) (ht : Wp mX12_hang Q 0 0 291 [some (.ref 82), none, none, some (.int x3), some (.int x4), some (.int x5), some (.int x6), some (.int x7), some (.int x8), some (.int x13), some (.int 0), some (.int x11), none, none, some (.int 0)] [] h) : Wp mX12_hang Q 0 0 281 [some (.ref 82), none, none, some (.int x3), some (.int x4), some (.int x5), some (.int x6), some (.int x7), some (.int x8), none, none, some (.int x11), none, some (.int x13), none] [] h := by
  refine ab_iload (i := 13) dX12_hang_281 rfl ?_
  refine ab_istore (i := 9) (L' := [some (.ref 82), none, none, some (.int x3), some (.int x4), some (.int x5), some (.int x6), some (.int x7), some (.int x8), some (.int x13), none, some (.int x11), none, some (.int x13), none]) dX12_hang_283 (by exact (Nat.le_of_ble_eq_true rfl)) rfl rfl ?_
  refine ab_iconst (v := 0) dX12_hang_285 (by decide) ?_
  refine ab_istore (i := 10) (L' := [some (.ref 82), none, none, some (.int x3), some (.int x4), some (.int x5), some (.int x6), some (.int x7), some (.int x8), some (.int x13), some (.int 0), some (.int x11), none, some (.int x13), none]) dX12_hang_286 (by exact (Nat.le_of_ble_eq_true rfl)) rfl rfl ?_
  refine ab_iconst (v := 0) dX12_hang_288 (by decide) ?_
  refine ab_istore (i := 14) (L' := [some (.ref 82), none, none, some (.int x3), some (.int x4), some (.int x5), some (.int x6), some (.int x7), some (.int x8), some (.int x13), some (.int 0), some (.int x11), none, some (.int x13), some (.int 0)]) dX12_hang_289 (by exact (Nat.le_of_ble_eq_true rfl)) rfl rfl ?_
  exact Wp.fewer (L' := [some (.ref 82), none, none, some (.int x3), some (.int x4), some (.int x5), some (.int x6), some (.int x7), some (.int x8), some (.int x13), some (.int 0), some (.int x11), none, none, some (.int 0)]) (show ab_leL _ _ from ⟨rfl, ⟨rfl, ⟨rfl, ⟨rfl, ⟨rfl, ⟨rfl, ⟨rfl, ⟨rfl, ⟨rfl, ⟨rfl, ⟨rfl, trivial⟩⟩⟩⟩⟩⟩⟩⟩⟩⟩⟩) ht
set_option maxRecDepth 20000 in
theorem T_X12_hang_318 {Q : Option Value → ah_T → Prop} {h : ah_T} (hs : Sh h) (x3 : Int32) (x4 : Int32) (x5 : Int32) (x6 : Int32) (x7 : Int32) (x8 : Int32) (x9 : Int32) (x10 : Int32) (x11 : Int32) (ht : Wp mX12_hang Q 0 0 321 [some (.ref 82), none, none, some (.int x3), some (.int x4), some (.int x5), some (.int x6), some (.int x7), some (.int x8), some (.int x9), some (.int (x10 + 1)), some (.int x11), none, none, none] [] h) : Wp mX12_hang Q 0 0 318 [some (.ref 82), none, none, some (.int x3), some (.int x4), some (.int x5), some (.int x6), some (.int x7), some (.int x8), some (.int x9), some (.int x10), some (.int x11), none, none, none] [] h := by
  refine ab_iinc (i := 10) (x := x10) (v := (x10 + 1)) (L' := [some (.ref 82), none, none, some (.int x3), some (.int x4), some (.int x5), some (.int x6), some (.int x7), some (.int x8), some (.int x9), some (.int (x10 + 1)), some (.int x11), none, none, none]) dX12_hang_318 rfl rfl (by exact (Nat.le_of_ble_eq_true rfl)) rfl rfl ?_
  exact Wp.fewer (L' := [some (.ref 82), none, none, some (.int x3), some (.int x4), some (.int x5), some (.int x6), some (.int x7), some (.int x8), some (.int x9), some (.int (x10 + 1)), some (.int x11), none, none, none]) (show ab_leL _ _ from ⟨rfl, ⟨rfl, ⟨rfl, ⟨rfl, ⟨rfl, ⟨rfl, ⟨rfl, ⟨rfl, ⟨rfl, ⟨rfl, trivial⟩⟩⟩⟩⟩⟩⟩⟩⟩⟩) ht
set_option maxRecDepth 20000 in
theorem T_X12_hang_291 {Q : Option Value → ah_T → Prop} {h : ah_T} (hs : Sh h) (x3 : Int32) (x4 : Int32) (x5 : Int32) (x6 : Int32) (x7 : Int32) (x8 : Int32) (x9 : Int32) (x10 : Int32) (x11 : Int32) (x14 : Int32) (ht : ((x6 ≤ x14 → Wp mX12_hang Q 0 0 318 [some (.ref 82), none, none, some (.int x3), some (.int x4), some (.int x5), some (.int x6), some (.int x7), some (.int x8), some (.int x9), some (.int x10), some (.int x11), none, none, none] [] h) ∧ (¬ x6 ≤ x14 → (vp_in x14 (ah_n h 118)) ∧ (vp_in x14 (ah_n h 119)) ∧ (∀ h58, h58 = ah_si h 119 (Int32.toNatClampNeg x14) (ah_i h 118 (Int32.toNatClampNeg x14)) → Wp mX12_hang Q 0 0 291 [some (.ref 82), none, none, some (.int x3), some (.int x4), some (.int x5), some (.int x6), some (.int x7), some (.int x8), some (.int x9), some (.int x10), some (.int x11), none, none, some (.int (x14 + 1))] [] h58)))) : Wp mX12_hang Q 0 0 291 [some (.ref 82), none, none, some (.int x3), some (.int x4), some (.int x5), some (.int x6), some (.int x7), some (.int x8), some (.int x9), some (.int x10), some (.int x11), none, none, some (.int x14)] [] h := by
  refine ab_iload (i := 14) dX12_hang_291 rfl ?_
  refine ab_iload (i := 6) dX12_hang_293 rfl ?_
  refine ab_icmp_ge (tgt := 318) dX12_hang_295 (by decide) (fun c55 => ?_) (fun c55 => ?_)
  · have ht := ht.1 c55
    exact Wp.fewer (L' := [some (.ref 82), none, none, some (.int x3), some (.int x4), some (.int x5), some (.int x6), some (.int x7), some (.int x8), some (.int x9), some (.int x10), some (.int x11), none, none, none]) (show ab_leL _ _ from ⟨rfl, ⟨rfl, ⟨rfl, ⟨rfl, ⟨rfl, ⟨rfl, ⟨rfl, ⟨rfl, ⟨rfl, ⟨rfl, trivial⟩⟩⟩⟩⟩⟩⟩⟩⟩⟩) ht
  · have ht := ht.2 c55
    refine ab_aload_n (i := 0) dX12_hang_298 rfl rfl ?_
    refine ab_getR (b := 119) f_X12_137 rfl (sh_k hs 82 12 (by decide) rfl) (sh_r hs 135 rfl) dX12_hang_299 ?_
    refine ab_iload (i := 14) dX12_hang_302 rfl ?_
    refine ab_aload_n (i := 0) dX12_hang_304 rfl rfl ?_
    refine ab_getR (b := 118) f_X12_134 rfl (sh_k hs 82 12 (by decide) rfl) (sh_r hs 134 rfl) dX12_hang_305 ?_
    refine ab_iload (i := 14) dX12_hang_308 rfl ?_
    obtain ⟨hc56, ht⟩ := ht
    refine ab_iald (sh_k hs 118 14 (by decide) rfl) hc56 dX12_hang_310 ?_
    obtain ⟨hc57, ht⟩ := ht
    refine ab_iast (sh_k hs 119 14 (by decide) rfl) hc57 dX12_hang_311 ?_
    refine Wp.nm fun h58 e59 => ?_
    have ht := ht h58 e59
    have hs60 : Sh h58 := by rw [e59]; exact sh_si hs
    refine ab_iinc (i := 14) (x := x14) (v := (x14 + 1)) (L' := [some (.ref 82), none, none, some (.int x3), some (.int x4), some (.int x5), some (.int x6), some (.int x7), some (.int x8), some (.int x9), some (.int x10), some (.int x11), none, none, some (.int (x14 + 1))]) dX12_hang_312 rfl rfl (by exact (Nat.le_of_ble_eq_true rfl)) rfl rfl ?_
    refine ab_goto (tgt := 291) dX12_hang_315 (by decide) ?_
    exact Wp.fewer (L' := [some (.ref 82), none, none, some (.int x3), some (.int x4), some (.int x5), some (.int x6), some (.int x7), some (.int x8), some (.int x9), some (.int x10), some (.int x11), none, none, some (.int (x14 + 1))]) (show ab_leL _ _ from ⟨rfl, ⟨rfl, ⟨rfl, ⟨rfl, ⟨rfl, ⟨rfl, ⟨rfl, ⟨rfl, ⟨rfl, ⟨rfl, ⟨rfl, trivial⟩⟩⟩⟩⟩⟩⟩⟩⟩⟩⟩) ht
set_option maxRecDepth 20000 in
theorem T_X12_hang {Q : Option Value → ah_T → Prop} {h : ah_T} (hs : Sh h) (x1 : Int32) (x2 : Int32) (x3 : Int32) (x4 : Int32) (x5 : Int32) (ht : (((f_X12_lies x1 1 4095) = 0 → Wp mX12_hang Q 0 0 40 [none, none, none, none, none, none, none, none, none, none, none, none, none, none, none] [] h) ∧ (¬ (f_X12_lies x1 1 4095) = 0 → (((f_X12_lies x2 1 63) = 0 → Wp mX12_hang Q 0 0 40 [none, none, none, none, none, none, none, none, none, none, none, none, none, none, none] [] h) ∧ (¬ (f_X12_lies x2 1 63) = 0 → (((f_X12_lies x3 1 4095) = 0 → Wp mX12_hang Q 0 0 40 [none, none, none, none, none, none, none, none, none, none, none, none, none, none, none] [] h) ∧ (¬ (f_X12_lies x3 1 4095) = 0 → ((¬ (f_X12_isMinute x4) = 0 → (Mt mX12_bitsTo [.int x1, .ref 117, .int 6] h (ab_qi fun v7 h5 => Sh h5 ∧ (Mt mX12_bitsTo [.int x2, .ref 120, .int 3] h5 (ab_qi fun v10 h8 => Sh h8 ∧ ((6 < v7 → Wp mX12_hang Q 0 0 91 [none, none, none, none, none, none, none, none, none, none, none, none, none, none, none] [] h8) ∧ (¬ 6 < v7 → ((3 < v10 → Wp mX12_hang Q 0 0 91 [none, none, none, none, none, none, none, none, none, none, none, none, none, none, none] [] h8) ∧ (¬ 3 < v10 → ((¬ (f_X12_lies x5 0 (1 + v7)) = 0 → (Mt mX12_shutNow [.ref 82] h8 (ab_qi fun v16 h14 => Sh h14 ∧ (Mt mX12_measures [.ref 82, .ref 99, .int v16] h14 (ab_qv fun h17 => Sh h17 ∧ Wp mX12_hang Q 0 0 111 [some (.ref 82), none, none, some (.int x3), some (.int x4), some (.int x5), some (.int v7), some (.int v10), some (.int 1), some (.int 0), none, none, none, none, none] [] h17))))) ∧ ((f_X12_lies x5 0 (1 + v7)) = 0 → Wp mX12_hang Q 0 0 91 [none, none, none, none, none, none, none, none, none, none, none, none, none, none, none] [] h8))))))))))) ∧ ((f_X12_isMinute x4) = 0 → Wp mX12_hang Q 0 0 40 [none, none, none, none, none, none, none, none, none, none, none, none, none, none, none] [] h))))))))) : Mt mX12_hang [.ref 82, .int x1, .int x2, .int x3, .int x4, .int x5] h Q := by
  refine Mt.ofWp rfl (by exact (Nat.le_of_ble_eq_true rfl)) (Wp.fewer (L' := [some (.ref 82), some (.int x1), some (.int x2), some (.int x3), some (.int x4), some (.int x5), none, none, none, none, none, none, none, none, none]) (show ab_leL _ _ from ⟨rfl, ⟨rfl, ⟨rfl, ⟨rfl, ⟨rfl, ⟨rfl, trivial⟩⟩⟩⟩⟩⟩) ?_)
  refine ab_iload_n (i := 1) dX12_hang_0 rfl rfl ?_
  refine ab_iconst (v := 1) dX12_hang_1 (by decide) ?_
  refine ab_sipush (v := 4095) dX12_hang_2 (by decide) ?_
  refine ab_callS (Q' := fun r h' => r = some (.int (f_X12_lies x1 1 4095)) ∧ h = h') (As := [.int x1, .int 1, .int 4095]) (c_X12_lies hs x1 1 4095 ⟨rfl, rfl⟩) (Y_X12_lies) l_X12_156 st_X12_lies rfl ⟨(Nat.le_of_ble_eq_true rfl), (Nat.le_of_ble_eq_true rfl), (Nat.le_of_ble_eq_true rfl), (Nat.le_of_ble_eq_true rfl)⟩ dX12_hang_5 ?_
  rintro _ _ ⟨rfl, rfl⟩
  refine ab_if_eq (tgt := 40) dX12_hang_8 (by decide) (fun c1 => ?_) (fun c1 => ?_)
  · have ht := ht.1 c1
    exact Wp.fewer (L' := [none, none, none, none, none, none, none, none, none, none, none, none, none, none, none]) (show ab_leL _ _ from trivial) ht
  · have ht := ht.2 c1
    refine ab_iload_n (i := 2) dX12_hang_11 rfl rfl ?_
    refine ab_iconst (v := 1) dX12_hang_12 (by decide) ?_
    refine ab_bipush (v := 63) dX12_hang_13 (by decide) ?_
    refine ab_callS (Q' := fun r h' => r = some (.int (f_X12_lies x2 1 63)) ∧ h = h') (As := [.int x2, .int 1, .int 63]) (c_X12_lies hs x2 1 63 ⟨rfl, rfl⟩) (Y_X12_lies) l_X12_156 st_X12_lies rfl ⟨(Nat.le_of_ble_eq_true rfl), (Nat.le_of_ble_eq_true rfl), (Nat.le_of_ble_eq_true rfl), (Nat.le_of_ble_eq_true rfl)⟩ dX12_hang_15 ?_
    rintro _ _ ⟨rfl, rfl⟩
    refine ab_if_eq (tgt := 40) dX12_hang_18 (by decide) (fun c2 => ?_) (fun c2 => ?_)
    · have ht := ht.1 c2
      exact Wp.fewer (L' := [none, none, none, none, none, none, none, none, none, none, none, none, none, none, none]) (show ab_leL _ _ from trivial) ht
    · have ht := ht.2 c2
      refine ab_iload_n (i := 3) dX12_hang_21 rfl rfl ?_
      refine ab_iconst (v := 1) dX12_hang_22 (by decide) ?_
      refine ab_sipush (v := 4095) dX12_hang_23 (by decide) ?_
      refine ab_callS (Q' := fun r h' => r = some (.int (f_X12_lies x3 1 4095)) ∧ h = h') (As := [.int x3, .int 1, .int 4095]) (c_X12_lies hs x3 1 4095 ⟨rfl, rfl⟩) (Y_X12_lies) l_X12_156 st_X12_lies rfl ⟨(Nat.le_of_ble_eq_true rfl), (Nat.le_of_ble_eq_true rfl), (Nat.le_of_ble_eq_true rfl), (Nat.le_of_ble_eq_true rfl)⟩ dX12_hang_26 ?_
      rintro _ _ ⟨rfl, rfl⟩
      refine ab_if_eq (tgt := 40) dX12_hang_29 (by decide) (fun c3 => ?_) (fun c3 => ?_)
      · have ht := ht.1 c3
        exact Wp.fewer (L' := [none, none, none, none, none, none, none, none, none, none, none, none, none, none, none]) (show ab_leL _ _ from trivial) ht
      · have ht := ht.2 c3
        refine ab_iload (i := 4) dX12_hang_32 rfl ?_
        refine ab_callS (Q' := fun r h' => r = some (.int (f_X12_isMinute x4)) ∧ h = h') (As := [.int x4]) (c_X12_isMinute hs x4 ⟨rfl, rfl⟩) (Y_X12_isMinute) l_X12_201 st_X12_isMinute rfl ⟨(Nat.le_of_ble_eq_true rfl), (Nat.le_of_ble_eq_true rfl), (Nat.le_of_ble_eq_true rfl), (Nat.le_of_ble_eq_true rfl)⟩ dX12_hang_34 ?_
        rintro _ _ ⟨rfl, rfl⟩
        refine ab_if_ne (tgt := 42) dX12_hang_37 (by decide) (fun c4 => ?_) (fun c4 => ?_)
        · have ht := ht.1 c4
          refine ab_iload_n (i := 1) dX12_hang_42 rfl rfl ?_
          refine ab_aload_n (i := 0) dX12_hang_43 rfl rfl ?_
          refine ab_getR (b := 117) f_X12_131 rfl (sh_k hs 82 12 (by decide) rfl) (sh_r hs 133 rfl) dX12_hang_44 ?_
          refine ab_bipush (v := 6) dX12_hang_47 (by decide) ?_
          refine ab_callS (As := [.int x1, .ref 117, .int 6]) ht (Y_X12_bitsTo) l_X12_464 st_X12_bitsTo rfl ⟨(Nat.le_of_ble_eq_true rfl), (Nat.le_of_ble_eq_true rfl), (Nat.le_of_ble_eq_true rfl), (Nat.le_of_ble_eq_true rfl)⟩ dX12_hang_49 ?_
          rintro _ h5 ⟨v7, rfl, hs6, ht⟩
          refine ab_istore (i := 6) (L' := [some (.ref 82), some (.int x1), some (.int x2), some (.int x3), some (.int x4), some (.int x5), some (.int v7), none, none, none, none, none, none, none, none]) dX12_hang_52 (by exact (Nat.le_of_ble_eq_true rfl)) rfl rfl ?_
          refine ab_iload_n (i := 2) dX12_hang_54 rfl rfl ?_
          refine ab_aload_n (i := 0) dX12_hang_55 rfl rfl ?_
          refine ab_getR (b := 120) f_X12_140 rfl (sh_k hs6 82 12 (by decide) rfl) (sh_r hs6 136 rfl) dX12_hang_56 ?_
          refine ab_iconst (v := 3) dX12_hang_59 (by decide) ?_
          refine ab_callS (As := [.int x2, .ref 120, .int 3]) ht (Y_X12_bitsTo) l_X12_464 st_X12_bitsTo rfl ⟨(Nat.le_of_ble_eq_true rfl), (Nat.le_of_ble_eq_true rfl), (Nat.le_of_ble_eq_true rfl), (Nat.le_of_ble_eq_true rfl)⟩ dX12_hang_60 ?_
          rintro _ h8 ⟨v10, rfl, hs9, ht⟩
          refine ab_istore (i := 7) (L' := [some (.ref 82), some (.int x1), some (.int x2), some (.int x3), some (.int x4), some (.int x5), some (.int v7), some (.int v10), none, none, none, none, none, none, none]) dX12_hang_63 (by exact (Nat.le_of_ble_eq_true rfl)) rfl rfl ?_
          refine ab_iload (i := 6) dX12_hang_65 rfl ?_
          refine ab_bipush (v := 6) dX12_hang_67 (by decide) ?_
          refine ab_icmp_gt (tgt := 91) dX12_hang_69 (by decide) (fun c11 => ?_) (fun c11 => ?_)
          · have ht := ht.1 c11
            exact Wp.fewer (L' := [none, none, none, none, none, none, none, none, none, none, none, none, none, none, none]) (show ab_leL _ _ from trivial) ht
          · have ht := ht.2 c11
            refine ab_iload (i := 7) dX12_hang_72 rfl ?_
            refine ab_iconst (v := 3) dX12_hang_74 (by decide) ?_
            refine ab_icmp_gt (tgt := 91) dX12_hang_75 (by decide) (fun c12 => ?_) (fun c12 => ?_)
            · have ht := ht.1 c12
              exact Wp.fewer (L' := [none, none, none, none, none, none, none, none, none, none, none, none, none, none, none]) (show ab_leL _ _ from trivial) ht
            · have ht := ht.2 c12
              refine ab_iload (i := 5) dX12_hang_78 rfl ?_
              refine ab_iconst (v := 0) dX12_hang_80 (by decide) ?_
              refine ab_iconst (v := 1) dX12_hang_81 (by decide) ?_
              refine ab_iload (i := 6) dX12_hang_82 rfl ?_
              refine ab_iadd dX12_hang_84 ?_
              refine ab_callS (Q' := fun r h' => r = some (.int (f_X12_lies x5 0 (1 + v7))) ∧ h8 = h') (As := [.int x5, .int 0, .int (1 + v7)]) (c_X12_lies hs9 x5 0 (1 + v7) ⟨rfl, rfl⟩) (Y_X12_lies) l_X12_156 st_X12_lies rfl ⟨(Nat.le_of_ble_eq_true rfl), (Nat.le_of_ble_eq_true rfl), (Nat.le_of_ble_eq_true rfl), (Nat.le_of_ble_eq_true rfl)⟩ dX12_hang_85 ?_
              rintro _ _ ⟨rfl, rfl⟩
              refine ab_if_ne (tgt := 93) dX12_hang_88 (by decide) (fun c13 => ?_) (fun c13 => ?_)
              · have ht := ht.1 c13
                refine ab_aload_n (i := 0) dX12_hang_93 rfl rfl ?_
                refine ab_aload_n (i := 0) dX12_hang_94 rfl rfl ?_
                refine ab_getR (b := 99) f_X12_74 rfl (sh_k hs9 82 12 (by decide) rfl) (sh_r hs9 115 rfl) dX12_hang_95 ?_
                refine ab_aload_n (i := 0) dX12_hang_98 rfl rfl ?_
                refine ab_callV (b := 82) (As := []) ht (Y_X12_shutNow) l_X12_370 in_X12_shutNow se_X12_shutNow (sh_k hs9 82 12 (by decide) rfl) (by decide) rfl rfl ⟨(Nat.le_of_ble_eq_true rfl), (Nat.le_of_ble_eq_true rfl), (Nat.le_of_ble_eq_true rfl), (Nat.le_of_ble_eq_true rfl)⟩ dX12_hang_99 ?_
                rintro _ h14 ⟨v16, rfl, hs15, ht⟩
                refine ab_callV (b := 82) (As := [.ref 99, .int v16]) ht (Y_X12_measures) l_X12_374 in_X12_measures se_X12_measures (sh_k hs15 82 12 (by decide) rfl) (by decide) rfl rfl ⟨(Nat.le_of_ble_eq_true rfl), (Nat.le_of_ble_eq_true rfl), (Nat.le_of_ble_eq_true rfl), (Nat.le_of_ble_eq_true rfl)⟩ dX12_hang_102 ?_
                rintro _ h17 ⟨rfl, hs18, ht⟩
                refine ab_iconst (v := 1) dX12_hang_105 (by decide) ?_
                refine ab_istore (i := 8) (L' := [some (.ref 82), some (.int x1), some (.int x2), some (.int x3), some (.int x4), some (.int x5), some (.int v7), some (.int v10), some (.int 1), none, none, none, none, none, none]) dX12_hang_106 (by exact (Nat.le_of_ble_eq_true rfl)) rfl rfl ?_
                refine ab_iconst (v := 0) dX12_hang_108 (by decide) ?_
                refine ab_istore (i := 9) (L' := [some (.ref 82), some (.int x1), some (.int x2), some (.int x3), some (.int x4), some (.int x5), some (.int v7), some (.int v10), some (.int 1), some (.int 0), none, none, none, none, none]) dX12_hang_109 (by exact (Nat.le_of_ble_eq_true rfl)) rfl rfl ?_
                exact Wp.fewer (L' := [some (.ref 82), none, none, some (.int x3), some (.int x4), some (.int x5), some (.int v7), some (.int v10), some (.int 1), some (.int 0), none, none, none, none, none]) (show ab_leL _ _ from ⟨rfl, ⟨rfl, ⟨rfl, ⟨rfl, ⟨rfl, ⟨rfl, ⟨rfl, ⟨rfl, trivial⟩⟩⟩⟩⟩⟩⟩⟩) ht
              · have ht := ht.2 c13
                exact Wp.fewer (L' := [none, none, none, none, none, none, none, none, none, none, none, none, none, none, none]) (show ab_leL _ _ from trivial) ht
        · have ht := ht.2 c4
          exact Wp.fewer (L' := [none, none, none, none, none, none, none, none, none, none, none, none, none, none, none]) (show ab_leL _ _ from trivial) ht
theorem dX12_triesShut_0 : decode cX12_triesShut 0 = .ok (.aload_n 0, 1) := by decide +kernel
theorem dX12_triesShut_1 : decode cX12_triesShut 1 = .ok (.invokevirtual 370, 3) := by decide +kernel
theorem dX12_triesShut_4 : decode cX12_triesShut 4 = .ok (.istore_n 2, 1) := by decide +kernel
theorem dX12_triesShut_5 : decode cX12_triesShut 5 = .ok (.iload_n 1, 1) := by decide +kernel
theorem dX12_triesShut_6 : decode cX12_triesShut 6 = .ok (.iload_n 2, 1) := by decide +kernel
theorem dX12_triesShut_7 : decode cX12_triesShut 7 = .ok (.iand, 1) := by decide +kernel
theorem dX12_triesShut_8 : decode cX12_triesShut 8 = .ok (.ifCond .eq 4, 3) := by decide +kernel
theorem dX12_triesShut_11 : decode cX12_triesShut 11 = .ok (.return_, 1) := by decide +kernel
theorem dX12_triesShut_12 : decode cX12_triesShut 12 = .ok (.aload_n 0, 1) := by decide +kernel
theorem dX12_triesShut_13 : decode cX12_triesShut 13 = .ok (.invokevirtual 416, 3) := by decide +kernel
theorem dX12_triesShut_16 : decode cX12_triesShut 16 = .ok (.aload_n 0, 1) := by decide +kernel
theorem dX12_triesShut_17 : decode cX12_triesShut 17 = .ok (.aload_n 0, 1) := by decide +kernel
theorem dX12_triesShut_18 : decode cX12_triesShut 18 = .ok (.getfield 74, 3) := by decide +kernel
theorem dX12_triesShut_21 : decode cX12_triesShut 21 = .ok (.iload_n 1, 1) := by decide +kernel
theorem dX12_triesShut_22 : decode cX12_triesShut 22 = .ok (.iload_n 2, 1) := by decide +kernel
theorem dX12_triesShut_23 : decode cX12_triesShut 23 = .ok (.ior, 1) := by decide +kernel
theorem dX12_triesShut_24 : decode cX12_triesShut 24 = .ok (.invokevirtual 374, 3) := by decide +kernel
theorem dX12_triesShut_27 : decode cX12_triesShut 27 = .ok (.aload_n 0, 1) := by decide +kernel
theorem dX12_triesShut_28 : decode cX12_triesShut 28 = .ok (.iconst 1, 1) := by decide +kernel
theorem dX12_triesShut_29 : decode cX12_triesShut 29 = .ok (.invokevirtual 455, 3) := by decide +kernel
theorem dX12_triesShut_32 : decode cX12_triesShut 32 = .ok (.aload_n 0, 1) := by decide +kernel
theorem dX12_triesShut_33 : decode cX12_triesShut 33 = .ok (.getfield 390, 3) := by decide +kernel
theorem dX12_triesShut_36 : decode cX12_triesShut 36 = .ok (.ifCond .le 4, 3) := by decide +kernel
theorem dX12_triesShut_39 : decode cX12_triesShut 39 = .ok (.return_, 1) := by decide +kernel
theorem dX12_triesShut_40 : decode cX12_triesShut 40 = .ok (.aload_n 0, 1) := by decide +kernel
theorem dX12_triesShut_41 : decode cX12_triesShut 41 = .ok (.getfield 471, 3) := by decide +kernel
theorem dX12_triesShut_44 : decode cX12_triesShut 44 = .ok (.iconst (-1), 1) := by decide +kernel
theorem dX12_triesShut_45 : decode cX12_triesShut 45 = .ok (.if_icmp .ne 8, 3) := by decide +kernel
theorem dX12_triesShut_48 : decode cX12_triesShut 48 = .ok (.aload_n 0, 1) := by decide +kernel
theorem dX12_triesShut_49 : decode cX12_triesShut 49 = .ok (.iload_n 1, 1) := by decide +kernel
theorem dX12_triesShut_50 : decode cX12_triesShut 50 = .ok (.putfield 471, 3) := by decide +kernel
theorem dX12_triesShut_53 : decode cX12_triesShut 53 = .ok (.aload_n 0, 1) := by decide +kernel
theorem dX12_triesShut_54 : decode cX12_triesShut 54 = .ok (.dup, 1) := by decide +kernel
theorem dX12_triesShut_55 : decode cX12_triesShut 55 = .ok (.getfield 474, 3) := by decide +kernel
theorem dX12_triesShut_58 : decode cX12_triesShut 58 = .ok (.iconst 1, 1) := by decide +kernel
theorem dX12_triesShut_59 : decode cX12_triesShut 59 = .ok (.iadd, 1) := by decide +kernel
theorem dX12_triesShut_60 : decode cX12_triesShut 60 = .ok (.putfield 474, 3) := by decide +kernel
theorem dX12_triesShut_63 : decode cX12_triesShut 63 = .ok (.return_, 1) := by decide +kernel
set_option maxRecDepth 20000 in
theorem T_X12_triesShut {Q : Option Value → ah_T → Prop} {h : ah_T} (hs : Sh h) (x1 : Int32) (ht : (Mt mX12_shutNow [.ref 82] h (ab_qi fun v3 h1 => Sh h1 ∧ (((x1 &&& v3) = 0 → (Mt mX12_looks [.ref 82] h1 (ab_qv fun h5 => Sh h5 ∧ (Mt mX12_measures [.ref 82, .ref 99, .int (x1 ||| v3)] h5 (ab_qv fun h8 => Sh h8 ∧ (Mt mX12_tries [.ref 82, .int 1] h8 (ab_qv fun h11 => Sh h11 ∧ (((ah_i h11 82 48) ≤ 0 → ((¬ (ah_i h11 82 60) = (-1) → (∀ h16, h16 = ah_si h11 82 61 ((ah_i h11 82 61) + 1) → Q none h16)) ∧ ((ah_i h11 82 60) = (-1) → (∀ h19, h19 = ah_si h11 82 60 x1 → (∀ h22, h22 = ah_si h19 82 61 ((ah_i h19 82 61) + 1) → Q none h22))))) ∧ (¬ (ah_i h11 82 48) ≤ 0 → Q none h11))))))))) ∧ (¬ (x1 &&& v3) = 0 → Q none h1))))) : Mt mX12_triesShut [.ref 82, .int x1] h Q := by
  refine Mt.ofWp rfl (by exact (Nat.le_of_ble_eq_true rfl)) (Wp.fewer (L' := [some (.ref 82), some (.int x1), none]) (show ab_leL _ _ from ⟨rfl, ⟨rfl, trivial⟩⟩) ?_)
  refine ab_aload_n (i := 0) dX12_triesShut_0 rfl rfl ?_
  refine ab_callV (b := 82) (As := []) ht (Y_X12_shutNow) l_X12_370 in_X12_shutNow se_X12_shutNow (sh_k hs 82 12 (by decide) rfl) (by decide) rfl rfl ⟨(Nat.le_of_ble_eq_true rfl), (Nat.le_of_ble_eq_true rfl), (Nat.le_of_ble_eq_true rfl), (Nat.le_of_ble_eq_true rfl)⟩ dX12_triesShut_1 ?_
  rintro _ h1 ⟨v3, rfl, hs2, ht⟩
  refine ab_istore_n (i := 2) (L' := [some (.ref 82), some (.int x1), some (.int v3)]) dX12_triesShut_4 rfl (by exact (Nat.le_of_ble_eq_true rfl)) rfl rfl ?_
  refine ab_iload_n (i := 1) dX12_triesShut_5 rfl rfl ?_
  refine ab_iload_n (i := 2) dX12_triesShut_6 rfl rfl ?_
  refine ab_iand dX12_triesShut_7 ?_
  refine ab_if_eq (tgt := 12) dX12_triesShut_8 (by decide) (fun c4 => ?_) (fun c4 => ?_)
  · have ht := ht.1 c4
    refine ab_aload_n (i := 0) dX12_triesShut_12 rfl rfl ?_
    refine ab_callV (b := 82) (As := []) ht (Y_X12_looks) l_X12_416 in_X12_looks se_X12_looks (sh_k hs2 82 12 (by decide) rfl) (by decide) rfl rfl ⟨(Nat.le_of_ble_eq_true rfl), (Nat.le_of_ble_eq_true rfl), (Nat.le_of_ble_eq_true rfl), (Nat.le_of_ble_eq_true rfl)⟩ dX12_triesShut_13 ?_
    rintro _ h5 ⟨rfl, hs6, ht⟩
    refine ab_aload_n (i := 0) dX12_triesShut_16 rfl rfl ?_
    refine ab_aload_n (i := 0) dX12_triesShut_17 rfl rfl ?_
    refine ab_getR (b := 99) f_X12_74 rfl (sh_k hs6 82 12 (by decide) rfl) (sh_r hs6 115 rfl) dX12_triesShut_18 ?_
    refine ab_iload_n (i := 1) dX12_triesShut_21 rfl rfl ?_
    refine ab_iload_n (i := 2) dX12_triesShut_22 rfl rfl ?_
    refine ab_ior dX12_triesShut_23 ?_
    refine ab_callV (b := 82) (As := [.ref 99, .int (x1 ||| v3)]) ht (Y_X12_measures) l_X12_374 in_X12_measures se_X12_measures (sh_k hs6 82 12 (by decide) rfl) (by decide) rfl rfl ⟨(Nat.le_of_ble_eq_true rfl), (Nat.le_of_ble_eq_true rfl), (Nat.le_of_ble_eq_true rfl), (Nat.le_of_ble_eq_true rfl)⟩ dX12_triesShut_24 ?_
    rintro _ h8 ⟨rfl, hs9, ht⟩
    refine ab_aload_n (i := 0) dX12_triesShut_27 rfl rfl ?_
    refine ab_iconst (v := 1) dX12_triesShut_28 (by decide) ?_
    refine ab_callV (b := 82) (As := [.int 1]) ht (Y_X12_tries) l_X12_455 in_X12_tries se_X12_tries (sh_k hs9 82 12 (by decide) rfl) (by decide) rfl rfl ⟨(Nat.le_of_ble_eq_true rfl), (Nat.le_of_ble_eq_true rfl), (Nat.le_of_ble_eq_true rfl), (Nat.le_of_ble_eq_true rfl)⟩ dX12_triesShut_29 ?_
    rintro _ h11 ⟨rfl, hs12, ht⟩
    refine ab_aload_n (i := 0) dX12_triesShut_32 rfl rfl ?_
    refine ab_getI f_X12_390 rfl (sh_k hs12 82 12 (by decide) rfl) dX12_triesShut_33 ?_
    refine ab_if_le (tgt := 40) dX12_triesShut_36 (by decide) (fun c14 => ?_) (fun c14 => ?_)
    · have ht := ht.1 c14
      refine ab_aload_n (i := 0) dX12_triesShut_40 rfl rfl ?_
      refine ab_getI f_X12_471 rfl (sh_k hs12 82 12 (by decide) rfl) dX12_triesShut_41 ?_
      refine ab_iconst (v := (-1)) dX12_triesShut_44 (by decide) ?_
      refine ab_icmp_ne (tgt := 53) dX12_triesShut_45 (by decide) (fun c15 => ?_) (fun c15 => ?_)
      · have ht := ht.1 c15
        refine ab_aload_n (i := 0) dX12_triesShut_53 rfl rfl ?_
        refine ab_dup dX12_triesShut_54 rfl ?_
        refine ab_getI f_X12_474 rfl (sh_k hs12 82 12 (by decide) rfl) dX12_triesShut_55 ?_
        refine ab_iconst (v := 1) dX12_triesShut_58 (by decide) ?_
        refine ab_iadd dX12_triesShut_59 ?_
        refine ab_putI f_X12_474 (Or.inl rfl) rfl (sh_k hs12 82 12 (by decide) rfl) rfl rfl dX12_triesShut_60 ?_
        refine Wp.nm fun h16 e17 => ?_
        have ht := ht h16 e17
        have hs18 : Sh h16 := by rw [e17]; exact sh_si hs12
        exact ab_vret rfl dX12_triesShut_63 (Nat.le_of_ble_eq_true rfl) (Nat.le_of_ble_eq_true rfl) ht
      · have ht := ht.2 c15
        refine ab_aload_n (i := 0) dX12_triesShut_48 rfl rfl ?_
        refine ab_iload_n (i := 1) dX12_triesShut_49 rfl rfl ?_
        refine ab_putI f_X12_471 (Or.inl rfl) rfl (sh_k hs12 82 12 (by decide) rfl) rfl rfl dX12_triesShut_50 ?_
        refine Wp.nm fun h19 e20 => ?_
        have ht := ht h19 e20
        have hs21 : Sh h19 := by rw [e20]; exact sh_si hs12
        refine ab_aload_n (i := 0) dX12_triesShut_53 rfl rfl ?_
        refine ab_dup dX12_triesShut_54 rfl ?_
        refine ab_getI f_X12_474 rfl (sh_k hs21 82 12 (by decide) rfl) dX12_triesShut_55 ?_
        refine ab_iconst (v := 1) dX12_triesShut_58 (by decide) ?_
        refine ab_iadd dX12_triesShut_59 ?_
        refine ab_putI f_X12_474 (Or.inl rfl) rfl (sh_k hs21 82 12 (by decide) rfl) rfl rfl dX12_triesShut_60 ?_
        refine Wp.nm fun h22 e23 => ?_
        have ht := ht h22 e23
        have hs24 : Sh h22 := by rw [e23]; exact sh_si hs21
        exact ab_vret rfl dX12_triesShut_63 (Nat.le_of_ble_eq_true rfl) (Nat.le_of_ble_eq_true rfl) ht
    · have ht := ht.2 c14
      exact ab_vret rfl dX12_triesShut_39 (Nat.le_of_ble_eq_true rfl) (Nat.le_of_ble_eq_true rfl) ht
  · have ht := ht.2 c4
    exact ab_vret rfl dX12_triesShut_11 (Nat.le_of_ble_eq_true rfl) (Nat.le_of_ble_eq_true rfl) ht
theorem dX12_findsShutters_0 : decode cX12_findsShutters 0 = .ok (.aload_n 0, 1) := by decide +kernel
theorem dX12_findsShutters_1 : decode cX12_findsShutters 1 = .ok (.getfield 143, 3) := by decide +kernel
theorem dX12_findsShutters_4 : decode cX12_findsShutters 4 = .ok (.aload_n 0, 1) := by decide +kernel
theorem dX12_findsShutters_5 : decode cX12_findsShutters 5 = .ok (.getfield 11, 3) := by decide +kernel
theorem dX12_findsShutters_8 : decode cX12_findsShutters 8 = .ok (.if_icmp .ne 4, 3) := by decide +kernel
theorem dX12_findsShutters_11 : decode cX12_findsShutters 11 = .ok (.return_, 1) := by decide +kernel
theorem dX12_findsShutters_12 : decode cX12_findsShutters 12 = .ok (.aload_n 0, 1) := by decide +kernel
theorem dX12_findsShutters_13 : decode cX12_findsShutters 13 = .ok (.iconst (-1), 1) := by decide +kernel
theorem dX12_findsShutters_14 : decode cX12_findsShutters 14 = .ok (.putfield 471, 3) := by decide +kernel
theorem dX12_findsShutters_17 : decode cX12_findsShutters 17 = .ok (.aload_n 0, 1) := by decide +kernel
theorem dX12_findsShutters_18 : decode cX12_findsShutters 18 = .ok (.iconst 0, 1) := by decide +kernel
theorem dX12_findsShutters_19 : decode cX12_findsShutters 19 = .ok (.putfield 474, 3) := by decide +kernel
theorem dX12_findsShutters_22 : decode cX12_findsShutters 22 = .ok (.aload_n 0, 1) := by decide +kernel
theorem dX12_findsShutters_23 : decode cX12_findsShutters 23 = .ok (.getfield 20, 3) := by decide +kernel
theorem dX12_findsShutters_26 : decode cX12_findsShutters 26 = .ok (.sipush 245, 3) := by decide +kernel
theorem dX12_findsShutters_29 : decode cX12_findsShutters 29 = .ok (.iaload, 1) := by decide +kernel
theorem dX12_findsShutters_30 : decode cX12_findsShutters 30 = .ok (.istore_n 1, 1) := by decide +kernel
theorem dX12_findsShutters_31 : decode cX12_findsShutters 31 = .ok (.aload_n 0, 1) := by decide +kernel
theorem dX12_findsShutters_32 : decode cX12_findsShutters 32 = .ok (.iconst 0, 1) := by decide +kernel
theorem dX12_findsShutters_33 : decode cX12_findsShutters 33 = .ok (.invokevirtual 477, 3) := by decide +kernel
theorem dX12_findsShutters_36 : decode cX12_findsShutters 36 = .ok (.iconst 0, 1) := by decide +kernel
theorem dX12_findsShutters_37 : decode cX12_findsShutters 37 = .ok (.istore_n 2, 1) := by decide +kernel
theorem dX12_findsShutters_38 : decode cX12_findsShutters 38 = .ok (.iload_n 2, 1) := by decide +kernel
theorem dX12_findsShutters_39 : decode cX12_findsShutters 39 = .ok (.iload_n 1, 1) := by decide +kernel
theorem dX12_findsShutters_40 : decode cX12_findsShutters 40 = .ok (.if_icmp .ge 23, 3) := by decide +kernel
theorem dX12_findsShutters_43 : decode cX12_findsShutters 43 = .ok (.aload_n 0, 1) := by decide +kernel
theorem dX12_findsShutters_44 : decode cX12_findsShutters 44 = .ok (.getfield 471, 3) := by decide +kernel
theorem dX12_findsShutters_47 : decode cX12_findsShutters 47 = .ok (.ifCond .eq 16, 3) := by decide +kernel
theorem dX12_findsShutters_50 : decode cX12_findsShutters 50 = .ok (.aload_n 0, 1) := by decide +kernel
theorem dX12_findsShutters_51 : decode cX12_findsShutters 51 = .ok (.iconst 1, 1) := by decide +kernel
theorem dX12_findsShutters_52 : decode cX12_findsShutters 52 = .ok (.iload_n 2, 1) := by decide +kernel
theorem dX12_findsShutters_53 : decode cX12_findsShutters 53 = .ok (.ishl, 1) := by decide +kernel
theorem dX12_findsShutters_54 : decode cX12_findsShutters 54 = .ok (.invokevirtual 477, 3) := by decide +kernel
theorem dX12_findsShutters_57 : decode cX12_findsShutters 57 = .ok (.iinc 2 1, 3) := by decide +kernel
theorem dX12_findsShutters_60 : decode cX12_findsShutters 60 = .ok (.goto (-22), 3) := by decide +kernel
theorem dX12_findsShutters_63 : decode cX12_findsShutters 63 = .ok (.aload_n 0, 1) := by decide +kernel
theorem dX12_findsShutters_64 : decode cX12_findsShutters 64 = .ok (.getfield 471, 3) := by decide +kernel
theorem dX12_findsShutters_67 : decode cX12_findsShutters 67 = .ok (.iconst (-1), 1) := by decide +kernel
theorem dX12_findsShutters_68 : decode cX12_findsShutters 68 = .ok (.if_icmp .ne 40, 3) := by decide +kernel
theorem dX12_findsShutters_71 : decode cX12_findsShutters 71 = .ok (.iconst 1, 1) := by decide +kernel
theorem dX12_findsShutters_72 : decode cX12_findsShutters 72 = .ok (.istore_n 2, 1) := by decide +kernel
theorem dX12_findsShutters_73 : decode cX12_findsShutters 73 = .ok (.iload_n 2, 1) := by decide +kernel
theorem dX12_findsShutters_74 : decode cX12_findsShutters 74 = .ok (.iload_n 1, 1) := by decide +kernel
theorem dX12_findsShutters_75 : decode cX12_findsShutters 75 = .ok (.if_icmp .ge 33, 3) := by decide +kernel
theorem dX12_findsShutters_78 : decode cX12_findsShutters 78 = .ok (.iconst 0, 1) := by decide +kernel
theorem dX12_findsShutters_79 : decode cX12_findsShutters 79 = .ok (.istore_n 3, 1) := by decide +kernel
theorem dX12_findsShutters_80 : decode cX12_findsShutters 80 = .ok (.iload_n 3, 1) := by decide +kernel
theorem dX12_findsShutters_81 : decode cX12_findsShutters 81 = .ok (.iload_n 2, 1) := by decide +kernel
theorem dX12_findsShutters_82 : decode cX12_findsShutters 82 = .ok (.if_icmp .ge 20, 3) := by decide +kernel
theorem dX12_findsShutters_85 : decode cX12_findsShutters 85 = .ok (.aload_n 0, 1) := by decide +kernel
theorem dX12_findsShutters_86 : decode cX12_findsShutters 86 = .ok (.iconst 1, 1) := by decide +kernel
theorem dX12_findsShutters_87 : decode cX12_findsShutters 87 = .ok (.iload_n 3, 1) := by decide +kernel
theorem dX12_findsShutters_88 : decode cX12_findsShutters 88 = .ok (.ishl, 1) := by decide +kernel
theorem dX12_findsShutters_89 : decode cX12_findsShutters 89 = .ok (.iconst 1, 1) := by decide +kernel
theorem dX12_findsShutters_90 : decode cX12_findsShutters 90 = .ok (.iload_n 2, 1) := by decide +kernel
theorem dX12_findsShutters_91 : decode cX12_findsShutters 91 = .ok (.ishl, 1) := by decide +kernel
theorem dX12_findsShutters_92 : decode cX12_findsShutters 92 = .ok (.ior, 1) := by decide +kernel
theorem dX12_findsShutters_93 : decode cX12_findsShutters 93 = .ok (.invokevirtual 477, 3) := by decide +kernel
theorem dX12_findsShutters_96 : decode cX12_findsShutters 96 = .ok (.iinc 3 1, 3) := by decide +kernel
theorem dX12_findsShutters_99 : decode cX12_findsShutters 99 = .ok (.goto (-19), 3) := by decide +kernel
theorem dX12_findsShutters_102 : decode cX12_findsShutters 102 = .ok (.iinc 2 1, 3) := by decide +kernel
theorem dX12_findsShutters_105 : decode cX12_findsShutters 105 = .ok (.goto (-32), 3) := by decide +kernel
theorem dX12_findsShutters_108 : decode cX12_findsShutters 108 = .ok (.aload_n 0, 1) := by decide +kernel
theorem dX12_findsShutters_109 : decode cX12_findsShutters 109 = .ok (.getfield 471, 3) := by decide +kernel
theorem dX12_findsShutters_112 : decode cX12_findsShutters 112 = .ok (.iconst (-1), 1) := by decide +kernel
theorem dX12_findsShutters_113 : decode cX12_findsShutters 113 = .ok (.if_icmp .ne 60, 3) := by decide +kernel
theorem dX12_findsShutters_116 : decode cX12_findsShutters 116 = .ok (.iconst 2, 1) := by decide +kernel
theorem dX12_findsShutters_117 : decode cX12_findsShutters 117 = .ok (.istore_n 2, 1) := by decide +kernel
theorem dX12_findsShutters_118 : decode cX12_findsShutters 118 = .ok (.iload_n 2, 1) := by decide +kernel
theorem dX12_findsShutters_119 : decode cX12_findsShutters 119 = .ok (.iload_n 1, 1) := by decide +kernel
theorem dX12_findsShutters_120 : decode cX12_findsShutters 120 = .ok (.if_icmp .ge 53, 3) := by decide +kernel
theorem dX12_findsShutters_123 : decode cX12_findsShutters 123 = .ok (.iconst 1, 1) := by decide +kernel
theorem dX12_findsShutters_124 : decode cX12_findsShutters 124 = .ok (.istore_n 3, 1) := by decide +kernel
theorem dX12_findsShutters_125 : decode cX12_findsShutters 125 = .ok (.iload_n 3, 1) := by decide +kernel
theorem dX12_findsShutters_126 : decode cX12_findsShutters 126 = .ok (.iload_n 2, 1) := by decide +kernel
theorem dX12_findsShutters_127 : decode cX12_findsShutters 127 = .ok (.if_icmp .ge 40, 3) := by decide +kernel
theorem dX12_findsShutters_130 : decode cX12_findsShutters 130 = .ok (.iconst 0, 1) := by decide +kernel
theorem dX12_findsShutters_131 : decode cX12_findsShutters 131 = .ok (.istore 4, 2) := by decide +kernel
theorem dX12_findsShutters_133 : decode cX12_findsShutters 133 = .ok (.iload 4, 2) := by decide +kernel
theorem dX12_findsShutters_135 : decode cX12_findsShutters 135 = .ok (.iload_n 3, 1) := by decide +kernel
theorem dX12_findsShutters_136 : decode cX12_findsShutters 136 = .ok (.if_icmp .ge 25, 3) := by decide +kernel
theorem dX12_findsShutters_139 : decode cX12_findsShutters 139 = .ok (.aload_n 0, 1) := by decide +kernel
theorem dX12_findsShutters_140 : decode cX12_findsShutters 140 = .ok (.iconst 1, 1) := by decide +kernel
theorem dX12_findsShutters_141 : decode cX12_findsShutters 141 = .ok (.iload 4, 2) := by decide +kernel
theorem dX12_findsShutters_143 : decode cX12_findsShutters 143 = .ok (.ishl, 1) := by decide +kernel
theorem dX12_findsShutters_144 : decode cX12_findsShutters 144 = .ok (.iconst 1, 1) := by decide +kernel
theorem dX12_findsShutters_145 : decode cX12_findsShutters 145 = .ok (.iload_n 3, 1) := by decide +kernel
theorem dX12_findsShutters_146 : decode cX12_findsShutters 146 = .ok (.ishl, 1) := by decide +kernel
theorem dX12_findsShutters_147 : decode cX12_findsShutters 147 = .ok (.ior, 1) := by decide +kernel
theorem dX12_findsShutters_148 : decode cX12_findsShutters 148 = .ok (.iconst 1, 1) := by decide +kernel
theorem dX12_findsShutters_149 : decode cX12_findsShutters 149 = .ok (.iload_n 2, 1) := by decide +kernel
theorem dX12_findsShutters_150 : decode cX12_findsShutters 150 = .ok (.ishl, 1) := by decide +kernel
theorem dX12_findsShutters_151 : decode cX12_findsShutters 151 = .ok (.ior, 1) := by decide +kernel
theorem dX12_findsShutters_152 : decode cX12_findsShutters 152 = .ok (.invokevirtual 477, 3) := by decide +kernel
theorem dX12_findsShutters_155 : decode cX12_findsShutters 155 = .ok (.iinc 4 1, 3) := by decide +kernel
theorem dX12_findsShutters_158 : decode cX12_findsShutters 158 = .ok (.goto (-25), 3) := by decide +kernel
theorem dX12_findsShutters_161 : decode cX12_findsShutters 161 = .ok (.iinc 3 1, 3) := by decide +kernel
theorem dX12_findsShutters_164 : decode cX12_findsShutters 164 = .ok (.goto (-39), 3) := by decide +kernel
theorem dX12_findsShutters_167 : decode cX12_findsShutters 167 = .ok (.iinc 2 1, 3) := by decide +kernel
theorem dX12_findsShutters_170 : decode cX12_findsShutters 170 = .ok (.goto (-52), 3) := by decide +kernel
theorem dX12_findsShutters_173 : decode cX12_findsShutters 173 = .ok (.aload_n 0, 1) := by decide +kernel
theorem dX12_findsShutters_174 : decode cX12_findsShutters 174 = .ok (.aload_n 0, 1) := by decide +kernel
theorem dX12_findsShutters_175 : decode cX12_findsShutters 175 = .ok (.getfield 11, 3) := by decide +kernel
theorem dX12_findsShutters_178 : decode cX12_findsShutters 178 = .ok (.putfield 143, 3) := by decide +kernel
theorem dX12_findsShutters_181 : decode cX12_findsShutters 181 = .ok (.return_, 1) := by decide +kernel
set_option maxRecDepth 20000 in
theorem T_X12_findsShutters_38 {Q : Option Value → ah_T → Prop} {h : ah_T} (hs : Sh h) (x1 : Int32) (x2 : Int32) (ht : ((x1 ≤ x2 → ((¬ (ah_i h 82 60) = (-1) → ((¬ (ah_i h 82 60) = (-1) → (∀ h14, h14 = ah_si h 82 62 (ah_i h 82 1) → Q none h14)) ∧ ((ah_i h 82 60) = (-1) → Wp mX12_findsShutters Q 0 0 118 [some (.ref 82), some (.int x1), some (.int 2), none, none] [] h))) ∧ ((ah_i h 82 60) = (-1) → Wp mX12_findsShutters Q 0 0 73 [some (.ref 82), some (.int x1), some (.int 1), none, none] [] h))) ∧ (¬ x1 ≤ x2 → (((ah_i h 82 60) = 0 → ((¬ (ah_i h 82 60) = (-1) → ((¬ (ah_i h 82 60) = (-1) → (∀ h20, h20 = ah_si h 82 62 (ah_i h 82 1) → Q none h20)) ∧ ((ah_i h 82 60) = (-1) → Wp mX12_findsShutters Q 0 0 118 [some (.ref 82), some (.int x1), some (.int 2), none, none] [] h))) ∧ ((ah_i h 82 60) = (-1) → Wp mX12_findsShutters Q 0 0 73 [some (.ref 82), some (.int x1), some (.int 1), none, none] [] h))) ∧ (¬ (ah_i h 82 60) = 0 → (Mt mX12_triesShut [.ref 82, .int ((1 : Int32) <<< (x2 &&& 31))] h (ab_qv fun h23 => Sh h23 ∧ Wp mX12_findsShutters Q 0 0 38 [some (.ref 82), some (.int x1), some (.int (x2 + 1)), none, none] [] h23))))))) : Wp mX12_findsShutters Q 0 0 38 [some (.ref 82), some (.int x1), some (.int x2), none, none] [] h := by
  refine ab_iload_n (i := 2) dX12_findsShutters_38 rfl rfl ?_
  refine ab_iload_n (i := 1) dX12_findsShutters_39 rfl rfl ?_
  refine ab_icmp_ge (tgt := 63) dX12_findsShutters_40 (by decide) (fun c11 => ?_) (fun c11 => ?_)
  · have ht := ht.1 c11
    refine ab_aload_n (i := 0) dX12_findsShutters_63 rfl rfl ?_
    refine ab_getI f_X12_471 rfl (sh_k hs 82 12 (by decide) rfl) dX12_findsShutters_64 ?_
    refine ab_iconst (v := (-1)) dX12_findsShutters_67 (by decide) ?_
    refine ab_icmp_ne (tgt := 108) dX12_findsShutters_68 (by decide) (fun c12 => ?_) (fun c12 => ?_)
    · have ht := ht.1 c12
      refine ab_aload_n (i := 0) dX12_findsShutters_108 rfl rfl ?_
      refine ab_getI f_X12_471 rfl (sh_k hs 82 12 (by decide) rfl) dX12_findsShutters_109 ?_
      refine ab_iconst (v := (-1)) dX12_findsShutters_112 (by decide) ?_
      refine ab_icmp_ne (tgt := 173) dX12_findsShutters_113 (by decide) (fun c13 => ?_) (fun c13 => ?_)
      · have ht := ht.1 c13
        refine ab_aload_n (i := 0) dX12_findsShutters_173 rfl rfl ?_
        refine ab_aload_n (i := 0) dX12_findsShutters_174 rfl rfl ?_
        refine ab_getI f_X12_11 rfl (sh_k hs 82 12 (by decide) rfl) dX12_findsShutters_175 ?_
        refine ab_putI f_X12_143 (Or.inl rfl) rfl (sh_k hs 82 12 (by decide) rfl) rfl rfl dX12_findsShutters_178 ?_
        refine Wp.nm fun h14 e15 => ?_
        have ht := ht h14 e15
        have hs16 : Sh h14 := by rw [e15]; exact sh_si hs
        exact ab_vret rfl dX12_findsShutters_181 (Nat.le_of_ble_eq_true rfl) (Nat.le_of_ble_eq_true rfl) ht
      · have ht := ht.2 c13
        refine ab_iconst (v := 2) dX12_findsShutters_116 (by decide) ?_
        refine ab_istore_n (i := 2) (L' := [some (.ref 82), some (.int x1), some (.int 2), none, none]) dX12_findsShutters_117 rfl (by exact (Nat.le_of_ble_eq_true rfl)) rfl rfl ?_
        exact Wp.fewer (L' := [some (.ref 82), some (.int x1), some (.int 2), none, none]) (show ab_leL _ _ from ⟨rfl, ⟨rfl, ⟨rfl, trivial⟩⟩⟩) ht
    · have ht := ht.2 c12
      refine ab_iconst (v := 1) dX12_findsShutters_71 (by decide) ?_
      refine ab_istore_n (i := 2) (L' := [some (.ref 82), some (.int x1), some (.int 1), none, none]) dX12_findsShutters_72 rfl (by exact (Nat.le_of_ble_eq_true rfl)) rfl rfl ?_
      exact Wp.fewer (L' := [some (.ref 82), some (.int x1), some (.int 1), none, none]) (show ab_leL _ _ from ⟨rfl, ⟨rfl, ⟨rfl, trivial⟩⟩⟩) ht
  · have ht := ht.2 c11
    refine ab_aload_n (i := 0) dX12_findsShutters_43 rfl rfl ?_
    refine ab_getI f_X12_471 rfl (sh_k hs 82 12 (by decide) rfl) dX12_findsShutters_44 ?_
    refine ab_if_eq (tgt := 63) dX12_findsShutters_47 (by decide) (fun c17 => ?_) (fun c17 => ?_)
    · have ht := ht.1 c17
      refine ab_aload_n (i := 0) dX12_findsShutters_63 rfl rfl ?_
      refine ab_getI f_X12_471 rfl (sh_k hs 82 12 (by decide) rfl) dX12_findsShutters_64 ?_
      refine ab_iconst (v := (-1)) dX12_findsShutters_67 (by decide) ?_
      refine ab_icmp_ne (tgt := 108) dX12_findsShutters_68 (by decide) (fun c18 => ?_) (fun c18 => ?_)
      · have ht := ht.1 c18
        refine ab_aload_n (i := 0) dX12_findsShutters_108 rfl rfl ?_
        refine ab_getI f_X12_471 rfl (sh_k hs 82 12 (by decide) rfl) dX12_findsShutters_109 ?_
        refine ab_iconst (v := (-1)) dX12_findsShutters_112 (by decide) ?_
        refine ab_icmp_ne (tgt := 173) dX12_findsShutters_113 (by decide) (fun c19 => ?_) (fun c19 => ?_)
        · have ht := ht.1 c19
          refine ab_aload_n (i := 0) dX12_findsShutters_173 rfl rfl ?_
          refine ab_aload_n (i := 0) dX12_findsShutters_174 rfl rfl ?_
          refine ab_getI f_X12_11 rfl (sh_k hs 82 12 (by decide) rfl) dX12_findsShutters_175 ?_
          refine ab_putI f_X12_143 (Or.inl rfl) rfl (sh_k hs 82 12 (by decide) rfl) rfl rfl dX12_findsShutters_178 ?_
          refine Wp.nm fun h20 e21 => ?_
          have ht := ht h20 e21
          have hs22 : Sh h20 := by rw [e21]; exact sh_si hs
          exact ab_vret rfl dX12_findsShutters_181 (Nat.le_of_ble_eq_true rfl) (Nat.le_of_ble_eq_true rfl) ht
        · have ht := ht.2 c19
          refine ab_iconst (v := 2) dX12_findsShutters_116 (by decide) ?_
          refine ab_istore_n (i := 2) (L' := [some (.ref 82), some (.int x1), some (.int 2), none, none]) dX12_findsShutters_117 rfl (by exact (Nat.le_of_ble_eq_true rfl)) rfl rfl ?_
          exact Wp.fewer (L' := [some (.ref 82), some (.int x1), some (.int 2), none, none]) (show ab_leL _ _ from ⟨rfl, ⟨rfl, ⟨rfl, trivial⟩⟩⟩) ht
      · have ht := ht.2 c18
        refine ab_iconst (v := 1) dX12_findsShutters_71 (by decide) ?_
        refine ab_istore_n (i := 2) (L' := [some (.ref 82), some (.int x1), some (.int 1), none, none]) dX12_findsShutters_72 rfl (by exact (Nat.le_of_ble_eq_true rfl)) rfl rfl ?_
        exact Wp.fewer (L' := [some (.ref 82), some (.int x1), some (.int 1), none, none]) (show ab_leL _ _ from ⟨rfl, ⟨rfl, ⟨rfl, trivial⟩⟩⟩) ht
    · have ht := ht.2 c17
      refine ab_aload_n (i := 0) dX12_findsShutters_50 rfl rfl ?_
      refine ab_iconst (v := 1) dX12_findsShutters_51 (by decide) ?_
      refine ab_iload_n (i := 2) dX12_findsShutters_52 rfl rfl ?_
      refine ab_ishl dX12_findsShutters_53 ?_
      refine ab_callV (b := 82) (As := [.int ((1 : Int32) <<< (x2 &&& 31))]) ht (Y_X12_triesShut) l_X12_477 in_X12_triesShut se_X12_triesShut (sh_k hs 82 12 (by decide) rfl) (by decide) rfl rfl ⟨(Nat.le_of_ble_eq_true rfl), (Nat.le_of_ble_eq_true rfl), (Nat.le_of_ble_eq_true rfl), (Nat.le_of_ble_eq_true rfl)⟩ dX12_findsShutters_54 ?_
      rintro _ h23 ⟨rfl, hs24, ht⟩
      refine ab_iinc (i := 2) (x := x2) (v := (x2 + 1)) (L' := [some (.ref 82), some (.int x1), some (.int (x2 + 1)), none, none]) dX12_findsShutters_57 rfl rfl (by exact (Nat.le_of_ble_eq_true rfl)) rfl rfl ?_
      refine ab_goto (tgt := 38) dX12_findsShutters_60 (by decide) ?_
      exact Wp.fewer (L' := [some (.ref 82), some (.int x1), some (.int (x2 + 1)), none, none]) (show ab_leL _ _ from ⟨rfl, ⟨rfl, ⟨rfl, trivial⟩⟩⟩) ht
set_option maxRecDepth 20000 in
theorem T_X12_findsShutters_118 {Q : Option Value → ah_T → Prop} {h : ah_T} (hs : Sh h) (x1 : Int32) (x2 : Int32) (ht : ((x1 ≤ x2 → (∀ h27, h27 = ah_si h 82 62 (ah_i h 82 1) → Q none h27)) ∧ (¬ x1 ≤ x2 → Wp mX12_findsShutters Q 0 0 125 [some (.ref 82), some (.int x1), some (.int x2), some (.int 1), none] [] h))) : Wp mX12_findsShutters Q 0 0 118 [some (.ref 82), some (.int x1), some (.int x2), none, none] [] h := by
  refine ab_iload_n (i := 2) dX12_findsShutters_118 rfl rfl ?_
  refine ab_iload_n (i := 1) dX12_findsShutters_119 rfl rfl ?_
  refine ab_icmp_ge (tgt := 173) dX12_findsShutters_120 (by decide) (fun c26 => ?_) (fun c26 => ?_)
  · have ht := ht.1 c26
    refine ab_aload_n (i := 0) dX12_findsShutters_173 rfl rfl ?_
    refine ab_aload_n (i := 0) dX12_findsShutters_174 rfl rfl ?_
    refine ab_getI f_X12_11 rfl (sh_k hs 82 12 (by decide) rfl) dX12_findsShutters_175 ?_
    refine ab_putI f_X12_143 (Or.inl rfl) rfl (sh_k hs 82 12 (by decide) rfl) rfl rfl dX12_findsShutters_178 ?_
    refine Wp.nm fun h27 e28 => ?_
    have ht := ht h27 e28
    have hs29 : Sh h27 := by rw [e28]; exact sh_si hs
    exact ab_vret rfl dX12_findsShutters_181 (Nat.le_of_ble_eq_true rfl) (Nat.le_of_ble_eq_true rfl) ht
  · have ht := ht.2 c26
    refine ab_iconst (v := 1) dX12_findsShutters_123 (by decide) ?_
    refine ab_istore_n (i := 3) (L' := [some (.ref 82), some (.int x1), some (.int x2), some (.int 1), none]) dX12_findsShutters_124 rfl (by exact (Nat.le_of_ble_eq_true rfl)) rfl rfl ?_
    exact Wp.fewer (L' := [some (.ref 82), some (.int x1), some (.int x2), some (.int 1), none]) (show ab_leL _ _ from ⟨rfl, ⟨rfl, ⟨rfl, ⟨rfl, trivial⟩⟩⟩⟩) ht
set_option maxRecDepth 20000 in
theorem T_X12_findsShutters_73 {Q : Option Value → ah_T → Prop} {h : ah_T} (hs : Sh h) (x1 : Int32) (x2 : Int32) (ht : ((x1 ≤ x2 → ((¬ (ah_i h 82 60) = (-1) → (∀ h32, h32 = ah_si h 82 62 (ah_i h 82 1) → Q none h32)) ∧ ((ah_i h 82 60) = (-1) → Wp mX12_findsShutters Q 0 0 118 [some (.ref 82), some (.int x1), some (.int 2), none, none] [] h))) ∧ (¬ x1 ≤ x2 → Wp mX12_findsShutters Q 0 0 80 [some (.ref 82), some (.int x1), some (.int x2), some (.int 0), none] [] h))) : Wp mX12_findsShutters Q 0 0 73 [some (.ref 82), some (.int x1), some (.int x2), none, none] [] h := by
  refine ab_iload_n (i := 2) dX12_findsShutters_73 rfl rfl ?_
  refine ab_iload_n (i := 1) dX12_findsShutters_74 rfl rfl ?_
  refine ab_icmp_ge (tgt := 108) dX12_findsShutters_75 (by decide) (fun c30 => ?_) (fun c30 => ?_)
  · have ht := ht.1 c30
    refine ab_aload_n (i := 0) dX12_findsShutters_108 rfl rfl ?_
    refine ab_getI f_X12_471 rfl (sh_k hs 82 12 (by decide) rfl) dX12_findsShutters_109 ?_
    refine ab_iconst (v := (-1)) dX12_findsShutters_112 (by decide) ?_
    refine ab_icmp_ne (tgt := 173) dX12_findsShutters_113 (by decide) (fun c31 => ?_) (fun c31 => ?_)
    · have ht := ht.1 c31
      refine ab_aload_n (i := 0) dX12_findsShutters_173 rfl rfl ?_
      refine ab_aload_n (i := 0) dX12_findsShutters_174 rfl rfl ?_
      refine ab_getI f_X12_11 rfl (sh_k hs 82 12 (by decide) rfl) dX12_findsShutters_175 ?_
      refine ab_putI f_X12_143 (Or.inl rfl) rfl (sh_k hs 82 12 (by decide) rfl) rfl rfl dX12_findsShutters_178 ?_
      refine Wp.nm fun h32 e33 => ?_
      have ht := ht h32 e33
      have hs34 : Sh h32 := by rw [e33]; exact sh_si hs
      exact ab_vret rfl dX12_findsShutters_181 (Nat.le_of_ble_eq_true rfl) (Nat.le_of_ble_eq_true rfl) ht
    · have ht := ht.2 c31
      refine ab_iconst (v := 2) dX12_findsShutters_116 (by decide) ?_
      refine ab_istore_n (i := 2) (L' := [some (.ref 82), some (.int x1), some (.int 2), none, none]) dX12_findsShutters_117 rfl (by exact (Nat.le_of_ble_eq_true rfl)) rfl rfl ?_
      exact Wp.fewer (L' := [some (.ref 82), some (.int x1), some (.int 2), none, none]) (show ab_leL _ _ from ⟨rfl, ⟨rfl, ⟨rfl, trivial⟩⟩⟩) ht
  · have ht := ht.2 c30
    refine ab_iconst (v := 0) dX12_findsShutters_78 (by decide) ?_
    refine ab_istore_n (i := 3) (L' := [some (.ref 82), some (.int x1), some (.int x2), some (.int 0), none]) dX12_findsShutters_79 rfl (by exact (Nat.le_of_ble_eq_true rfl)) rfl rfl ?_
    exact Wp.fewer (L' := [some (.ref 82), some (.int x1), some (.int x2), some (.int 0), none]) (show ab_leL _ _ from ⟨rfl, ⟨rfl, ⟨rfl, ⟨rfl, trivial⟩⟩⟩⟩) ht
set_option maxRecDepth 20000 in
theorem T_X12_findsShutters_125 {Q : Option Value → ah_T → Prop} {h : ah_T} (hs : Sh h) (x1 : Int32) (x2 : Int32) (x3 : Int32) (ht : ((x2 ≤ x3 → Wp mX12_findsShutters Q 0 0 118 [some (.ref 82), some (.int x1), some (.int (x2 + 1)), none, none] [] h) ∧ (¬ x2 ≤ x3 → Wp mX12_findsShutters Q 0 0 133 [some (.ref 82), some (.int x1), some (.int x2), some (.int x3), some (.int 0)] [] h))) : Wp mX12_findsShutters Q 0 0 125 [some (.ref 82), some (.int x1), some (.int x2), some (.int x3), none] [] h := by
  refine ab_iload_n (i := 3) dX12_findsShutters_125 rfl rfl ?_
  refine ab_iload_n (i := 2) dX12_findsShutters_126 rfl rfl ?_
  refine ab_icmp_ge (tgt := 167) dX12_findsShutters_127 (by decide) (fun c35 => ?_) (fun c35 => ?_)
  · have ht := ht.1 c35
    refine ab_iinc (i := 2) (x := x2) (v := (x2 + 1)) (L' := [some (.ref 82), some (.int x1), some (.int (x2 + 1)), some (.int x3), none]) dX12_findsShutters_167 rfl rfl (by exact (Nat.le_of_ble_eq_true rfl)) rfl rfl ?_
    refine ab_goto (tgt := 118) dX12_findsShutters_170 (by decide) ?_
    exact Wp.fewer (L' := [some (.ref 82), some (.int x1), some (.int (x2 + 1)), none, none]) (show ab_leL _ _ from ⟨rfl, ⟨rfl, ⟨rfl, trivial⟩⟩⟩) ht
  · have ht := ht.2 c35
    refine ab_iconst (v := 0) dX12_findsShutters_130 (by decide) ?_
    refine ab_istore (i := 4) (L' := [some (.ref 82), some (.int x1), some (.int x2), some (.int x3), some (.int 0)]) dX12_findsShutters_131 (by exact (Nat.le_of_ble_eq_true rfl)) rfl rfl ?_
    exact Wp.fewer (L' := [some (.ref 82), some (.int x1), some (.int x2), some (.int x3), some (.int 0)]) (show ab_leL _ _ from ⟨rfl, ⟨rfl, ⟨rfl, ⟨rfl, ⟨rfl, trivial⟩⟩⟩⟩⟩) ht
set_option maxRecDepth 20000 in
theorem T_X12_findsShutters_80 {Q : Option Value → ah_T → Prop} {h : ah_T} (hs : Sh h) (x1 : Int32) (x2 : Int32) (x3 : Int32) (ht : ((x2 ≤ x3 → Wp mX12_findsShutters Q 0 0 73 [some (.ref 82), some (.int x1), some (.int (x2 + 1)), none, none] [] h) ∧ (¬ x2 ≤ x3 → (Mt mX12_triesShut [.ref 82, .int (((1 : Int32) <<< (x3 &&& 31)) ||| ((1 : Int32) <<< (x2 &&& 31)))] h (ab_qv fun h37 => Sh h37 ∧ Wp mX12_findsShutters Q 0 0 80 [some (.ref 82), some (.int x1), some (.int x2), some (.int (x3 + 1)), none] [] h37))))) : Wp mX12_findsShutters Q 0 0 80 [some (.ref 82), some (.int x1), some (.int x2), some (.int x3), none] [] h := by
  refine ab_iload_n (i := 3) dX12_findsShutters_80 rfl rfl ?_
  refine ab_iload_n (i := 2) dX12_findsShutters_81 rfl rfl ?_
  refine ab_icmp_ge (tgt := 102) dX12_findsShutters_82 (by decide) (fun c36 => ?_) (fun c36 => ?_)
  · have ht := ht.1 c36
    refine ab_iinc (i := 2) (x := x2) (v := (x2 + 1)) (L' := [some (.ref 82), some (.int x1), some (.int (x2 + 1)), some (.int x3), none]) dX12_findsShutters_102 rfl rfl (by exact (Nat.le_of_ble_eq_true rfl)) rfl rfl ?_
    refine ab_goto (tgt := 73) dX12_findsShutters_105 (by decide) ?_
    exact Wp.fewer (L' := [some (.ref 82), some (.int x1), some (.int (x2 + 1)), none, none]) (show ab_leL _ _ from ⟨rfl, ⟨rfl, ⟨rfl, trivial⟩⟩⟩) ht
  · have ht := ht.2 c36
    refine ab_aload_n (i := 0) dX12_findsShutters_85 rfl rfl ?_
    refine ab_iconst (v := 1) dX12_findsShutters_86 (by decide) ?_
    refine ab_iload_n (i := 3) dX12_findsShutters_87 rfl rfl ?_
    refine ab_ishl dX12_findsShutters_88 ?_
    refine ab_iconst (v := 1) dX12_findsShutters_89 (by decide) ?_
    refine ab_iload_n (i := 2) dX12_findsShutters_90 rfl rfl ?_
    refine ab_ishl dX12_findsShutters_91 ?_
    refine ab_ior dX12_findsShutters_92 ?_
    refine ab_callV (b := 82) (As := [.int (((1 : Int32) <<< (x3 &&& 31)) ||| ((1 : Int32) <<< (x2 &&& 31)))]) ht (Y_X12_triesShut) l_X12_477 in_X12_triesShut se_X12_triesShut (sh_k hs 82 12 (by decide) rfl) (by decide) rfl rfl ⟨(Nat.le_of_ble_eq_true rfl), (Nat.le_of_ble_eq_true rfl), (Nat.le_of_ble_eq_true rfl), (Nat.le_of_ble_eq_true rfl)⟩ dX12_findsShutters_93 ?_
    rintro _ h37 ⟨rfl, hs38, ht⟩
    refine ab_iinc (i := 3) (x := x3) (v := (x3 + 1)) (L' := [some (.ref 82), some (.int x1), some (.int x2), some (.int (x3 + 1)), none]) dX12_findsShutters_96 rfl rfl (by exact (Nat.le_of_ble_eq_true rfl)) rfl rfl ?_
    refine ab_goto (tgt := 80) dX12_findsShutters_99 (by decide) ?_
    exact Wp.fewer (L' := [some (.ref 82), some (.int x1), some (.int x2), some (.int (x3 + 1)), none]) (show ab_leL _ _ from ⟨rfl, ⟨rfl, ⟨rfl, ⟨rfl, trivial⟩⟩⟩⟩) ht
set_option maxRecDepth 20000 in
theorem T_X12_findsShutters_133 {Q : Option Value → ah_T → Prop} {h : ah_T} (hs : Sh h) (x1 : Int32) (x2 : Int32) (x3 : Int32) (x4 : Int32) (ht : ((x3 ≤ x4 → Wp mX12_findsShutters Q 0 0 125 [some (.ref 82), some (.int x1), some (.int x2), some (.int (x3 + 1)), none] [] h) ∧ (¬ x3 ≤ x4 → (Mt mX12_triesShut [.ref 82, .int ((((1 : Int32) <<< (x4 &&& 31)) ||| ((1 : Int32) <<< (x3 &&& 31))) ||| ((1 : Int32) <<< (x2 &&& 31)))] h (ab_qv fun h41 => Sh h41 ∧ Wp mX12_findsShutters Q 0 0 133 [some (.ref 82), some (.int x1), some (.int x2), some (.int x3), some (.int (x4 + 1))] [] h41))))) : Wp mX12_findsShutters Q 0 0 133 [some (.ref 82), some (.int x1), some (.int x2), some (.int x3), some (.int x4)] [] h := by
  refine ab_iload (i := 4) dX12_findsShutters_133 rfl ?_
  refine ab_iload_n (i := 3) dX12_findsShutters_135 rfl rfl ?_
  refine ab_icmp_ge (tgt := 161) dX12_findsShutters_136 (by decide) (fun c40 => ?_) (fun c40 => ?_)
  · have ht := ht.1 c40
    refine ab_iinc (i := 3) (x := x3) (v := (x3 + 1)) (L' := [some (.ref 82), some (.int x1), some (.int x2), some (.int (x3 + 1)), some (.int x4)]) dX12_findsShutters_161 rfl rfl (by exact (Nat.le_of_ble_eq_true rfl)) rfl rfl ?_
    refine ab_goto (tgt := 125) dX12_findsShutters_164 (by decide) ?_
    exact Wp.fewer (L' := [some (.ref 82), some (.int x1), some (.int x2), some (.int (x3 + 1)), none]) (show ab_leL _ _ from ⟨rfl, ⟨rfl, ⟨rfl, ⟨rfl, trivial⟩⟩⟩⟩) ht
  · have ht := ht.2 c40
    refine ab_aload_n (i := 0) dX12_findsShutters_139 rfl rfl ?_
    refine ab_iconst (v := 1) dX12_findsShutters_140 (by decide) ?_
    refine ab_iload (i := 4) dX12_findsShutters_141 rfl ?_
    refine ab_ishl dX12_findsShutters_143 ?_
    refine ab_iconst (v := 1) dX12_findsShutters_144 (by decide) ?_
    refine ab_iload_n (i := 3) dX12_findsShutters_145 rfl rfl ?_
    refine ab_ishl dX12_findsShutters_146 ?_
    refine ab_ior dX12_findsShutters_147 ?_
    refine ab_iconst (v := 1) dX12_findsShutters_148 (by decide) ?_
    refine ab_iload_n (i := 2) dX12_findsShutters_149 rfl rfl ?_
    refine ab_ishl dX12_findsShutters_150 ?_
    refine ab_ior dX12_findsShutters_151 ?_
    refine ab_callV (b := 82) (As := [.int ((((1 : Int32) <<< (x4 &&& 31)) ||| ((1 : Int32) <<< (x3 &&& 31))) ||| ((1 : Int32) <<< (x2 &&& 31)))]) ht (Y_X12_triesShut) l_X12_477 in_X12_triesShut se_X12_triesShut (sh_k hs 82 12 (by decide) rfl) (by decide) rfl rfl ⟨(Nat.le_of_ble_eq_true rfl), (Nat.le_of_ble_eq_true rfl), (Nat.le_of_ble_eq_true rfl), (Nat.le_of_ble_eq_true rfl)⟩ dX12_findsShutters_152 ?_
    rintro _ h41 ⟨rfl, hs42, ht⟩
    refine ab_iinc (i := 4) (x := x4) (v := (x4 + 1)) (L' := [some (.ref 82), some (.int x1), some (.int x2), some (.int x3), some (.int (x4 + 1))]) dX12_findsShutters_155 rfl rfl (by exact (Nat.le_of_ble_eq_true rfl)) rfl rfl ?_
    refine ab_goto (tgt := 133) dX12_findsShutters_158 (by decide) ?_
    exact Wp.fewer (L' := [some (.ref 82), some (.int x1), some (.int x2), some (.int x3), some (.int (x4 + 1))]) (show ab_leL _ _ from ⟨rfl, ⟨rfl, ⟨rfl, ⟨rfl, ⟨rfl, trivial⟩⟩⟩⟩⟩) ht
set_option maxRecDepth 20000 in
theorem T_X12_findsShutters {Q : Option Value → ah_T → Prop} {h : ah_T} (hs : Sh h)  (ht : ((¬ (ah_i h 82 62) = (ah_i h 82 1) → (∀ h2, h2 = ah_si h 82 60 (-1) → (∀ h5, h5 = ah_si h2 82 61 0 → (Mt mX12_triesShut [.ref 82, .int 0] h5 (ab_qv fun h8 => Sh h8 ∧ Wp mX12_findsShutters Q 0 0 38 [some (.ref 82), some (.int (ah_i h5 84 (Int32.toNatClampNeg 245))), some (.int 0), none, none] [] h8))))) ∧ ((ah_i h 82 62) = (ah_i h 82 1) → Q none h))) : Mt mX12_findsShutters [.ref 82] h Q := by
  refine Mt.ofWp rfl (by exact (Nat.le_of_ble_eq_true rfl)) (Wp.fewer (L' := [some (.ref 82), none, none, none, none]) (show ab_leL _ _ from ⟨rfl, trivial⟩) ?_)
  refine ab_aload_n (i := 0) dX12_findsShutters_0 rfl rfl ?_
  refine ab_getI f_X12_143 rfl (sh_k hs 82 12 (by decide) rfl) dX12_findsShutters_1 ?_
  refine ab_aload_n (i := 0) dX12_findsShutters_4 rfl rfl ?_
  refine ab_getI f_X12_11 rfl (sh_k hs 82 12 (by decide) rfl) dX12_findsShutters_5 ?_
  refine ab_icmp_ne (tgt := 12) dX12_findsShutters_8 (by decide) (fun c1 => ?_) (fun c1 => ?_)
  · have ht := ht.1 c1
    refine ab_aload_n (i := 0) dX12_findsShutters_12 rfl rfl ?_
    refine ab_iconst (v := (-1)) dX12_findsShutters_13 (by decide) ?_
    refine ab_putI f_X12_471 (Or.inl rfl) rfl (sh_k hs 82 12 (by decide) rfl) rfl rfl dX12_findsShutters_14 ?_
    refine Wp.nm fun h2 e3 => ?_
    have ht := ht h2 e3
    have hs4 : Sh h2 := by rw [e3]; exact sh_si hs
    refine ab_aload_n (i := 0) dX12_findsShutters_17 rfl rfl ?_
    refine ab_iconst (v := 0) dX12_findsShutters_18 (by decide) ?_
    refine ab_putI f_X12_474 (Or.inl rfl) rfl (sh_k hs4 82 12 (by decide) rfl) rfl rfl dX12_findsShutters_19 ?_
    refine Wp.nm fun h5 e6 => ?_
    have ht := ht h5 e6
    have hs7 : Sh h5 := by rw [e6]; exact sh_si hs4
    refine ab_aload_n (i := 0) dX12_findsShutters_22 rfl rfl ?_
    refine ab_getR (b := 84) f_X12_20 rfl (sh_k hs7 82 12 (by decide) rfl) (sh_r hs7 100 rfl) dX12_findsShutters_23 ?_
    refine ab_sipush (v := 245) dX12_findsShutters_26 (by decide) ?_
    refine ab_iald (sh_k hs7 84 14 (by decide) rfl) (sh_in hs7 84 5860 (by decide) (by decide) rfl (by unfold vp_in; decide)) dX12_findsShutters_29 ?_
    refine ab_istore_n (i := 1) (L' := [some (.ref 82), some (.int (ah_i h5 84 (Int32.toNatClampNeg 245))), none, none, none]) dX12_findsShutters_30 rfl (by exact (Nat.le_of_ble_eq_true rfl)) rfl rfl ?_
    refine ab_aload_n (i := 0) dX12_findsShutters_31 rfl rfl ?_
    refine ab_iconst (v := 0) dX12_findsShutters_32 (by decide) ?_
    refine ab_callV (b := 82) (As := [.int 0]) ht (Y_X12_triesShut) l_X12_477 in_X12_triesShut se_X12_triesShut (sh_k hs7 82 12 (by decide) rfl) (by decide) rfl rfl ⟨(Nat.le_of_ble_eq_true rfl), (Nat.le_of_ble_eq_true rfl), (Nat.le_of_ble_eq_true rfl), (Nat.le_of_ble_eq_true rfl)⟩ dX12_findsShutters_33 ?_
    rintro _ h8 ⟨rfl, hs9, ht⟩
    refine ab_iconst (v := 0) dX12_findsShutters_36 (by decide) ?_
    refine ab_istore_n (i := 2) (L' := [some (.ref 82), some (.int (ah_i h5 84 (Int32.toNatClampNeg 245))), some (.int 0), none, none]) dX12_findsShutters_37 rfl (by exact (Nat.le_of_ble_eq_true rfl)) rfl rfl ?_
    exact Wp.fewer (L' := [some (.ref 82), some (.int (ah_i h5 84 (Int32.toNatClampNeg 245))), some (.int 0), none, none]) (show ab_leL _ _ from ⟨rfl, ⟨rfl, ⟨rfl, trivial⟩⟩⟩) ht
  · have ht := ht.2 c1
    exact ab_vret rfl dX12_findsShutters_11 (Nat.le_of_ble_eq_true rfl) (Nat.le_of_ble_eq_true rfl) ht
theorem dX12_shutters_0 : decode cX12_shutters 0 = .ok (.iload_n 1, 1) := by decide +kernel
theorem dX12_shutters_1 : decode cX12_shutters 1 = .ok (.iconst 0, 1) := by decide +kernel
theorem dX12_shutters_2 : decode cX12_shutters 2 = .ok (.iconst 2, 1) := by decide +kernel
theorem dX12_shutters_3 : decode cX12_shutters 3 = .ok (.invokestatic 156, 3) := by decide +kernel
theorem dX12_shutters_6 : decode cX12_shutters 6 = .ok (.ifCond .ne 5, 3) := by decide +kernel
theorem dX12_shutters_9 : decode cX12_shutters 9 = .ok (.iconst (-1), 1) := by decide +kernel
theorem dX12_shutters_10 : decode cX12_shutters 10 = .ok (.ireturn, 1) := by decide +kernel
theorem dX12_shutters_11 : decode cX12_shutters 11 = .ok (.aload_n 0, 1) := by decide +kernel
theorem dX12_shutters_12 : decode cX12_shutters 12 = .ok (.invokevirtual 480, 3) := by decide +kernel
theorem dX12_shutters_15 : decode cX12_shutters 15 = .ok (.iload_n 1, 1) := by decide +kernel
theorem dX12_shutters_16 : decode cX12_shutters 16 = .ok (.iconst 2, 1) := by decide +kernel
theorem dX12_shutters_17 : decode cX12_shutters 17 = .ok (.if_icmp .ne 10, 3) := by decide +kernel
theorem dX12_shutters_20 : decode cX12_shutters 20 = .ok (.aload_n 0, 1) := by decide +kernel
theorem dX12_shutters_21 : decode cX12_shutters 21 = .ok (.getfield 474, 3) := by decide +kernel
theorem dX12_shutters_24 : decode cX12_shutters 24 = .ok (.goto 33, 3) := by decide +kernel
theorem dX12_shutters_27 : decode cX12_shutters 27 = .ok (.aload_n 0, 1) := by decide +kernel
theorem dX12_shutters_28 : decode cX12_shutters 28 = .ok (.getfield 471, 3) := by decide +kernel
theorem dX12_shutters_31 : decode cX12_shutters 31 = .ok (.iconst (-1), 1) := by decide +kernel
theorem dX12_shutters_32 : decode cX12_shutters 32 = .ok (.if_icmp .ne 7, 3) := by decide +kernel
theorem dX12_shutters_35 : decode cX12_shutters 35 = .ok (.iconst (-1), 1) := by decide +kernel
theorem dX12_shutters_36 : decode cX12_shutters 36 = .ok (.goto 21, 3) := by decide +kernel
theorem dX12_shutters_39 : decode cX12_shutters 39 = .ok (.iload_n 1, 1) := by decide +kernel
theorem dX12_shutters_40 : decode cX12_shutters 40 = .ok (.ifCond .ne 13, 3) := by decide +kernel
theorem dX12_shutters_43 : decode cX12_shutters 43 = .ok (.aload_n 0, 1) := by decide +kernel
theorem dX12_shutters_44 : decode cX12_shutters 44 = .ok (.getfield 471, 3) := by decide +kernel
theorem dX12_shutters_47 : decode cX12_shutters 47 = .ok (.invokestatic 436, 3) := by decide +kernel
theorem dX12_shutters_50 : decode cX12_shutters 50 = .ok (.goto 7, 3) := by decide +kernel
theorem dX12_shutters_53 : decode cX12_shutters 53 = .ok (.aload_n 0, 1) := by decide +kernel
theorem dX12_shutters_54 : decode cX12_shutters 54 = .ok (.getfield 471, 3) := by decide +kernel
theorem dX12_shutters_57 : decode cX12_shutters 57 = .ok (.ireturn, 1) := by decide +kernel
set_option maxRecDepth 20000 in
theorem T_X12_shutters {Q : Option Value → ah_T → Prop} {h : ah_T} (hs : Sh h) (x1 : Int32) (ht : ((¬ (f_X12_lies x1 0 2) = 0 → (Mt mX12_findsShutters [.ref 82] h (ab_qv fun h2 => Sh h2 ∧ ((¬ x1 = 2 → ((¬ (ah_i h2 82 60) = (-1) → ((¬ x1 = 0 → Q (some (.int (ah_i h2 82 60))) h2) ∧ (x1 = 0 → (Mt mX12_ones [.int (ah_i h2 82 60)] h2 (ab_qi fun v10 h8 => Sh h8 ∧ Q (some (.int v10)) h8))))) ∧ ((ah_i h2 82 60) = (-1) → Q (some (.int (-1))) h2))) ∧ (x1 = 2 → Q (some (.int (ah_i h2 82 61))) h2))))) ∧ ((f_X12_lies x1 0 2) = 0 → Q (some (.int (-1))) h))) : Mt mX12_shutters [.ref 82, .int x1] h Q := by
  refine Mt.ofWp rfl (by exact (Nat.le_of_ble_eq_true rfl)) (Wp.fewer (L' := [some (.ref 82), some (.int x1)]) (show ab_leL _ _ from ⟨rfl, ⟨rfl, trivial⟩⟩) ?_)
  refine ab_iload_n (i := 1) dX12_shutters_0 rfl rfl ?_
  refine ab_iconst (v := 0) dX12_shutters_1 (by decide) ?_
  refine ab_iconst (v := 2) dX12_shutters_2 (by decide) ?_
  refine ab_callS (Q' := fun r h' => r = some (.int (f_X12_lies x1 0 2)) ∧ h = h') (As := [.int x1, .int 0, .int 2]) (c_X12_lies hs x1 0 2 ⟨rfl, rfl⟩) (Y_X12_lies) l_X12_156 st_X12_lies rfl ⟨(Nat.le_of_ble_eq_true rfl), (Nat.le_of_ble_eq_true rfl), (Nat.le_of_ble_eq_true rfl), (Nat.le_of_ble_eq_true rfl)⟩ dX12_shutters_3 ?_
  rintro _ _ ⟨rfl, rfl⟩
  refine ab_if_ne (tgt := 11) dX12_shutters_6 (by decide) (fun c1 => ?_) (fun c1 => ?_)
  · have ht := ht.1 c1
    refine ab_aload_n (i := 0) dX12_shutters_11 rfl rfl ?_
    refine ab_callV (b := 82) (As := []) ht (Y_X12_findsShutters) l_X12_480 in_X12_findsShutters se_X12_findsShutters (sh_k hs 82 12 (by decide) rfl) (by decide) rfl rfl ⟨(Nat.le_of_ble_eq_true rfl), (Nat.le_of_ble_eq_true rfl), (Nat.le_of_ble_eq_true rfl), (Nat.le_of_ble_eq_true rfl)⟩ dX12_shutters_12 ?_
    rintro _ h2 ⟨rfl, hs3, ht⟩
    refine ab_iload_n (i := 1) dX12_shutters_15 rfl rfl ?_
    refine ab_iconst (v := 2) dX12_shutters_16 (by decide) ?_
    refine ab_icmp_ne (tgt := 27) dX12_shutters_17 (by decide) (fun c5 => ?_) (fun c5 => ?_)
    · have ht := ht.1 c5
      refine ab_aload_n (i := 0) dX12_shutters_27 rfl rfl ?_
      refine ab_getI f_X12_471 rfl (sh_k hs3 82 12 (by decide) rfl) dX12_shutters_28 ?_
      refine ab_iconst (v := (-1)) dX12_shutters_31 (by decide) ?_
      refine ab_icmp_ne (tgt := 39) dX12_shutters_32 (by decide) (fun c6 => ?_) (fun c6 => ?_)
      · have ht := ht.1 c6
        refine ab_iload_n (i := 1) dX12_shutters_39 rfl rfl ?_
        refine ab_if_ne (tgt := 53) dX12_shutters_40 (by decide) (fun c7 => ?_) (fun c7 => ?_)
        · have ht := ht.1 c7
          refine ab_aload_n (i := 0) dX12_shutters_53 rfl rfl ?_
          refine ab_getI f_X12_471 rfl (sh_k hs3 82 12 (by decide) rfl) dX12_shutters_54 ?_
          exact ab_iret rfl dX12_shutters_57 (Nat.le_of_ble_eq_true rfl) (Nat.le_of_ble_eq_true rfl) ht
        · have ht := ht.2 c7
          refine ab_aload_n (i := 0) dX12_shutters_43 rfl rfl ?_
          refine ab_getI f_X12_471 rfl (sh_k hs3 82 12 (by decide) rfl) dX12_shutters_44 ?_
          refine ab_callS (As := [.int (ah_i h2 82 60)]) ht (Y_X12_ones) l_X12_436 st_X12_ones rfl ⟨(Nat.le_of_ble_eq_true rfl), (Nat.le_of_ble_eq_true rfl), (Nat.le_of_ble_eq_true rfl), (Nat.le_of_ble_eq_true rfl)⟩ dX12_shutters_47 ?_
          rintro _ h8 ⟨v10, rfl, hs9, ht⟩
          refine ab_goto (tgt := 57) dX12_shutters_50 (by decide) ?_
          exact ab_iret rfl dX12_shutters_57 (Nat.le_of_ble_eq_true rfl) (Nat.le_of_ble_eq_true rfl) ht
      · have ht := ht.2 c6
        refine ab_iconst (v := (-1)) dX12_shutters_35 (by decide) ?_
        refine ab_goto (tgt := 57) dX12_shutters_36 (by decide) ?_
        exact ab_iret rfl dX12_shutters_57 (Nat.le_of_ble_eq_true rfl) (Nat.le_of_ble_eq_true rfl) ht
    · have ht := ht.2 c5
      refine ab_aload_n (i := 0) dX12_shutters_20 rfl rfl ?_
      refine ab_getI f_X12_474 rfl (sh_k hs3 82 12 (by decide) rfl) dX12_shutters_21 ?_
      refine ab_goto (tgt := 57) dX12_shutters_24 (by decide) ?_
      exact ab_iret rfl dX12_shutters_57 (Nat.le_of_ble_eq_true rfl) (Nat.le_of_ble_eq_true rfl) ht
  · have ht := ht.2 c1
    refine ab_iconst (v := (-1)) dX12_shutters_9 (by decide) ?_
    exact ab_iret rfl dX12_shutters_10 (Nat.le_of_ble_eq_true rfl) (Nat.le_of_ble_eq_true rfl) ht
theorem dX12_wouldBe_0 : decode cX12_wouldBe 0 = .ok (.aload_n 0, 1) := by decide +kernel
theorem dX12_wouldBe_1 : decode cX12_wouldBe 1 = .ok (.iconst (-1), 1) := by decide +kernel
theorem dX12_wouldBe_2 : decode cX12_wouldBe 2 = .ok (.putfield 483, 3) := by decide +kernel
theorem dX12_wouldBe_5 : decode cX12_wouldBe 5 = .ok (.iconst 0, 1) := by decide +kernel
theorem dX12_wouldBe_6 : decode cX12_wouldBe 6 = .ok (.istore_n 2, 1) := by decide +kernel
theorem dX12_wouldBe_7 : decode cX12_wouldBe 7 = .ok (.iload_n 2, 1) := by decide +kernel
theorem dX12_wouldBe_8 : decode cX12_wouldBe 8 = .ok (.bipush 6, 2) := by decide +kernel
theorem dX12_wouldBe_10 : decode cX12_wouldBe 10 = .ok (.if_icmp .ge 81, 3) := by decide +kernel
theorem dX12_wouldBe_13 : decode cX12_wouldBe 13 = .ok (.aload_n 0, 1) := by decide +kernel
theorem dX12_wouldBe_14 : decode cX12_wouldBe 14 = .ok (.invokevirtual 416, 3) := by decide +kernel
theorem dX12_wouldBe_17 : decode cX12_wouldBe 17 = .ok (.aload_n 0, 1) := by decide +kernel
theorem dX12_wouldBe_18 : decode cX12_wouldBe 18 = .ok (.getfield 80, 3) := by decide +kernel
theorem dX12_wouldBe_21 : decode cX12_wouldBe 21 = .ok (.iload_n 1, 1) := by decide +kernel
theorem dX12_wouldBe_22 : decode cX12_wouldBe 22 = .ok (.iaload, 1) := by decide +kernel
theorem dX12_wouldBe_23 : decode cX12_wouldBe 23 = .ok (.iload_n 2, 1) := by decide +kernel
theorem dX12_wouldBe_24 : decode cX12_wouldBe 24 = .ok (.if_icmp .ne 7, 3) := by decide +kernel
theorem dX12_wouldBe_27 : decode cX12_wouldBe 27 = .ok (.iconst 1, 1) := by decide +kernel
theorem dX12_wouldBe_28 : decode cX12_wouldBe 28 = .ok (.goto 4, 3) := by decide +kernel
theorem dX12_wouldBe_31 : decode cX12_wouldBe 31 = .ok (.iconst 0, 1) := by decide +kernel
theorem dX12_wouldBe_32 : decode cX12_wouldBe 32 = .ok (.istore_n 3, 1) := by decide +kernel
theorem dX12_wouldBe_33 : decode cX12_wouldBe 33 = .ok (.aload_n 0, 1) := by decide +kernel
theorem dX12_wouldBe_34 : decode cX12_wouldBe 34 = .ok (.getfield 80, 3) := by decide +kernel
theorem dX12_wouldBe_37 : decode cX12_wouldBe 37 = .ok (.iload_n 1, 1) := by decide +kernel
theorem dX12_wouldBe_38 : decode cX12_wouldBe 38 = .ok (.iload_n 2, 1) := by decide +kernel
theorem dX12_wouldBe_39 : decode cX12_wouldBe 39 = .ok (.iastore, 1) := by decide +kernel
theorem dX12_wouldBe_40 : decode cX12_wouldBe 40 = .ok (.aload_n 0, 1) := by decide +kernel
theorem dX12_wouldBe_41 : decode cX12_wouldBe 41 = .ok (.iconst 0, 1) := by decide +kernel
theorem dX12_wouldBe_42 : decode cX12_wouldBe 42 = .ok (.invokevirtual 455, 3) := by decide +kernel
theorem dX12_wouldBe_45 : decode cX12_wouldBe 45 = .ok (.aload_n 0, 1) := by decide +kernel
theorem dX12_wouldBe_46 : decode cX12_wouldBe 46 = .ok (.iload_n 1, 1) := by decide +kernel
theorem dX12_wouldBe_47 : decode cX12_wouldBe 47 = .ok (.invokevirtual 486, 3) := by decide +kernel
theorem dX12_wouldBe_50 : decode cX12_wouldBe 50 = .ok (.istore 4, 2) := by decide +kernel
theorem dX12_wouldBe_52 : decode cX12_wouldBe 52 = .ok (.iload_n 3, 1) := by decide +kernel
theorem dX12_wouldBe_53 : decode cX12_wouldBe 53 = .ok (.ifCond .eq 9, 3) := by decide +kernel
theorem dX12_wouldBe_56 : decode cX12_wouldBe 56 = .ok (.aload_n 0, 1) := by decide +kernel
theorem dX12_wouldBe_57 : decode cX12_wouldBe 57 = .ok (.iload 4, 2) := by decide +kernel
theorem dX12_wouldBe_59 : decode cX12_wouldBe 59 = .ok (.putfield 489, 3) := by decide +kernel
theorem dX12_wouldBe_62 : decode cX12_wouldBe 62 = .ok (.iload 4, 2) := by decide +kernel
theorem dX12_wouldBe_64 : decode cX12_wouldBe 64 = .ok (.aload_n 0, 1) := by decide +kernel
theorem dX12_wouldBe_65 : decode cX12_wouldBe 65 = .ok (.getfield 483, 3) := by decide +kernel
theorem dX12_wouldBe_68 : decode cX12_wouldBe 68 = .ok (.if_icmp .gt 6, 3) := by decide +kernel
theorem dX12_wouldBe_71 : decode cX12_wouldBe 71 = .ok (.goto 14, 3) := by decide +kernel
theorem dX12_wouldBe_74 : decode cX12_wouldBe 74 = .ok (.aload_n 0, 1) := by decide +kernel
theorem dX12_wouldBe_75 : decode cX12_wouldBe 75 = .ok (.iload 4, 2) := by decide +kernel
theorem dX12_wouldBe_77 : decode cX12_wouldBe 77 = .ok (.putfield 483, 3) := by decide +kernel
theorem dX12_wouldBe_80 : decode cX12_wouldBe 80 = .ok (.aload_n 0, 1) := by decide +kernel
theorem dX12_wouldBe_81 : decode cX12_wouldBe 81 = .ok (.iload_n 2, 1) := by decide +kernel
theorem dX12_wouldBe_82 : decode cX12_wouldBe 82 = .ok (.putfield 492, 3) := by decide +kernel
theorem dX12_wouldBe_85 : decode cX12_wouldBe 85 = .ok (.iinc 2 1, 3) := by decide +kernel
theorem dX12_wouldBe_88 : decode cX12_wouldBe 88 = .ok (.goto (-81), 3) := by decide +kernel
theorem dX12_wouldBe_91 : decode cX12_wouldBe 91 = .ok (.return_, 1) := by decide +kernel
set_option maxRecDepth 20000 in
theorem T_X12_wouldBe_7 {Q : Option Value → ah_T → Prop} {h : ah_T} (hs : Sh h) (x1 : Int32) (x2 : Int32) (ht : ((6 ≤ x2 → Q none h) ∧ (¬ 6 ≤ x2 → (Mt mX12_looks [.ref 82] h (ab_qv fun h5 => Sh h5 ∧ (vp_in x1 (ah_n h5 101)) ∧ ((¬ (ah_i h5 101 (Int32.toNatClampNeg x1)) = x2 → (vp_in x1 (ah_n h5 101)) ∧ (∀ h11, h11 = ah_si h5 101 (Int32.toNatClampNeg x1) x2 → (Mt mX12_tries [.ref 82, .int 0] h11 (ab_qv fun h14 => Sh h14 ∧ (Mt mX12_litOf [.ref 82, .int x1] h14 (ab_qi fun v19 h17 => Sh h17 ∧ (((ah_i h17 82 64) < v19 → (∀ h21, h21 = ah_si h17 82 64 v19 → (∀ h24, h24 = ah_si h21 82 63 x2 → Wp mX12_wouldBe Q 0 0 7 [some (.ref 82), some (.int x1), some (.int (x2 + 1)), none, none] [] h24))) ∧ (¬ (ah_i h17 82 64) < v19 → Wp mX12_wouldBe Q 0 0 7 [some (.ref 82), some (.int x1), some (.int (x2 + 1)), none, none] [] h17)))))))) ∧ ((ah_i h5 101 (Int32.toNatClampNeg x1)) = x2 → (vp_in x1 (ah_n h5 101)) ∧ (∀ h28, h28 = ah_si h5 101 (Int32.toNatClampNeg x1) x2 → (Mt mX12_tries [.ref 82, .int 0] h28 (ab_qv fun h31 => Sh h31 ∧ (Mt mX12_litOf [.ref 82, .int x1] h31 (ab_qi fun v36 h34 => Sh h34 ∧ (∀ h37, h37 = ah_si h34 82 65 v36 → (((ah_i h37 82 64) < v36 → (∀ h41, h41 = ah_si h37 82 64 v36 → (∀ h44, h44 = ah_si h41 82 63 x2 → Wp mX12_wouldBe Q 0 0 7 [some (.ref 82), some (.int x1), some (.int (x2 + 1)), none, none] [] h44))) ∧ (¬ (ah_i h37 82 64) < v36 → Wp mX12_wouldBe Q 0 0 7 [some (.ref 82), some (.int x1), some (.int (x2 + 1)), none, none] [] h37))))))))))))))) : Wp mX12_wouldBe Q 0 0 7 [some (.ref 82), some (.int x1), some (.int x2), none, none] [] h := by
  refine ab_iload_n (i := 2) dX12_wouldBe_7 rfl rfl ?_
  refine ab_bipush (v := 6) dX12_wouldBe_8 (by decide) ?_
  refine ab_icmp_ge (tgt := 91) dX12_wouldBe_10 (by decide) (fun c4 => ?_) (fun c4 => ?_)
  · have ht := ht.1 c4
    exact ab_vret rfl dX12_wouldBe_91 (Nat.le_of_ble_eq_true rfl) (Nat.le_of_ble_eq_true rfl) ht
  · have ht := ht.2 c4
    refine ab_aload_n (i := 0) dX12_wouldBe_13 rfl rfl ?_
    refine ab_callV (b := 82) (As := []) ht (Y_X12_looks) l_X12_416 in_X12_looks se_X12_looks (sh_k hs 82 12 (by decide) rfl) (by decide) rfl rfl ⟨(Nat.le_of_ble_eq_true rfl), (Nat.le_of_ble_eq_true rfl), (Nat.le_of_ble_eq_true rfl), (Nat.le_of_ble_eq_true rfl)⟩ dX12_wouldBe_14 ?_
    rintro _ h5 ⟨rfl, hs6, ht⟩
    refine ab_aload_n (i := 0) dX12_wouldBe_17 rfl rfl ?_
    refine ab_getR (b := 101) f_X12_80 rfl (sh_k hs6 82 12 (by decide) rfl) (sh_r hs6 117 rfl) dX12_wouldBe_18 ?_
    refine ab_iload_n (i := 1) dX12_wouldBe_21 rfl rfl ?_
    obtain ⟨hc8, ht⟩ := ht
    refine ab_iald (sh_k hs6 101 14 (by decide) rfl) hc8 dX12_wouldBe_22 ?_
    refine ab_iload_n (i := 2) dX12_wouldBe_23 rfl rfl ?_
    refine ab_icmp_ne (tgt := 31) dX12_wouldBe_24 (by decide) (fun c9 => ?_) (fun c9 => ?_)
    · have ht := ht.1 c9
      refine ab_iconst (v := 0) dX12_wouldBe_31 (by decide) ?_
      refine ab_istore_n (i := 3) (L' := [some (.ref 82), some (.int x1), some (.int x2), some (.int 0), none]) dX12_wouldBe_32 rfl (by exact (Nat.le_of_ble_eq_true rfl)) rfl rfl ?_
      refine ab_aload_n (i := 0) dX12_wouldBe_33 rfl rfl ?_
      refine ab_getR (b := 101) f_X12_80 rfl (sh_k hs6 82 12 (by decide) rfl) (sh_r hs6 117 rfl) dX12_wouldBe_34 ?_
      refine ab_iload_n (i := 1) dX12_wouldBe_37 rfl rfl ?_
      refine ab_iload_n (i := 2) dX12_wouldBe_38 rfl rfl ?_
      obtain ⟨hc10, ht⟩ := ht
      refine ab_iast (sh_k hs6 101 14 (by decide) rfl) hc10 dX12_wouldBe_39 ?_
      refine Wp.nm fun h11 e12 => ?_
      have ht := ht h11 e12
      have hs13 : Sh h11 := by rw [e12]; exact sh_si hs6
      refine ab_aload_n (i := 0) dX12_wouldBe_40 rfl rfl ?_
      refine ab_iconst (v := 0) dX12_wouldBe_41 (by decide) ?_
      refine ab_callV (b := 82) (As := [.int 0]) ht (Y_X12_tries) l_X12_455 in_X12_tries se_X12_tries (sh_k hs13 82 12 (by decide) rfl) (by decide) rfl rfl ⟨(Nat.le_of_ble_eq_true rfl), (Nat.le_of_ble_eq_true rfl), (Nat.le_of_ble_eq_true rfl), (Nat.le_of_ble_eq_true rfl)⟩ dX12_wouldBe_42 ?_
      rintro _ h14 ⟨rfl, hs15, ht⟩
      refine ab_aload_n (i := 0) dX12_wouldBe_45 rfl rfl ?_
      refine ab_iload_n (i := 1) dX12_wouldBe_46 rfl rfl ?_
      refine ab_callV (b := 82) (As := [.int x1]) ht (Y_X12_litOf) l_X12_486 in_X12_litOf se_X12_litOf (sh_k hs15 82 12 (by decide) rfl) (by decide) rfl rfl ⟨(Nat.le_of_ble_eq_true rfl), (Nat.le_of_ble_eq_true rfl), (Nat.le_of_ble_eq_true rfl), (Nat.le_of_ble_eq_true rfl)⟩ dX12_wouldBe_47 ?_
      rintro _ h17 ⟨v19, rfl, hs18, ht⟩
      refine ab_istore (i := 4) (L' := [some (.ref 82), some (.int x1), some (.int x2), some (.int 0), some (.int v19)]) dX12_wouldBe_50 (by exact (Nat.le_of_ble_eq_true rfl)) rfl rfl ?_
      refine ab_iload_n (i := 3) dX12_wouldBe_52 rfl rfl ?_
      refine ab_if_eq (tgt := 62) dX12_wouldBe_53 (by decide) (fun _ => ?_) (fun q => absurd (by decide) q)
      refine ab_iload (i := 4) dX12_wouldBe_62 rfl ?_
      refine ab_aload_n (i := 0) dX12_wouldBe_64 rfl rfl ?_
      refine ab_getI f_X12_483 rfl (sh_k hs18 82 12 (by decide) rfl) dX12_wouldBe_65 ?_
      refine ab_icmp_gt (tgt := 74) dX12_wouldBe_68 (by decide) (fun c20 => ?_) (fun c20 => ?_)
      · have ht := ht.1 c20
        refine ab_aload_n (i := 0) dX12_wouldBe_74 rfl rfl ?_
        refine ab_iload (i := 4) dX12_wouldBe_75 rfl ?_
        refine ab_putI f_X12_483 (Or.inl rfl) rfl (sh_k hs18 82 12 (by decide) rfl) rfl rfl dX12_wouldBe_77 ?_
        refine Wp.nm fun h21 e22 => ?_
        have ht := ht h21 e22
        have hs23 : Sh h21 := by rw [e22]; exact sh_si hs18
        refine ab_aload_n (i := 0) dX12_wouldBe_80 rfl rfl ?_
        refine ab_iload_n (i := 2) dX12_wouldBe_81 rfl rfl ?_
        refine ab_putI f_X12_492 (Or.inl rfl) rfl (sh_k hs23 82 12 (by decide) rfl) rfl rfl dX12_wouldBe_82 ?_
        refine Wp.nm fun h24 e25 => ?_
        have ht := ht h24 e25
        have hs26 : Sh h24 := by rw [e25]; exact sh_si hs23
        refine ab_iinc (i := 2) (x := x2) (v := (x2 + 1)) (L' := [some (.ref 82), some (.int x1), some (.int (x2 + 1)), some (.int 0), some (.int v19)]) dX12_wouldBe_85 rfl rfl (by exact (Nat.le_of_ble_eq_true rfl)) rfl rfl ?_
        refine ab_goto (tgt := 7) dX12_wouldBe_88 (by decide) ?_
        exact Wp.fewer (L' := [some (.ref 82), some (.int x1), some (.int (x2 + 1)), none, none]) (show ab_leL _ _ from ⟨rfl, ⟨rfl, ⟨rfl, trivial⟩⟩⟩) ht
      · have ht := ht.2 c20
        refine ab_goto (tgt := 85) dX12_wouldBe_71 (by decide) ?_
        refine ab_iinc (i := 2) (x := x2) (v := (x2 + 1)) (L' := [some (.ref 82), some (.int x1), some (.int (x2 + 1)), some (.int 0), some (.int v19)]) dX12_wouldBe_85 rfl rfl (by exact (Nat.le_of_ble_eq_true rfl)) rfl rfl ?_
        refine ab_goto (tgt := 7) dX12_wouldBe_88 (by decide) ?_
        exact Wp.fewer (L' := [some (.ref 82), some (.int x1), some (.int (x2 + 1)), none, none]) (show ab_leL _ _ from ⟨rfl, ⟨rfl, ⟨rfl, trivial⟩⟩⟩) ht
    · have ht := ht.2 c9
      refine ab_iconst (v := 1) dX12_wouldBe_27 (by decide) ?_
      refine ab_goto (tgt := 32) dX12_wouldBe_28 (by decide) ?_
      refine ab_istore_n (i := 3) (L' := [some (.ref 82), some (.int x1), some (.int x2), some (.int 1), none]) dX12_wouldBe_32 rfl (by exact (Nat.le_of_ble_eq_true rfl)) rfl rfl ?_
      refine ab_aload_n (i := 0) dX12_wouldBe_33 rfl rfl ?_
      refine ab_getR (b := 101) f_X12_80 rfl (sh_k hs6 82 12 (by decide) rfl) (sh_r hs6 117 rfl) dX12_wouldBe_34 ?_
      refine ab_iload_n (i := 1) dX12_wouldBe_37 rfl rfl ?_
      refine ab_iload_n (i := 2) dX12_wouldBe_38 rfl rfl ?_
      obtain ⟨hc27, ht⟩ := ht
      refine ab_iast (sh_k hs6 101 14 (by decide) rfl) hc27 dX12_wouldBe_39 ?_
      refine Wp.nm fun h28 e29 => ?_
      have ht := ht h28 e29
      have hs30 : Sh h28 := by rw [e29]; exact sh_si hs6
      refine ab_aload_n (i := 0) dX12_wouldBe_40 rfl rfl ?_
      refine ab_iconst (v := 0) dX12_wouldBe_41 (by decide) ?_
      refine ab_callV (b := 82) (As := [.int 0]) ht (Y_X12_tries) l_X12_455 in_X12_tries se_X12_tries (sh_k hs30 82 12 (by decide) rfl) (by decide) rfl rfl ⟨(Nat.le_of_ble_eq_true rfl), (Nat.le_of_ble_eq_true rfl), (Nat.le_of_ble_eq_true rfl), (Nat.le_of_ble_eq_true rfl)⟩ dX12_wouldBe_42 ?_
      rintro _ h31 ⟨rfl, hs32, ht⟩
      refine ab_aload_n (i := 0) dX12_wouldBe_45 rfl rfl ?_
      refine ab_iload_n (i := 1) dX12_wouldBe_46 rfl rfl ?_
      refine ab_callV (b := 82) (As := [.int x1]) ht (Y_X12_litOf) l_X12_486 in_X12_litOf se_X12_litOf (sh_k hs32 82 12 (by decide) rfl) (by decide) rfl rfl ⟨(Nat.le_of_ble_eq_true rfl), (Nat.le_of_ble_eq_true rfl), (Nat.le_of_ble_eq_true rfl), (Nat.le_of_ble_eq_true rfl)⟩ dX12_wouldBe_47 ?_
      rintro _ h34 ⟨v36, rfl, hs35, ht⟩
      refine ab_istore (i := 4) (L' := [some (.ref 82), some (.int x1), some (.int x2), some (.int 1), some (.int v36)]) dX12_wouldBe_50 (by exact (Nat.le_of_ble_eq_true rfl)) rfl rfl ?_
      refine ab_iload_n (i := 3) dX12_wouldBe_52 rfl rfl ?_
      refine ab_if_eq (tgt := 62) dX12_wouldBe_53 (by decide) (fun q => absurd q (by decide)) (fun _ => ?_)
      refine ab_aload_n (i := 0) dX12_wouldBe_56 rfl rfl ?_
      refine ab_iload (i := 4) dX12_wouldBe_57 rfl ?_
      refine ab_putI f_X12_489 (Or.inl rfl) rfl (sh_k hs35 82 12 (by decide) rfl) rfl rfl dX12_wouldBe_59 ?_
      refine Wp.nm fun h37 e38 => ?_
      have ht := ht h37 e38
      have hs39 : Sh h37 := by rw [e38]; exact sh_si hs35
      refine ab_iload (i := 4) dX12_wouldBe_62 rfl ?_
      refine ab_aload_n (i := 0) dX12_wouldBe_64 rfl rfl ?_
      refine ab_getI f_X12_483 rfl (sh_k hs39 82 12 (by decide) rfl) dX12_wouldBe_65 ?_
      refine ab_icmp_gt (tgt := 74) dX12_wouldBe_68 (by decide) (fun c40 => ?_) (fun c40 => ?_)
      · have ht := ht.1 c40
        refine ab_aload_n (i := 0) dX12_wouldBe_74 rfl rfl ?_
        refine ab_iload (i := 4) dX12_wouldBe_75 rfl ?_
        refine ab_putI f_X12_483 (Or.inl rfl) rfl (sh_k hs39 82 12 (by decide) rfl) rfl rfl dX12_wouldBe_77 ?_
        refine Wp.nm fun h41 e42 => ?_
        have ht := ht h41 e42
        have hs43 : Sh h41 := by rw [e42]; exact sh_si hs39
        refine ab_aload_n (i := 0) dX12_wouldBe_80 rfl rfl ?_
        refine ab_iload_n (i := 2) dX12_wouldBe_81 rfl rfl ?_
        refine ab_putI f_X12_492 (Or.inl rfl) rfl (sh_k hs43 82 12 (by decide) rfl) rfl rfl dX12_wouldBe_82 ?_
        refine Wp.nm fun h44 e45 => ?_
        have ht := ht h44 e45
        have hs46 : Sh h44 := by rw [e45]; exact sh_si hs43
        refine ab_iinc (i := 2) (x := x2) (v := (x2 + 1)) (L' := [some (.ref 82), some (.int x1), some (.int (x2 + 1)), some (.int 1), some (.int v36)]) dX12_wouldBe_85 rfl rfl (by exact (Nat.le_of_ble_eq_true rfl)) rfl rfl ?_
        refine ab_goto (tgt := 7) dX12_wouldBe_88 (by decide) ?_
        exact Wp.fewer (L' := [some (.ref 82), some (.int x1), some (.int (x2 + 1)), none, none]) (show ab_leL _ _ from ⟨rfl, ⟨rfl, ⟨rfl, trivial⟩⟩⟩) ht
      · have ht := ht.2 c40
        refine ab_goto (tgt := 85) dX12_wouldBe_71 (by decide) ?_
        refine ab_iinc (i := 2) (x := x2) (v := (x2 + 1)) (L' := [some (.ref 82), some (.int x1), some (.int (x2 + 1)), some (.int 1), some (.int v36)]) dX12_wouldBe_85 rfl rfl (by exact (Nat.le_of_ble_eq_true rfl)) rfl rfl ?_
        refine ab_goto (tgt := 7) dX12_wouldBe_88 (by decide) ?_
        exact Wp.fewer (L' := [some (.ref 82), some (.int x1), some (.int (x2 + 1)), none, none]) (show ab_leL _ _ from ⟨rfl, ⟨rfl, ⟨rfl, trivial⟩⟩⟩) ht
set_option maxRecDepth 20000 in
theorem T_X12_wouldBe {Q : Option Value → ah_T → Prop} {h : ah_T} (hs : Sh h) (x1 : Int32) (ht : (∀ h1, h1 = ah_si h 82 64 (-1) → Wp mX12_wouldBe Q 0 0 7 [some (.ref 82), some (.int x1), some (.int 0), none, none] [] h1)) : Mt mX12_wouldBe [.ref 82, .int x1] h Q := by
  refine Mt.ofWp rfl (by exact (Nat.le_of_ble_eq_true rfl)) (Wp.fewer (L' := [some (.ref 82), some (.int x1), none, none, none]) (show ab_leL _ _ from ⟨rfl, ⟨rfl, trivial⟩⟩) ?_)
  refine ab_aload_n (i := 0) dX12_wouldBe_0 rfl rfl ?_
  refine ab_iconst (v := (-1)) dX12_wouldBe_1 (by decide) ?_
  refine ab_putI f_X12_483 (Or.inl rfl) rfl (sh_k hs 82 12 (by decide) rfl) rfl rfl dX12_wouldBe_2 ?_
  refine Wp.nm fun h1 e2 => ?_
  have ht := ht h1 e2
  have hs3 : Sh h1 := by rw [e2]; exact sh_si hs
  refine ab_iconst (v := 0) dX12_wouldBe_5 (by decide) ?_
  refine ab_istore_n (i := 2) (L' := [some (.ref 82), some (.int x1), some (.int 0), none, none]) dX12_wouldBe_6 rfl (by exact (Nat.le_of_ble_eq_true rfl)) rfl rfl ?_
  exact Wp.fewer (L' := [some (.ref 82), some (.int x1), some (.int 0), none, none]) (show ab_leL _ _ from ⟨rfl, ⟨rfl, ⟨rfl, trivial⟩⟩⟩) ht
theorem dX12_would_0 : decode cX12_would 0 = .ok (.iload_n 2, 1) := by decide +kernel
theorem dX12_would_1 : decode cX12_would 1 = .ok (.iconst 0, 1) := by decide +kernel
theorem dX12_would_2 : decode cX12_would 2 = .ok (.iconst 1, 1) := by decide +kernel
theorem dX12_would_3 : decode cX12_would 3 = .ok (.invokestatic 156, 3) := by decide +kernel
theorem dX12_would_6 : decode cX12_would 6 = .ok (.ifCond .ne 5, 3) := by decide +kernel
theorem dX12_would_9 : decode cX12_would 9 = .ok (.iconst (-1), 1) := by decide +kernel
theorem dX12_would_10 : decode cX12_would 10 = .ok (.ireturn, 1) := by decide +kernel
theorem dX12_would_11 : decode cX12_would 11 = .ok (.iload_n 1, 1) := by decide +kernel
theorem dX12_would_12 : decode cX12_would 12 = .ok (.iconst (-1), 1) := by decide +kernel
theorem dX12_would_13 : decode cX12_would 13 = .ok (.if_icmp .ne 57, 3) := by decide +kernel
theorem dX12_would_16 : decode cX12_would 16 = .ok (.iconst 0, 1) := by decide +kernel
theorem dX12_would_17 : decode cX12_would 17 = .ok (.istore_n 3, 1) := by decide +kernel
theorem dX12_would_18 : decode cX12_would 18 = .ok (.iconst 0, 1) := by decide +kernel
theorem dX12_would_19 : decode cX12_would 19 = .ok (.istore 4, 2) := by decide +kernel
theorem dX12_would_21 : decode cX12_would 21 = .ok (.iload 4, 2) := by decide +kernel
theorem dX12_would_23 : decode cX12_would 23 = .ok (.aload_n 0, 1) := by decide +kernel
theorem dX12_would_24 : decode cX12_would 24 = .ok (.getfield 20, 3) := by decide +kernel
theorem dX12_would_27 : decode cX12_would 27 = .ok (.sipush 246, 3) := by decide +kernel
theorem dX12_would_30 : decode cX12_would 30 = .ok (.iaload, 1) := by decide +kernel
theorem dX12_would_31 : decode cX12_would 31 = .ok (.if_icmp .ge 37, 3) := by decide +kernel
theorem dX12_would_34 : decode cX12_would 34 = .ok (.aload_n 0, 1) := by decide +kernel
theorem dX12_would_35 : decode cX12_would 35 = .ok (.iload 4, 2) := by decide +kernel
theorem dX12_would_37 : decode cX12_would 37 = .ok (.invokevirtual 495, 3) := by decide +kernel
theorem dX12_would_40 : decode cX12_would 40 = .ok (.iload_n 3, 1) := by decide +kernel
theorem dX12_would_41 : decode cX12_would 41 = .ok (.aload_n 0, 1) := by decide +kernel
theorem dX12_would_42 : decode cX12_would 42 = .ok (.getfield 483, 3) := by decide +kernel
theorem dX12_would_45 : decode cX12_would 45 = .ok (.aload_n 0, 1) := by decide +kernel
theorem dX12_would_46 : decode cX12_would 46 = .ok (.getfield 489, 3) := by decide +kernel
theorem dX12_would_49 : decode cX12_would 49 = .ok (.if_icmp .le 10, 3) := by decide +kernel
theorem dX12_would_52 : decode cX12_would 52 = .ok (.iconst 1, 1) := by decide +kernel
theorem dX12_would_53 : decode cX12_would 53 = .ok (.iload 4, 2) := by decide +kernel
theorem dX12_would_55 : decode cX12_would 55 = .ok (.ishl, 1) := by decide +kernel
theorem dX12_would_56 : decode cX12_would 56 = .ok (.goto 4, 3) := by decide +kernel
theorem dX12_would_59 : decode cX12_would 59 = .ok (.iconst 0, 1) := by decide +kernel
theorem dX12_would_60 : decode cX12_would 60 = .ok (.ior, 1) := by decide +kernel
theorem dX12_would_61 : decode cX12_would 61 = .ok (.istore_n 3, 1) := by decide +kernel
theorem dX12_would_62 : decode cX12_would 62 = .ok (.iinc 4 1, 3) := by decide +kernel
theorem dX12_would_65 : decode cX12_would 65 = .ok (.goto (-44), 3) := by decide +kernel
theorem dX12_would_68 : decode cX12_would 68 = .ok (.iload_n 3, 1) := by decide +kernel
theorem dX12_would_69 : decode cX12_would 69 = .ok (.ireturn, 1) := by decide +kernel
theorem dX12_would_70 : decode cX12_would 70 = .ok (.aload_n 0, 1) := by decide +kernel
theorem dX12_would_71 : decode cX12_would 71 = .ok (.iload_n 1, 1) := by decide +kernel
theorem dX12_would_72 : decode cX12_would 72 = .ok (.invokevirtual 198, 3) := by decide +kernel
theorem dX12_would_75 : decode cX12_would 75 = .ok (.ifCond .ne 5, 3) := by decide +kernel
theorem dX12_would_78 : decode cX12_would 78 = .ok (.iconst (-1), 1) := by decide +kernel
theorem dX12_would_79 : decode cX12_would 79 = .ok (.ireturn, 1) := by decide +kernel
theorem dX12_would_80 : decode cX12_would 80 = .ok (.aload_n 0, 1) := by decide +kernel
theorem dX12_would_81 : decode cX12_would 81 = .ok (.iload_n 1, 1) := by decide +kernel
theorem dX12_would_82 : decode cX12_would 82 = .ok (.invokevirtual 495, 3) := by decide +kernel
theorem dX12_would_85 : decode cX12_would 85 = .ok (.iload_n 2, 1) := by decide +kernel
theorem dX12_would_86 : decode cX12_would 86 = .ok (.ifCond .ne 10, 3) := by decide +kernel
theorem dX12_would_89 : decode cX12_would 89 = .ok (.aload_n 0, 1) := by decide +kernel
theorem dX12_would_90 : decode cX12_would 90 = .ok (.getfield 492, 3) := by decide +kernel
theorem dX12_would_93 : decode cX12_would 93 = .ok (.goto 7, 3) := by decide +kernel
theorem dX12_would_96 : decode cX12_would 96 = .ok (.aload_n 0, 1) := by decide +kernel
theorem dX12_would_97 : decode cX12_would 97 = .ok (.getfield 483, 3) := by decide +kernel
theorem dX12_would_100 : decode cX12_would 100 = .ok (.ireturn, 1) := by decide +kernel
set_option maxRecDepth 20000 in
theorem T_X12_would_21 {Q : Option Value → ah_T → Prop} {h : ah_T} (hs : Sh h) (x3 : Int32) (x4 : Int32) (ht : (((ah_i h 84 (Int32.toNatClampNeg 246)) ≤ x4 → Q (some (.int x3)) h) ∧ (¬ (ah_i h 84 (Int32.toNatClampNeg 246)) ≤ x4 → (Mt mX12_wouldBe [.ref 82, .int x4] h (ab_qv fun h9 => Sh h9 ∧ (((ah_i h9 82 64) ≤ (ah_i h9 82 65) → Wp mX12_would Q 0 0 21 [some (.ref 82), none, none, some (.int (x3 ||| 0)), some (.int (x4 + 1))] [] h9) ∧ (¬ (ah_i h9 82 64) ≤ (ah_i h9 82 65) → Wp mX12_would Q 0 0 21 [some (.ref 82), none, none, some (.int (x3 ||| ((1 : Int32) <<< (x4 &&& 31)))), some (.int (x4 + 1))] [] h9))))))) : Wp mX12_would Q 0 0 21 [some (.ref 82), none, none, some (.int x3), some (.int x4)] [] h := by
  refine ab_iload (i := 4) dX12_would_21 rfl ?_
  refine ab_aload_n (i := 0) dX12_would_23 rfl rfl ?_
  refine ab_getR (b := 84) f_X12_20 rfl (sh_k hs 82 12 (by decide) rfl) (sh_r hs 100 rfl) dX12_would_24 ?_
  refine ab_sipush (v := 246) dX12_would_27 (by decide) ?_
  refine ab_iald (sh_k hs 84 14 (by decide) rfl) (sh_in hs 84 5860 (by decide) (by decide) rfl (by unfold vp_in; decide)) dX12_would_30 ?_
  refine ab_icmp_ge (tgt := 68) dX12_would_31 (by decide) (fun c8 => ?_) (fun c8 => ?_)
  · have ht := ht.1 c8
    refine ab_iload_n (i := 3) dX12_would_68 rfl rfl ?_
    exact ab_iret rfl dX12_would_69 (Nat.le_of_ble_eq_true rfl) (Nat.le_of_ble_eq_true rfl) ht
  · have ht := ht.2 c8
    refine ab_aload_n (i := 0) dX12_would_34 rfl rfl ?_
    refine ab_iload (i := 4) dX12_would_35 rfl ?_
    refine ab_callV (b := 82) (As := [.int x4]) ht (Y_X12_wouldBe) l_X12_495 in_X12_wouldBe se_X12_wouldBe (sh_k hs 82 12 (by decide) rfl) (by decide) rfl rfl ⟨(Nat.le_of_ble_eq_true rfl), (Nat.le_of_ble_eq_true rfl), (Nat.le_of_ble_eq_true rfl), (Nat.le_of_ble_eq_true rfl)⟩ dX12_would_37 ?_
    rintro _ h9 ⟨rfl, hs10, ht⟩
    refine ab_iload_n (i := 3) dX12_would_40 rfl rfl ?_
    refine ab_aload_n (i := 0) dX12_would_41 rfl rfl ?_
    refine ab_getI f_X12_483 rfl (sh_k hs10 82 12 (by decide) rfl) dX12_would_42 ?_
    refine ab_aload_n (i := 0) dX12_would_45 rfl rfl ?_
    refine ab_getI f_X12_489 rfl (sh_k hs10 82 12 (by decide) rfl) dX12_would_46 ?_
    refine ab_icmp_le (tgt := 59) dX12_would_49 (by decide) (fun c12 => ?_) (fun c12 => ?_)
    · have ht := ht.1 c12
      refine ab_iconst (v := 0) dX12_would_59 (by decide) ?_
      refine ab_ior dX12_would_60 ?_
      refine ab_istore_n (i := 3) (L' := [some (.ref 82), none, none, some (.int (x3 ||| 0)), some (.int x4)]) dX12_would_61 rfl (by exact (Nat.le_of_ble_eq_true rfl)) rfl rfl ?_
      refine ab_iinc (i := 4) (x := x4) (v := (x4 + 1)) (L' := [some (.ref 82), none, none, some (.int (x3 ||| 0)), some (.int (x4 + 1))]) dX12_would_62 rfl rfl (by exact (Nat.le_of_ble_eq_true rfl)) rfl rfl ?_
      refine ab_goto (tgt := 21) dX12_would_65 (by decide) ?_
      exact Wp.fewer (L' := [some (.ref 82), none, none, some (.int (x3 ||| 0)), some (.int (x4 + 1))]) (show ab_leL _ _ from ⟨rfl, ⟨rfl, ⟨rfl, trivial⟩⟩⟩) ht
    · have ht := ht.2 c12
      refine ab_iconst (v := 1) dX12_would_52 (by decide) ?_
      refine ab_iload (i := 4) dX12_would_53 rfl ?_
      refine ab_ishl dX12_would_55 ?_
      refine ab_goto (tgt := 60) dX12_would_56 (by decide) ?_
      refine ab_ior dX12_would_60 ?_
      refine ab_istore_n (i := 3) (L' := [some (.ref 82), none, none, some (.int (x3 ||| ((1 : Int32) <<< (x4 &&& 31)))), some (.int x4)]) dX12_would_61 rfl (by exact (Nat.le_of_ble_eq_true rfl)) rfl rfl ?_
      refine ab_iinc (i := 4) (x := x4) (v := (x4 + 1)) (L' := [some (.ref 82), none, none, some (.int (x3 ||| ((1 : Int32) <<< (x4 &&& 31)))), some (.int (x4 + 1))]) dX12_would_62 rfl rfl (by exact (Nat.le_of_ble_eq_true rfl)) rfl rfl ?_
      refine ab_goto (tgt := 21) dX12_would_65 (by decide) ?_
      exact Wp.fewer (L' := [some (.ref 82), none, none, some (.int (x3 ||| ((1 : Int32) <<< (x4 &&& 31)))), some (.int (x4 + 1))]) (show ab_leL _ _ from ⟨rfl, ⟨rfl, ⟨rfl, trivial⟩⟩⟩) ht
set_option maxRecDepth 20000 in
theorem T_X12_would {Q : Option Value → ah_T → Prop} {h : ah_T} (hs : Sh h) (x1 : Int32) (x2 : Int32) (ht : ((¬ (f_X12_lies x2 0 1) = 0 → ((¬ x1 = (-1) → ((¬ (f_X12_isLamp h x1) = 0 → (Mt mX12_wouldBe [.ref 82, .int x1] h (ab_qv fun h4 => Sh h4 ∧ ((¬ x2 = 0 → Q (some (.int (ah_i h4 82 64))) h4) ∧ (x2 = 0 → Q (some (.int (ah_i h4 82 63))) h4))))) ∧ ((f_X12_isLamp h x1) = 0 → Q (some (.int (-1))) h))) ∧ (x1 = (-1) → Wp mX12_would Q 0 0 21 [some (.ref 82), none, none, some (.int 0), some (.int 0)] [] h))) ∧ ((f_X12_lies x2 0 1) = 0 → Q (some (.int (-1))) h))) : Mt mX12_would [.ref 82, .int x1, .int x2] h Q := by
  refine Mt.ofWp rfl (by exact (Nat.le_of_ble_eq_true rfl)) (Wp.fewer (L' := [some (.ref 82), some (.int x1), some (.int x2), none, none]) (show ab_leL _ _ from ⟨rfl, ⟨rfl, ⟨rfl, trivial⟩⟩⟩) ?_)
  refine ab_iload_n (i := 2) dX12_would_0 rfl rfl ?_
  refine ab_iconst (v := 0) dX12_would_1 (by decide) ?_
  refine ab_iconst (v := 1) dX12_would_2 (by decide) ?_
  refine ab_callS (Q' := fun r h' => r = some (.int (f_X12_lies x2 0 1)) ∧ h = h') (As := [.int x2, .int 0, .int 1]) (c_X12_lies hs x2 0 1 ⟨rfl, rfl⟩) (Y_X12_lies) l_X12_156 st_X12_lies rfl ⟨(Nat.le_of_ble_eq_true rfl), (Nat.le_of_ble_eq_true rfl), (Nat.le_of_ble_eq_true rfl), (Nat.le_of_ble_eq_true rfl)⟩ dX12_would_3 ?_
  rintro _ _ ⟨rfl, rfl⟩
  refine ab_if_ne (tgt := 11) dX12_would_6 (by decide) (fun c1 => ?_) (fun c1 => ?_)
  · have ht := ht.1 c1
    refine ab_iload_n (i := 1) dX12_would_11 rfl rfl ?_
    refine ab_iconst (v := (-1)) dX12_would_12 (by decide) ?_
    refine ab_icmp_ne (tgt := 70) dX12_would_13 (by decide) (fun c2 => ?_) (fun c2 => ?_)
    · have ht := ht.1 c2
      refine ab_aload_n (i := 0) dX12_would_70 rfl rfl ?_
      refine ab_iload_n (i := 1) dX12_would_71 rfl rfl ?_
      refine ab_callV (b := 82) (Q' := fun r h' => r = some (.int (f_X12_isLamp h x1)) ∧ h = h') (As := [.int x1]) (c_X12_isLamp hs x1 ⟨rfl, rfl⟩) (Y_X12_isLamp) l_X12_198 in_X12_isLamp se_X12_isLamp (sh_k hs 82 12 (by decide) rfl) (by decide) rfl rfl ⟨(Nat.le_of_ble_eq_true rfl), (Nat.le_of_ble_eq_true rfl), (Nat.le_of_ble_eq_true rfl), (Nat.le_of_ble_eq_true rfl)⟩ dX12_would_72 ?_
      rintro _ _ ⟨rfl, rfl⟩
      refine ab_if_ne (tgt := 80) dX12_would_75 (by decide) (fun c3 => ?_) (fun c3 => ?_)
      · have ht := ht.1 c3
        refine ab_aload_n (i := 0) dX12_would_80 rfl rfl ?_
        refine ab_iload_n (i := 1) dX12_would_81 rfl rfl ?_
        refine ab_callV (b := 82) (As := [.int x1]) ht (Y_X12_wouldBe) l_X12_495 in_X12_wouldBe se_X12_wouldBe (sh_k hs 82 12 (by decide) rfl) (by decide) rfl rfl ⟨(Nat.le_of_ble_eq_true rfl), (Nat.le_of_ble_eq_true rfl), (Nat.le_of_ble_eq_true rfl), (Nat.le_of_ble_eq_true rfl)⟩ dX12_would_82 ?_
        rintro _ h4 ⟨rfl, hs5, ht⟩
        refine ab_iload_n (i := 2) dX12_would_85 rfl rfl ?_
        refine ab_if_ne (tgt := 96) dX12_would_86 (by decide) (fun c7 => ?_) (fun c7 => ?_)
        · have ht := ht.1 c7
          refine ab_aload_n (i := 0) dX12_would_96 rfl rfl ?_
          refine ab_getI f_X12_483 rfl (sh_k hs5 82 12 (by decide) rfl) dX12_would_97 ?_
          exact ab_iret rfl dX12_would_100 (Nat.le_of_ble_eq_true rfl) (Nat.le_of_ble_eq_true rfl) ht
        · have ht := ht.2 c7
          refine ab_aload_n (i := 0) dX12_would_89 rfl rfl ?_
          refine ab_getI f_X12_492 rfl (sh_k hs5 82 12 (by decide) rfl) dX12_would_90 ?_
          refine ab_goto (tgt := 100) dX12_would_93 (by decide) ?_
          exact ab_iret rfl dX12_would_100 (Nat.le_of_ble_eq_true rfl) (Nat.le_of_ble_eq_true rfl) ht
      · have ht := ht.2 c3
        refine ab_iconst (v := (-1)) dX12_would_78 (by decide) ?_
        exact ab_iret rfl dX12_would_79 (Nat.le_of_ble_eq_true rfl) (Nat.le_of_ble_eq_true rfl) ht
    · have ht := ht.2 c2
      refine ab_iconst (v := 0) dX12_would_16 (by decide) ?_
      refine ab_istore_n (i := 3) (L' := [some (.ref 82), some (.int x1), some (.int x2), some (.int 0), none]) dX12_would_17 rfl (by exact (Nat.le_of_ble_eq_true rfl)) rfl rfl ?_
      refine ab_iconst (v := 0) dX12_would_18 (by decide) ?_
      refine ab_istore (i := 4) (L' := [some (.ref 82), some (.int x1), some (.int x2), some (.int 0), some (.int 0)]) dX12_would_19 (by exact (Nat.le_of_ble_eq_true rfl)) rfl rfl ?_
      exact Wp.fewer (L' := [some (.ref 82), none, none, some (.int 0), some (.int 0)]) (show ab_leL _ _ from ⟨rfl, ⟨rfl, ⟨rfl, trivial⟩⟩⟩) ht
  · have ht := ht.2 c1
    refine ab_iconst (v := (-1)) dX12_would_9 (by decide) ?_
    exact ab_iret rfl dX12_would_10 (Nat.le_of_ble_eq_true rfl) (Nat.le_of_ble_eq_true rfl) ht
theorem dX12_soot_0 : decode cX12_soot 0 = .ok (.iload_n 2, 1) := by decide +kernel
theorem dX12_soot_1 : decode cX12_soot 1 = .ok (.invokestatic 201, 3) := by decide +kernel
theorem dX12_soot_4 : decode cX12_soot 4 = .ok (.ifCond .eq 12, 3) := by decide +kernel
theorem dX12_soot_7 : decode cX12_soot 7 = .ok (.iload_n 3, 1) := by decide +kernel
theorem dX12_soot_8 : decode cX12_soot 8 = .ok (.iconst 0, 1) := by decide +kernel
theorem dX12_soot_9 : decode cX12_soot 9 = .ok (.iconst 1, 1) := by decide +kernel
theorem dX12_soot_10 : decode cX12_soot 10 = .ok (.invokestatic 156, 3) := by decide +kernel
theorem dX12_soot_13 : decode cX12_soot 13 = .ok (.ifCond .ne 9, 3) := by decide +kernel
theorem dX12_soot_16 : decode cX12_soot 16 = .ok (.aload_n 0, 1) := by decide +kernel
theorem dX12_soot_17 : decode cX12_soot 17 = .ok (.iconst (-1), 1) := by decide +kernel
theorem dX12_soot_18 : decode cX12_soot 18 = .ok (.invokevirtual 160, 3) := by decide +kernel
theorem dX12_soot_21 : decode cX12_soot 21 = .ok (.ireturn, 1) := by decide +kernel
theorem dX12_soot_22 : decode cX12_soot 22 = .ok (.aload_n 0, 1) := by decide +kernel
theorem dX12_soot_23 : decode cX12_soot 23 = .ok (.iload_n 1, 1) := by decide +kernel
theorem dX12_soot_24 : decode cX12_soot 24 = .ok (.invokevirtual 198, 3) := by decide +kernel
theorem dX12_soot_27 : decode cX12_soot 27 = .ok (.ifCond .ne 10, 3) := by decide +kernel
theorem dX12_soot_30 : decode cX12_soot 30 = .ok (.aload_n 0, 1) := by decide +kernel
theorem dX12_soot_31 : decode cX12_soot 31 = .ok (.bipush (-2), 2) := by decide +kernel
theorem dX12_soot_33 : decode cX12_soot 33 = .ok (.invokevirtual 160, 3) := by decide +kernel
theorem dX12_soot_36 : decode cX12_soot 36 = .ok (.ireturn, 1) := by decide +kernel
theorem dX12_soot_37 : decode cX12_soot 37 = .ok (.aload_n 0, 1) := by decide +kernel
theorem dX12_soot_38 : decode cX12_soot 38 = .ok (.getfield 20, 3) := by decide +kernel
theorem dX12_soot_41 : decode cX12_soot 41 = .ok (.sipush 250, 3) := by decide +kernel
theorem dX12_soot_44 : decode cX12_soot 44 = .ok (.iaload, 1) := by decide +kernel
theorem dX12_soot_45 : decode cX12_soot 45 = .ok (.bipush 8, 2) := by decide +kernel
theorem dX12_soot_47 : decode cX12_soot 47 = .ok (.if_icmp .ne 10, 3) := by decide +kernel
theorem dX12_soot_50 : decode cX12_soot 50 = .ok (.aload_n 0, 1) := by decide +kernel
theorem dX12_soot_51 : decode cX12_soot 51 = .ok (.bipush (-5), 2) := by decide +kernel
theorem dX12_soot_53 : decode cX12_soot 53 = .ok (.invokevirtual 160, 3) := by decide +kernel
theorem dX12_soot_56 : decode cX12_soot 56 = .ok (.ireturn, 1) := by decide +kernel
theorem dX12_soot_57 : decode cX12_soot 57 = .ok (.aload_n 0, 1) := by decide +kernel
theorem dX12_soot_58 : decode cX12_soot 58 = .ok (.aload_n 0, 1) := by decide +kernel
theorem dX12_soot_59 : decode cX12_soot 59 = .ok (.sipush 218, 3) := by decide +kernel
theorem dX12_soot_62 : decode cX12_soot 62 = .ok (.sipush 250, 3) := by decide +kernel
theorem dX12_soot_65 : decode cX12_soot 65 = .ok (.iload_n 1, 1) := by decide +kernel
theorem dX12_soot_66 : decode cX12_soot 66 = .ok (.iload_n 2, 1) := by decide +kernel
theorem dX12_soot_67 : decode cX12_soot 67 = .ok (.iload_n 3, 1) := by decide +kernel
theorem dX12_soot_68 : decode cX12_soot 68 = .ok (.invokevirtual 182, 3) := by decide +kernel
theorem dX12_soot_71 : decode cX12_soot 71 = .ok (.invokevirtual 164, 3) := by decide +kernel
theorem dX12_soot_74 : decode cX12_soot 74 = .ok (.ireturn, 1) := by decide +kernel
set_option maxRecDepth 20000 in
theorem T_X12_soot {Q : Option Value → ah_T → Prop} {h : ah_T} (hs : Sh h) (x1 : Int32) (x2 : Int32) (x3 : Int32) (ht : (((f_X12_isMinute x2) = 0 → (Mt mX12_refuses [.ref 82, .int (-1)] h (ab_qi fun v4 h2 => Sh h2 ∧ Q (some (.int v4)) h2))) ∧ (¬ (f_X12_isMinute x2) = 0 → ((¬ (f_X12_lies x3 0 1) = 0 → ((¬ (f_X12_isLamp h x1) = 0 → ((¬ (ah_i h 84 (Int32.toNatClampNeg 250)) = 8 → (Mt mX12_comesBehind [.ref 82, .int 218, .int 250, .int x1, .int x2, .int x3] h (ab_qi fun v10 h8 => Sh h8 ∧ (Mt mX12_good [.ref 82, .int v10] h8 (ab_qi fun v13 h11 => Sh h11 ∧ Q (some (.int v13)) h11))))) ∧ ((ah_i h 84 (Int32.toNatClampNeg 250)) = 8 → (Mt mX12_refuses [.ref 82, .int (-5)] h (ab_qi fun v16 h14 => Sh h14 ∧ Q (some (.int v16)) h14))))) ∧ ((f_X12_isLamp h x1) = 0 → (Mt mX12_refuses [.ref 82, .int (-2)] h (ab_qi fun v19 h17 => Sh h17 ∧ Q (some (.int v19)) h17))))) ∧ ((f_X12_lies x3 0 1) = 0 → (Mt mX12_refuses [.ref 82, .int (-1)] h (ab_qi fun v22 h20 => Sh h20 ∧ Q (some (.int v22)) h20))))))) : Mt mX12_soot [.ref 82, .int x1, .int x2, .int x3] h Q := by
  refine Mt.ofWp rfl (by exact (Nat.le_of_ble_eq_true rfl)) (Wp.fewer (L' := [some (.ref 82), some (.int x1), some (.int x2), some (.int x3)]) (show ab_leL _ _ from ⟨rfl, ⟨rfl, ⟨rfl, ⟨rfl, trivial⟩⟩⟩⟩) ?_)
  refine ab_iload_n (i := 2) dX12_soot_0 rfl rfl ?_
  refine ab_callS (Q' := fun r h' => r = some (.int (f_X12_isMinute x2)) ∧ h = h') (As := [.int x2]) (c_X12_isMinute hs x2 ⟨rfl, rfl⟩) (Y_X12_isMinute) l_X12_201 st_X12_isMinute rfl ⟨(Nat.le_of_ble_eq_true rfl), (Nat.le_of_ble_eq_true rfl), (Nat.le_of_ble_eq_true rfl), (Nat.le_of_ble_eq_true rfl)⟩ dX12_soot_1 ?_
  rintro _ _ ⟨rfl, rfl⟩
  refine ab_if_eq (tgt := 16) dX12_soot_4 (by decide) (fun c1 => ?_) (fun c1 => ?_)
  · have ht := ht.1 c1
    refine ab_aload_n (i := 0) dX12_soot_16 rfl rfl ?_
    refine ab_iconst (v := (-1)) dX12_soot_17 (by decide) ?_
    refine ab_callV (b := 82) (As := [.int (-1)]) ht (Y_X12_refuses) l_X12_160 in_X12_refuses se_X12_refuses (sh_k hs 82 12 (by decide) rfl) (by decide) rfl rfl ⟨(Nat.le_of_ble_eq_true rfl), (Nat.le_of_ble_eq_true rfl), (Nat.le_of_ble_eq_true rfl), (Nat.le_of_ble_eq_true rfl)⟩ dX12_soot_18 ?_
    rintro _ h2 ⟨v4, rfl, hs3, ht⟩
    exact ab_iret rfl dX12_soot_21 (Nat.le_of_ble_eq_true rfl) (Nat.le_of_ble_eq_true rfl) ht
  · have ht := ht.2 c1
    refine ab_iload_n (i := 3) dX12_soot_7 rfl rfl ?_
    refine ab_iconst (v := 0) dX12_soot_8 (by decide) ?_
    refine ab_iconst (v := 1) dX12_soot_9 (by decide) ?_
    refine ab_callS (Q' := fun r h' => r = some (.int (f_X12_lies x3 0 1)) ∧ h = h') (As := [.int x3, .int 0, .int 1]) (c_X12_lies hs x3 0 1 ⟨rfl, rfl⟩) (Y_X12_lies) l_X12_156 st_X12_lies rfl ⟨(Nat.le_of_ble_eq_true rfl), (Nat.le_of_ble_eq_true rfl), (Nat.le_of_ble_eq_true rfl), (Nat.le_of_ble_eq_true rfl)⟩ dX12_soot_10 ?_
    rintro _ _ ⟨rfl, rfl⟩
    refine ab_if_ne (tgt := 22) dX12_soot_13 (by decide) (fun c5 => ?_) (fun c5 => ?_)
    · have ht := ht.1 c5
      refine ab_aload_n (i := 0) dX12_soot_22 rfl rfl ?_
      refine ab_iload_n (i := 1) dX12_soot_23 rfl rfl ?_
      refine ab_callV (b := 82) (Q' := fun r h' => r = some (.int (f_X12_isLamp h x1)) ∧ h = h') (As := [.int x1]) (c_X12_isLamp hs x1 ⟨rfl, rfl⟩) (Y_X12_isLamp) l_X12_198 in_X12_isLamp se_X12_isLamp (sh_k hs 82 12 (by decide) rfl) (by decide) rfl rfl ⟨(Nat.le_of_ble_eq_true rfl), (Nat.le_of_ble_eq_true rfl), (Nat.le_of_ble_eq_true rfl), (Nat.le_of_ble_eq_true rfl)⟩ dX12_soot_24 ?_
      rintro _ _ ⟨rfl, rfl⟩
      refine ab_if_ne (tgt := 37) dX12_soot_27 (by decide) (fun c6 => ?_) (fun c6 => ?_)
      · have ht := ht.1 c6
        refine ab_aload_n (i := 0) dX12_soot_37 rfl rfl ?_
        refine ab_getR (b := 84) f_X12_20 rfl (sh_k hs 82 12 (by decide) rfl) (sh_r hs 100 rfl) dX12_soot_38 ?_
        refine ab_sipush (v := 250) dX12_soot_41 (by decide) ?_
        refine ab_iald (sh_k hs 84 14 (by decide) rfl) (sh_in hs 84 5860 (by decide) (by decide) rfl (by unfold vp_in; decide)) dX12_soot_44 ?_
        refine ab_bipush (v := 8) dX12_soot_45 (by decide) ?_
        refine ab_icmp_ne (tgt := 57) dX12_soot_47 (by decide) (fun c7 => ?_) (fun c7 => ?_)
        · have ht := ht.1 c7
          refine ab_aload_n (i := 0) dX12_soot_57 rfl rfl ?_
          refine ab_aload_n (i := 0) dX12_soot_58 rfl rfl ?_
          refine ab_sipush (v := 218) dX12_soot_59 (by decide) ?_
          refine ab_sipush (v := 250) dX12_soot_62 (by decide) ?_
          refine ab_iload_n (i := 1) dX12_soot_65 rfl rfl ?_
          refine ab_iload_n (i := 2) dX12_soot_66 rfl rfl ?_
          refine ab_iload_n (i := 3) dX12_soot_67 rfl rfl ?_
          refine ab_callV (b := 82) (As := [.int 218, .int 250, .int x1, .int x2, .int x3]) ht (Y_X12_comesBehind) l_X12_182 in_X12_comesBehind se_X12_comesBehind (sh_k hs 82 12 (by decide) rfl) (by decide) rfl rfl ⟨(Nat.le_of_ble_eq_true rfl), (Nat.le_of_ble_eq_true rfl), (Nat.le_of_ble_eq_true rfl), (Nat.le_of_ble_eq_true rfl)⟩ dX12_soot_68 ?_
          rintro _ h8 ⟨v10, rfl, hs9, ht⟩
          refine ab_callV (b := 82) (As := [.int v10]) ht (Y_X12_good) l_X12_164 in_X12_good se_X12_good (sh_k hs9 82 12 (by decide) rfl) (by decide) rfl rfl ⟨(Nat.le_of_ble_eq_true rfl), (Nat.le_of_ble_eq_true rfl), (Nat.le_of_ble_eq_true rfl), (Nat.le_of_ble_eq_true rfl)⟩ dX12_soot_71 ?_
          rintro _ h11 ⟨v13, rfl, hs12, ht⟩
          exact ab_iret rfl dX12_soot_74 (Nat.le_of_ble_eq_true rfl) (Nat.le_of_ble_eq_true rfl) ht
        · have ht := ht.2 c7
          refine ab_aload_n (i := 0) dX12_soot_50 rfl rfl ?_
          refine ab_bipush (v := (-5)) dX12_soot_51 (by decide) ?_
          refine ab_callV (b := 82) (As := [.int (-5)]) ht (Y_X12_refuses) l_X12_160 in_X12_refuses se_X12_refuses (sh_k hs 82 12 (by decide) rfl) (by decide) rfl rfl ⟨(Nat.le_of_ble_eq_true rfl), (Nat.le_of_ble_eq_true rfl), (Nat.le_of_ble_eq_true rfl), (Nat.le_of_ble_eq_true rfl)⟩ dX12_soot_53 ?_
          rintro _ h14 ⟨v16, rfl, hs15, ht⟩
          exact ab_iret rfl dX12_soot_56 (Nat.le_of_ble_eq_true rfl) (Nat.le_of_ble_eq_true rfl) ht
      · have ht := ht.2 c6
        refine ab_aload_n (i := 0) dX12_soot_30 rfl rfl ?_
        refine ab_bipush (v := (-2)) dX12_soot_31 (by decide) ?_
        refine ab_callV (b := 82) (As := [.int (-2)]) ht (Y_X12_refuses) l_X12_160 in_X12_refuses se_X12_refuses (sh_k hs 82 12 (by decide) rfl) (by decide) rfl rfl ⟨(Nat.le_of_ble_eq_true rfl), (Nat.le_of_ble_eq_true rfl), (Nat.le_of_ble_eq_true rfl), (Nat.le_of_ble_eq_true rfl)⟩ dX12_soot_33 ?_
        rintro _ h17 ⟨v19, rfl, hs18, ht⟩
        exact ab_iret rfl dX12_soot_36 (Nat.le_of_ble_eq_true rfl) (Nat.le_of_ble_eq_true rfl) ht
    · have ht := ht.2 c5
      refine ab_aload_n (i := 0) dX12_soot_16 rfl rfl ?_
      refine ab_iconst (v := (-1)) dX12_soot_17 (by decide) ?_
      refine ab_callV (b := 82) (As := [.int (-1)]) ht (Y_X12_refuses) l_X12_160 in_X12_refuses se_X12_refuses (sh_k hs 82 12 (by decide) rfl) (by decide) rfl rfl ⟨(Nat.le_of_ble_eq_true rfl), (Nat.le_of_ble_eq_true rfl), (Nat.le_of_ble_eq_true rfl), (Nat.le_of_ble_eq_true rfl)⟩ dX12_soot_18 ?_
      rintro _ h20 ⟨v22, rfl, hs21, ht⟩
      exact ab_iret rfl dX12_soot_21 (Nat.le_of_ble_eq_true rfl) (Nat.le_of_ble_eq_true rfl) ht
theorem dX12_sweep_0 : decode cX12_sweep 0 = .ok (.aload_n 0, 1) := by decide +kernel
theorem dX12_sweep_1 : decode cX12_sweep 1 = .ok (.sipush 250, 3) := by decide +kernel
theorem dX12_sweep_4 : decode cX12_sweep 4 = .ok (.invokevirtual 211, 3) := by decide +kernel
theorem dX12_sweep_7 : decode cX12_sweep 7 = .ok (.ireturn, 1) := by decide +kernel
set_option maxRecDepth 20000 in
theorem T_X12_sweep {Q : Option Value → ah_T → Prop} {h : ah_T} (hs : Sh h)  (ht : (Mt mX12_goAll [.ref 82, .int 250] h (ab_qi fun v3 h1 => Sh h1 ∧ Q (some (.int v3)) h1))) : Mt mX12_sweep [.ref 82] h Q := by
  refine Mt.ofWp rfl (by exact (Nat.le_of_ble_eq_true rfl)) (Wp.fewer (L' := [some (.ref 82)]) (show ab_leL _ _ from ⟨rfl, trivial⟩) ?_)
  refine ab_aload_n (i := 0) dX12_sweep_0 rfl rfl ?_
  refine ab_sipush (v := 250) dX12_sweep_1 (by decide) ?_
  refine ab_callV (b := 82) (As := [.int 250]) ht (Y_X12_goAll) l_X12_211 in_X12_goAll se_X12_goAll (sh_k hs 82 12 (by decide) rfl) (by decide) rfl rfl ⟨(Nat.le_of_ble_eq_true rfl), (Nat.le_of_ble_eq_true rfl), (Nat.le_of_ble_eq_true rfl), (Nat.le_of_ble_eq_true rfl)⟩ dX12_sweep_4 ?_
  rintro _ h1 ⟨v3, rfl, hs2, ht⟩
  exact ab_iret rfl dX12_sweep_7 (Nat.le_of_ble_eq_true rfl) (Nat.le_of_ble_eq_true rfl) ht
theorem dX12_areSo_0 : decode cX12_areSo 0 = .ok (.iconst 0, 1) := by decide +kernel
theorem dX12_areSo_1 : decode cX12_areSo 1 = .ok (.istore_n 1, 1) := by decide +kernel
theorem dX12_areSo_2 : decode cX12_areSo 2 = .ok (.iload_n 1, 1) := by decide +kernel
theorem dX12_areSo_3 : decode cX12_areSo 3 = .ok (.aload_n 0, 1) := by decide +kernel
theorem dX12_areSo_4 : decode cX12_areSo 4 = .ok (.getfield 20, 3) := by decide +kernel
theorem dX12_areSo_7 : decode cX12_areSo 7 = .ok (.sipush 250, 3) := by decide +kernel
theorem dX12_areSo_10 : decode cX12_areSo 10 = .ok (.iaload, 1) := by decide +kernel
theorem dX12_areSo_11 : decode cX12_areSo 11 = .ok (.if_icmp .ge 72, 3) := by decide +kernel
theorem dX12_areSo_14 : decode cX12_areSo 14 = .ok (.aload_n 0, 1) := by decide +kernel
theorem dX12_areSo_15 : decode cX12_areSo 15 = .ok (.getfield 104, 3) := by decide +kernel
theorem dX12_areSo_18 : decode cX12_areSo 18 = .ok (.bipush 10, 2) := by decide +kernel
theorem dX12_areSo_20 : decode cX12_areSo 20 = .ok (.aload_n 0, 1) := by decide +kernel
theorem dX12_areSo_21 : decode cX12_areSo 21 = .ok (.getfield 20, 3) := by decide +kernel
theorem dX12_areSo_24 : decode cX12_areSo 24 = .ok (.sipush 218, 3) := by decide +kernel
theorem dX12_areSo_27 : decode cX12_areSo 27 = .ok (.iconst 3, 1) := by decide +kernel
theorem dX12_areSo_28 : decode cX12_areSo 28 = .ok (.iload_n 1, 1) := by decide +kernel
theorem dX12_areSo_29 : decode cX12_areSo 29 = .ok (.imul, 1) := by decide +kernel
theorem dX12_areSo_30 : decode cX12_areSo 30 = .ok (.iadd, 1) := by decide +kernel
theorem dX12_areSo_31 : decode cX12_areSo 31 = .ok (.iconst 1, 1) := by decide +kernel
theorem dX12_areSo_32 : decode cX12_areSo 32 = .ok (.iadd, 1) := by decide +kernel
theorem dX12_areSo_33 : decode cX12_areSo 33 = .ok (.iaload, 1) := by decide +kernel
theorem dX12_areSo_34 : decode cX12_areSo 34 = .ok (.imul, 1) := by decide +kernel
theorem dX12_areSo_35 : decode cX12_areSo 35 = .ok (.aload_n 0, 1) := by decide +kernel
theorem dX12_areSo_36 : decode cX12_areSo 36 = .ok (.getfield 20, 3) := by decide +kernel
theorem dX12_areSo_39 : decode cX12_areSo 39 = .ok (.sipush 218, 3) := by decide +kernel
theorem dX12_areSo_42 : decode cX12_areSo 42 = .ok (.iconst 3, 1) := by decide +kernel
theorem dX12_areSo_43 : decode cX12_areSo 43 = .ok (.iload_n 1, 1) := by decide +kernel
theorem dX12_areSo_44 : decode cX12_areSo 44 = .ok (.imul, 1) := by decide +kernel
theorem dX12_areSo_45 : decode cX12_areSo 45 = .ok (.iadd, 1) := by decide +kernel
theorem dX12_areSo_46 : decode cX12_areSo 46 = .ok (.iaload, 1) := by decide +kernel
theorem dX12_areSo_47 : decode cX12_areSo 47 = .ok (.iadd, 1) := by decide +kernel
theorem dX12_areSo_48 : decode cX12_areSo 48 = .ok (.baload, 1) := by decide +kernel
theorem dX12_areSo_49 : decode cX12_areSo 49 = .ok (.aload_n 0, 1) := by decide +kernel
theorem dX12_areSo_50 : decode cX12_areSo 50 = .ok (.getfield 20, 3) := by decide +kernel
theorem dX12_areSo_53 : decode cX12_areSo 53 = .ok (.sipush 218, 3) := by decide +kernel
theorem dX12_areSo_56 : decode cX12_areSo 56 = .ok (.iconst 3, 1) := by decide +kernel
theorem dX12_areSo_57 : decode cX12_areSo 57 = .ok (.iload_n 1, 1) := by decide +kernel
theorem dX12_areSo_58 : decode cX12_areSo 58 = .ok (.imul, 1) := by decide +kernel
theorem dX12_areSo_59 : decode cX12_areSo 59 = .ok (.iadd, 1) := by decide +kernel
theorem dX12_areSo_60 : decode cX12_areSo 60 = .ok (.iconst 2, 1) := by decide +kernel
theorem dX12_areSo_61 : decode cX12_areSo 61 = .ok (.iadd, 1) := by decide +kernel
theorem dX12_areSo_62 : decode cX12_areSo 62 = .ok (.iaload, 1) := by decide +kernel
theorem dX12_areSo_63 : decode cX12_areSo 63 = .ok (.iconst 1, 1) := by decide +kernel
theorem dX12_areSo_64 : decode cX12_areSo 64 = .ok (.if_icmp .ne 7, 3) := by decide +kernel
theorem dX12_areSo_67 : decode cX12_areSo 67 = .ok (.iconst 1, 1) := by decide +kernel
theorem dX12_areSo_68 : decode cX12_areSo 68 = .ok (.goto 4, 3) := by decide +kernel
theorem dX12_areSo_71 : decode cX12_areSo 71 = .ok (.iconst 0, 1) := by decide +kernel
theorem dX12_areSo_72 : decode cX12_areSo 72 = .ok (.if_icmp .eq 5, 3) := by decide +kernel
theorem dX12_areSo_75 : decode cX12_areSo 75 = .ok (.iconst 0, 1) := by decide +kernel
theorem dX12_areSo_76 : decode cX12_areSo 76 = .ok (.ireturn, 1) := by decide +kernel
theorem dX12_areSo_77 : decode cX12_areSo 77 = .ok (.iinc 1 1, 3) := by decide +kernel
theorem dX12_areSo_80 : decode cX12_areSo 80 = .ok (.goto (-78), 3) := by decide +kernel
theorem dX12_areSo_83 : decode cX12_areSo 83 = .ok (.iconst 1, 1) := by decide +kernel
theorem dX12_areSo_84 : decode cX12_areSo 84 = .ok (.ireturn, 1) := by decide +kernel
set_option maxRecDepth 20000 in
theorem T_X12_areSo_2 {Q : Option Value → ah_T → Prop} {h : ah_T} (hs : Sh h) (x1 : Int32) (ht : (((ah_i h 84 (Int32.toNatClampNeg 250)) ≤ x1 → Q (some (.int 1)) h) ∧ (¬ (ah_i h 84 (Int32.toNatClampNeg 250)) ≤ x1 → (vp_in ((218 + (3 * x1)) + 1) (ah_n h 84)) ∧ (vp_in (218 + (3 * x1)) (ah_n h 84)) ∧ (vp_in ((10 * (ah_i h 84 (Int32.toNatClampNeg ((218 + (3 * x1)) + 1)))) + (ah_i h 84 (Int32.toNatClampNeg (218 + (3 * x1))))) (ah_n h 109)) ∧ (vp_in ((218 + (3 * x1)) + 2) (ah_n h 84)) ∧ ((¬ (ah_i h 84 (Int32.toNatClampNeg ((218 + (3 * x1)) + 2))) = 1 → (((ah_i h 109 (Int32.toNatClampNeg ((10 * (ah_i h 84 (Int32.toNatClampNeg ((218 + (3 * x1)) + 1)))) + (ah_i h 84 (Int32.toNatClampNeg (218 + (3 * x1))))))) = 0 → Wp mX12_areSo Q 0 0 2 [some (.ref 82), some (.int (x1 + 1))] [] h) ∧ (¬ (ah_i h 109 (Int32.toNatClampNeg ((10 * (ah_i h 84 (Int32.toNatClampNeg ((218 + (3 * x1)) + 1)))) + (ah_i h 84 (Int32.toNatClampNeg (218 + (3 * x1))))))) = 0 → Q (some (.int 0)) h))) ∧ ((ah_i h 84 (Int32.toNatClampNeg ((218 + (3 * x1)) + 2))) = 1 → (((ah_i h 109 (Int32.toNatClampNeg ((10 * (ah_i h 84 (Int32.toNatClampNeg ((218 + (3 * x1)) + 1)))) + (ah_i h 84 (Int32.toNatClampNeg (218 + (3 * x1))))))) = 1 → Wp mX12_areSo Q 0 0 2 [some (.ref 82), some (.int (x1 + 1))] [] h) ∧ (¬ (ah_i h 109 (Int32.toNatClampNeg ((10 * (ah_i h 84 (Int32.toNatClampNeg ((218 + (3 * x1)) + 1)))) + (ah_i h 84 (Int32.toNatClampNeg (218 + (3 * x1))))))) = 1 → Q (some (.int 0)) h))))))) : Wp mX12_areSo Q 0 0 2 [some (.ref 82), some (.int x1)] [] h := by
  refine ab_iload_n (i := 1) dX12_areSo_2 rfl rfl ?_
  refine ab_aload_n (i := 0) dX12_areSo_3 rfl rfl ?_
  refine ab_getR (b := 84) f_X12_20 rfl (sh_k hs 82 12 (by decide) rfl) (sh_r hs 100 rfl) dX12_areSo_4 ?_
  refine ab_sipush (v := 250) dX12_areSo_7 (by decide) ?_
  refine ab_iald (sh_k hs 84 14 (by decide) rfl) (sh_in hs 84 5860 (by decide) (by decide) rfl (by unfold vp_in; decide)) dX12_areSo_10 ?_
  refine ab_icmp_ge (tgt := 83) dX12_areSo_11 (by decide) (fun c1 => ?_) (fun c1 => ?_)
  · have ht := ht.1 c1
    refine ab_iconst (v := 1) dX12_areSo_83 (by decide) ?_
    exact ab_zret rfl rfl dX12_areSo_84 (Nat.le_of_ble_eq_true rfl) (Nat.le_of_ble_eq_true rfl) ht
  · have ht := ht.2 c1
    refine ab_aload_n (i := 0) dX12_areSo_14 rfl rfl ?_
    refine ab_getR (b := 109) f_X12_104 rfl (sh_k hs 82 12 (by decide) rfl) (sh_r hs 125 rfl) dX12_areSo_15 ?_
    refine ab_bipush (v := 10) dX12_areSo_18 (by decide) ?_
    refine ab_aload_n (i := 0) dX12_areSo_20 rfl rfl ?_
    refine ab_getR (b := 84) f_X12_20 rfl (sh_k hs 82 12 (by decide) rfl) (sh_r hs 100 rfl) dX12_areSo_21 ?_
    refine ab_sipush (v := 218) dX12_areSo_24 (by decide) ?_
    refine ab_iconst (v := 3) dX12_areSo_27 (by decide) ?_
    refine ab_iload_n (i := 1) dX12_areSo_28 rfl rfl ?_
    refine ab_imul dX12_areSo_29 ?_
    refine ab_iadd dX12_areSo_30 ?_
    refine ab_iconst (v := 1) dX12_areSo_31 (by decide) ?_
    refine ab_iadd dX12_areSo_32 ?_
    obtain ⟨hc2, ht⟩ := ht
    refine ab_iald (sh_k hs 84 14 (by decide) rfl) hc2 dX12_areSo_33 ?_
    refine ab_imul dX12_areSo_34 ?_
    refine ab_aload_n (i := 0) dX12_areSo_35 rfl rfl ?_
    refine ab_getR (b := 84) f_X12_20 rfl (sh_k hs 82 12 (by decide) rfl) (sh_r hs 100 rfl) dX12_areSo_36 ?_
    refine ab_sipush (v := 218) dX12_areSo_39 (by decide) ?_
    refine ab_iconst (v := 3) dX12_areSo_42 (by decide) ?_
    refine ab_iload_n (i := 1) dX12_areSo_43 rfl rfl ?_
    refine ab_imul dX12_areSo_44 ?_
    refine ab_iadd dX12_areSo_45 ?_
    obtain ⟨hc3, ht⟩ := ht
    refine ab_iald (sh_k hs 84 14 (by decide) rfl) hc3 dX12_areSo_46 ?_
    refine ab_iadd dX12_areSo_47 ?_
    obtain ⟨hc4, ht⟩ := ht
    refine ab_zald (sh_k hs 109 16 (by decide) rfl) hc4 dX12_areSo_48 ?_
    refine ab_aload_n (i := 0) dX12_areSo_49 rfl rfl ?_
    refine ab_getR (b := 84) f_X12_20 rfl (sh_k hs 82 12 (by decide) rfl) (sh_r hs 100 rfl) dX12_areSo_50 ?_
    refine ab_sipush (v := 218) dX12_areSo_53 (by decide) ?_
    refine ab_iconst (v := 3) dX12_areSo_56 (by decide) ?_
    refine ab_iload_n (i := 1) dX12_areSo_57 rfl rfl ?_
    refine ab_imul dX12_areSo_58 ?_
    refine ab_iadd dX12_areSo_59 ?_
    refine ab_iconst (v := 2) dX12_areSo_60 (by decide) ?_
    refine ab_iadd dX12_areSo_61 ?_
    obtain ⟨hc5, ht⟩ := ht
    refine ab_iald (sh_k hs 84 14 (by decide) rfl) hc5 dX12_areSo_62 ?_
    refine ab_iconst (v := 1) dX12_areSo_63 (by decide) ?_
    refine ab_icmp_ne (tgt := 71) dX12_areSo_64 (by decide) (fun c6 => ?_) (fun c6 => ?_)
    · have ht := ht.1 c6
      refine ab_iconst (v := 0) dX12_areSo_71 (by decide) ?_
      refine ab_icmp_eq (tgt := 77) dX12_areSo_72 (by decide) (fun c7 => ?_) (fun c7 => ?_)
      · have ht := ht.1 c7
        refine ab_iinc (i := 1) (x := x1) (v := (x1 + 1)) (L' := [some (.ref 82), some (.int (x1 + 1))]) dX12_areSo_77 rfl rfl (by exact (Nat.le_of_ble_eq_true rfl)) rfl rfl ?_
        refine ab_goto (tgt := 2) dX12_areSo_80 (by decide) ?_
        exact Wp.fewer (L' := [some (.ref 82), some (.int (x1 + 1))]) (show ab_leL _ _ from ⟨rfl, ⟨rfl, trivial⟩⟩) ht
      · have ht := ht.2 c7
        refine ab_iconst (v := 0) dX12_areSo_75 (by decide) ?_
        exact ab_zret rfl rfl dX12_areSo_76 (Nat.le_of_ble_eq_true rfl) (Nat.le_of_ble_eq_true rfl) ht
    · have ht := ht.2 c6
      refine ab_iconst (v := 1) dX12_areSo_67 (by decide) ?_
      refine ab_goto (tgt := 72) dX12_areSo_68 (by decide) ?_
      refine ab_icmp_eq (tgt := 77) dX12_areSo_72 (by decide) (fun c8 => ?_) (fun c8 => ?_)
      · have ht := ht.1 c8
        refine ab_iinc (i := 1) (x := x1) (v := (x1 + 1)) (L' := [some (.ref 82), some (.int (x1 + 1))]) dX12_areSo_77 rfl rfl (by exact (Nat.le_of_ble_eq_true rfl)) rfl rfl ?_
        refine ab_goto (tgt := 2) dX12_areSo_80 (by decide) ?_
        exact Wp.fewer (L' := [some (.ref 82), some (.int (x1 + 1))]) (show ab_leL _ _ from ⟨rfl, ⟨rfl, trivial⟩⟩) ht
      · have ht := ht.2 c8
        refine ab_iconst (v := 0) dX12_areSo_75 (by decide) ?_
        exact ab_zret rfl rfl dX12_areSo_76 (Nat.le_of_ble_eq_true rfl) (Nat.le_of_ble_eq_true rfl) ht
set_option maxRecDepth 20000 in
theorem T_X12_areSo {Q : Option Value → ah_T → Prop} {h : ah_T} (hs : Sh h)  (ht : Wp mX12_areSo Q 0 0 2 [some (.ref 82), some (.int 0)] [] h) : Mt mX12_areSo [.ref 82] h Q := by
  refine Mt.ofWp rfl (by exact (Nat.le_of_ble_eq_true rfl)) (Wp.fewer (L' := [some (.ref 82), none]) (show ab_leL _ _ from ⟨rfl, trivial⟩) ?_)
  refine ab_iconst (v := 0) dX12_areSo_0 (by decide) ?_
  refine ab_istore_n (i := 1) (L' := [some (.ref 82), some (.int 0)]) dX12_areSo_1 rfl (by exact (Nat.le_of_ble_eq_true rfl)) rfl rfl ?_
  exact Wp.fewer (L' := [some (.ref 82), some (.int 0)]) (show ab_leL _ _ from ⟨rfl, ⟨rfl, trivial⟩⟩) ht
theorem dX12_stranger_0 : decode cX12_stranger 0 = .ok (.aload_n 0, 1) := by decide +kernel
theorem dX12_stranger_1 : decode cX12_stranger 1 = .ok (.getfield 20, 3) := by decide +kernel
theorem dX12_stranger_4 : decode cX12_stranger 4 = .ok (.sipush 246, 3) := by decide +kernel
theorem dX12_stranger_7 : decode cX12_stranger 7 = .ok (.iaload, 1) := by decide +kernel
theorem dX12_stranger_8 : decode cX12_stranger 8 = .ok (.bipush 10, 2) := by decide +kernel
theorem dX12_stranger_10 : decode cX12_stranger 10 = .ok (.if_icmp .eq 8, 3) := by decide +kernel
theorem dX12_stranger_13 : decode cX12_stranger 13 = .ok (.iload_n 1, 1) := by decide +kernel
theorem dX12_stranger_14 : decode cX12_stranger 14 = .ok (.iconst (-1), 1) := by decide +kernel
theorem dX12_stranger_15 : decode cX12_stranger 15 = .ok (.if_icmp .ge 5, 3) := by decide +kernel
theorem dX12_stranger_18 : decode cX12_stranger 18 = .ok (.iconst (-1), 1) := by decide +kernel
theorem dX12_stranger_19 : decode cX12_stranger 19 = .ok (.ireturn, 1) := by decide +kernel
theorem dX12_stranger_20 : decode cX12_stranger 20 = .ok (.iconst 0, 1) := by decide +kernel
theorem dX12_stranger_21 : decode cX12_stranger 21 = .ok (.istore_n 2, 1) := by decide +kernel
theorem dX12_stranger_22 : decode cX12_stranger 22 = .ok (.iconst 0, 1) := by decide +kernel
theorem dX12_stranger_23 : decode cX12_stranger 23 = .ok (.istore_n 3, 1) := by decide +kernel
theorem dX12_stranger_24 : decode cX12_stranger 24 = .ok (.iload_n 3, 1) := by decide +kernel
theorem dX12_stranger_25 : decode cX12_stranger 25 = .ok (.bipush 72, 2) := by decide +kernel
theorem dX12_stranger_27 : decode cX12_stranger 27 = .ok (.if_icmp .ge 79, 3) := by decide +kernel
theorem dX12_stranger_30 : decode cX12_stranger 30 = .ok (.aload_n 0, 1) := by decide +kernel
theorem dX12_stranger_31 : decode cX12_stranger 31 = .ok (.invokevirtual 416, 3) := by decide +kernel
theorem dX12_stranger_34 : decode cX12_stranger 34 = .ok (.aload_n 0, 1) := by decide +kernel
theorem dX12_stranger_35 : decode cX12_stranger 35 = .ok (.getfield 77, 3) := by decide +kernel
theorem dX12_stranger_38 : decode cX12_stranger 38 = .ok (.aload_n 0, 1) := by decide +kernel
theorem dX12_stranger_39 : decode cX12_stranger 39 = .ok (.getfield 378, 3) := by decide +kernel
theorem dX12_stranger_42 : decode cX12_stranger 42 = .ok (.iload_n 3, 1) := by decide +kernel
theorem dX12_stranger_43 : decode cX12_stranger 43 = .ok (.bipush 6, 2) := by decide +kernel
theorem dX12_stranger_45 : decode cX12_stranger 45 = .ok (.idiv, 1) := by decide +kernel
theorem dX12_stranger_46 : decode cX12_stranger 46 = .ok (.iastore, 1) := by decide +kernel
theorem dX12_stranger_47 : decode cX12_stranger 47 = .ok (.aload_n 0, 1) := by decide +kernel
theorem dX12_stranger_48 : decode cX12_stranger 48 = .ok (.getfield 80, 3) := by decide +kernel
theorem dX12_stranger_51 : decode cX12_stranger 51 = .ok (.aload_n 0, 1) := by decide +kernel
theorem dX12_stranger_52 : decode cX12_stranger 52 = .ok (.getfield 378, 3) := by decide +kernel
theorem dX12_stranger_55 : decode cX12_stranger 55 = .ok (.iload_n 3, 1) := by decide +kernel
theorem dX12_stranger_56 : decode cX12_stranger 56 = .ok (.bipush 6, 2) := by decide +kernel
theorem dX12_stranger_58 : decode cX12_stranger 58 = .ok (.irem, 1) := by decide +kernel
theorem dX12_stranger_59 : decode cX12_stranger 59 = .ok (.iastore, 1) := by decide +kernel
theorem dX12_stranger_60 : decode cX12_stranger 60 = .ok (.aload_n 0, 1) := by decide +kernel
theorem dX12_stranger_61 : decode cX12_stranger 61 = .ok (.dup, 1) := by decide +kernel
theorem dX12_stranger_62 : decode cX12_stranger 62 = .ok (.getfield 378, 3) := by decide +kernel
theorem dX12_stranger_65 : decode cX12_stranger 65 = .ok (.iconst 1, 1) := by decide +kernel
theorem dX12_stranger_66 : decode cX12_stranger 66 = .ok (.iadd, 1) := by decide +kernel
theorem dX12_stranger_67 : decode cX12_stranger 67 = .ok (.putfield 378, 3) := by decide +kernel
theorem dX12_stranger_70 : decode cX12_stranger 70 = .ok (.aload_n 0, 1) := by decide +kernel
theorem dX12_stranger_71 : decode cX12_stranger 71 = .ok (.iconst 1, 1) := by decide +kernel
theorem dX12_stranger_72 : decode cX12_stranger 72 = .ok (.putfield 384, 3) := by decide +kernel
theorem dX12_stranger_75 : decode cX12_stranger 75 = .ok (.aload_n 0, 1) := by decide +kernel
theorem dX12_stranger_76 : decode cX12_stranger 76 = .ok (.iconst 0, 1) := by decide +kernel
theorem dX12_stranger_77 : decode cX12_stranger 77 = .ok (.invokevirtual 455, 3) := by decide +kernel
theorem dX12_stranger_80 : decode cX12_stranger 80 = .ok (.aload_n 0, 1) := by decide +kernel
theorem dX12_stranger_81 : decode cX12_stranger 81 = .ok (.invokevirtual 498, 3) := by decide +kernel
theorem dX12_stranger_84 : decode cX12_stranger 84 = .ok (.ifCond .ne 6, 3) := by decide +kernel
theorem dX12_stranger_87 : decode cX12_stranger 87 = .ok (.goto 13, 3) := by decide +kernel
theorem dX12_stranger_90 : decode cX12_stranger 90 = .ok (.iload_n 2, 1) := by decide +kernel
theorem dX12_stranger_91 : decode cX12_stranger 91 = .ok (.iload_n 1, 1) := by decide +kernel
theorem dX12_stranger_92 : decode cX12_stranger 92 = .ok (.if_icmp .ne 5, 3) := by decide +kernel
theorem dX12_stranger_95 : decode cX12_stranger 95 = .ok (.iload_n 3, 1) := by decide +kernel
theorem dX12_stranger_96 : decode cX12_stranger 96 = .ok (.ireturn, 1) := by decide +kernel
theorem dX12_stranger_97 : decode cX12_stranger 97 = .ok (.iinc 2 1, 3) := by decide +kernel
theorem dX12_stranger_100 : decode cX12_stranger 100 = .ok (.iinc 3 1, 3) := by decide +kernel
theorem dX12_stranger_103 : decode cX12_stranger 103 = .ok (.goto (-79), 3) := by decide +kernel
theorem dX12_stranger_106 : decode cX12_stranger 106 = .ok (.iload_n 1, 1) := by decide +kernel
theorem dX12_stranger_107 : decode cX12_stranger 107 = .ok (.iconst (-1), 1) := by decide +kernel
theorem dX12_stranger_108 : decode cX12_stranger 108 = .ok (.if_icmp .ne 7, 3) := by decide +kernel
theorem dX12_stranger_111 : decode cX12_stranger 111 = .ok (.iload_n 2, 1) := by decide +kernel
theorem dX12_stranger_112 : decode cX12_stranger 112 = .ok (.goto 4, 3) := by decide +kernel
theorem dX12_stranger_115 : decode cX12_stranger 115 = .ok (.iconst (-1), 1) := by decide +kernel
theorem dX12_stranger_116 : decode cX12_stranger 116 = .ok (.ireturn, 1) := by decide +kernel
set_option maxRecDepth 20000 in
theorem T_X12_stranger_24 {Q : Option Value → ah_T → Prop} {h : ah_T} (hs : Sh h) (x1 : Int32) (x2 : Int32) (x3 : Int32) (ht : ((72 ≤ x3 → ((¬ x1 = (-1) → Q (some (.int (-1))) h) ∧ (x1 = (-1) → Q (some (.int x2)) h))) ∧ (¬ 72 ≤ x3 → (Mt mX12_looks [.ref 82] h (ab_qv fun h5 => Sh h5 ∧ (vp_in (ah_i h5 82 41) (ah_n h5 100)) ∧ (∀ h9, h9 = ah_si h5 100 (Int32.toNatClampNeg (ah_i h5 82 41)) (x3 / 6) → (vp_in (ah_i h9 82 41) (ah_n h9 101)) ∧ (∀ h13, h13 = ah_si h9 101 (Int32.toNatClampNeg (ah_i h9 82 41)) (x3 - x3 / 6 * 6) → (∀ h16, h16 = ah_si h13 82 41 ((ah_i h13 82 41) + 1) → (∀ h19, h19 = ah_si h16 82 43 1 → (Mt mX12_tries [.ref 82, .int 0] h19 (ab_qv fun h22 => Sh h22 ∧ (Mt mX12_areSo [.ref 82] h22 (ab_qi fun v27 h25 => Sh h25 ∧ ((¬ v27 = 0 → ((¬ x2 = x1 → Wp mX12_stranger Q 0 0 24 [some (.ref 82), some (.int x1), some (.int (x2 + 1)), some (.int (x3 + 1))] [] h25) ∧ (x2 = x1 → Q (some (.int x3)) h25))) ∧ (v27 = 0 → Wp mX12_stranger Q 0 0 24 [some (.ref 82), some (.int x1), some (.int x2), some (.int (x3 + 1))] [] h25))))))))))))))) : Wp mX12_stranger Q 0 0 24 [some (.ref 82), some (.int x1), some (.int x2), some (.int x3)] [] h := by
  refine ab_iload_n (i := 3) dX12_stranger_24 rfl rfl ?_
  refine ab_bipush (v := 72) dX12_stranger_25 (by decide) ?_
  refine ab_icmp_ge (tgt := 106) dX12_stranger_27 (by decide) (fun c3 => ?_) (fun c3 => ?_)
  · have ht := ht.1 c3
    refine ab_iload_n (i := 1) dX12_stranger_106 rfl rfl ?_
    refine ab_iconst (v := (-1)) dX12_stranger_107 (by decide) ?_
    refine ab_icmp_ne (tgt := 115) dX12_stranger_108 (by decide) (fun c4 => ?_) (fun c4 => ?_)
    · have ht := ht.1 c4
      refine ab_iconst (v := (-1)) dX12_stranger_115 (by decide) ?_
      exact ab_iret rfl dX12_stranger_116 (Nat.le_of_ble_eq_true rfl) (Nat.le_of_ble_eq_true rfl) ht
    · have ht := ht.2 c4
      refine ab_iload_n (i := 2) dX12_stranger_111 rfl rfl ?_
      refine ab_goto (tgt := 116) dX12_stranger_112 (by decide) ?_
      exact ab_iret rfl dX12_stranger_116 (Nat.le_of_ble_eq_true rfl) (Nat.le_of_ble_eq_true rfl) ht
  · have ht := ht.2 c3
    refine ab_aload_n (i := 0) dX12_stranger_30 rfl rfl ?_
    refine ab_callV (b := 82) (As := []) ht (Y_X12_looks) l_X12_416 in_X12_looks se_X12_looks (sh_k hs 82 12 (by decide) rfl) (by decide) rfl rfl ⟨(Nat.le_of_ble_eq_true rfl), (Nat.le_of_ble_eq_true rfl), (Nat.le_of_ble_eq_true rfl), (Nat.le_of_ble_eq_true rfl)⟩ dX12_stranger_31 ?_
    rintro _ h5 ⟨rfl, hs6, ht⟩
    refine ab_aload_n (i := 0) dX12_stranger_34 rfl rfl ?_
    refine ab_getR (b := 100) f_X12_77 rfl (sh_k hs6 82 12 (by decide) rfl) (sh_r hs6 116 rfl) dX12_stranger_35 ?_
    refine ab_aload_n (i := 0) dX12_stranger_38 rfl rfl ?_
    refine ab_getI f_X12_378 rfl (sh_k hs6 82 12 (by decide) rfl) dX12_stranger_39 ?_
    refine ab_iload_n (i := 3) dX12_stranger_42 rfl rfl ?_
    refine ab_bipush (v := 6) dX12_stranger_43 (by decide) ?_
    refine ab_idiv dX12_stranger_45 (by decide) ?_
    obtain ⟨hc8, ht⟩ := ht
    refine ab_iast (sh_k hs6 100 14 (by decide) rfl) hc8 dX12_stranger_46 ?_
    refine Wp.nm fun h9 e10 => ?_
    have ht := ht h9 e10
    have hs11 : Sh h9 := by rw [e10]; exact sh_si hs6
    refine ab_aload_n (i := 0) dX12_stranger_47 rfl rfl ?_
    refine ab_getR (b := 101) f_X12_80 rfl (sh_k hs11 82 12 (by decide) rfl) (sh_r hs11 117 rfl) dX12_stranger_48 ?_
    refine ab_aload_n (i := 0) dX12_stranger_51 rfl rfl ?_
    refine ab_getI f_X12_378 rfl (sh_k hs11 82 12 (by decide) rfl) dX12_stranger_52 ?_
    refine ab_iload_n (i := 3) dX12_stranger_55 rfl rfl ?_
    refine ab_bipush (v := 6) dX12_stranger_56 (by decide) ?_
    refine ab_irem dX12_stranger_58 (by decide) ?_
    obtain ⟨hc12, ht⟩ := ht
    refine ab_iast (sh_k hs11 101 14 (by decide) rfl) hc12 dX12_stranger_59 ?_
    refine Wp.nm fun h13 e14 => ?_
    have ht := ht h13 e14
    have hs15 : Sh h13 := by rw [e14]; exact sh_si hs11
    refine ab_aload_n (i := 0) dX12_stranger_60 rfl rfl ?_
    refine ab_dup dX12_stranger_61 rfl ?_
    refine ab_getI f_X12_378 rfl (sh_k hs15 82 12 (by decide) rfl) dX12_stranger_62 ?_
    refine ab_iconst (v := 1) dX12_stranger_65 (by decide) ?_
    refine ab_iadd dX12_stranger_66 ?_
    refine ab_putI f_X12_378 (Or.inl rfl) rfl (sh_k hs15 82 12 (by decide) rfl) rfl rfl dX12_stranger_67 ?_
    refine Wp.nm fun h16 e17 => ?_
    have ht := ht h16 e17
    have hs18 : Sh h16 := by rw [e17]; exact sh_si hs15
    refine ab_aload_n (i := 0) dX12_stranger_70 rfl rfl ?_
    refine ab_iconst (v := 1) dX12_stranger_71 (by decide) ?_
    refine ab_putI f_X12_384 (Or.inl rfl) rfl (sh_k hs18 82 12 (by decide) rfl) rfl rfl dX12_stranger_72 ?_
    refine Wp.nm fun h19 e20 => ?_
    have ht := ht h19 e20
    have hs21 : Sh h19 := by rw [e20]; exact sh_si hs18
    refine ab_aload_n (i := 0) dX12_stranger_75 rfl rfl ?_
    refine ab_iconst (v := 0) dX12_stranger_76 (by decide) ?_
    refine ab_callV (b := 82) (As := [.int 0]) ht (Y_X12_tries) l_X12_455 in_X12_tries se_X12_tries (sh_k hs21 82 12 (by decide) rfl) (by decide) rfl rfl ⟨(Nat.le_of_ble_eq_true rfl), (Nat.le_of_ble_eq_true rfl), (Nat.le_of_ble_eq_true rfl), (Nat.le_of_ble_eq_true rfl)⟩ dX12_stranger_77 ?_
    rintro _ h22 ⟨rfl, hs23, ht⟩
    refine ab_aload_n (i := 0) dX12_stranger_80 rfl rfl ?_
    refine ab_callV (b := 82) (As := []) ht (Y_X12_areSo) l_X12_498 in_X12_areSo se_X12_areSo (sh_k hs23 82 12 (by decide) rfl) (by decide) rfl rfl ⟨(Nat.le_of_ble_eq_true rfl), (Nat.le_of_ble_eq_true rfl), (Nat.le_of_ble_eq_true rfl), (Nat.le_of_ble_eq_true rfl)⟩ dX12_stranger_81 ?_
    rintro _ h25 ⟨v27, rfl, hs26, ht⟩
    refine ab_if_ne (tgt := 90) dX12_stranger_84 (by decide) (fun c28 => ?_) (fun c28 => ?_)
    · have ht := ht.1 c28
      refine ab_iload_n (i := 2) dX12_stranger_90 rfl rfl ?_
      refine ab_iload_n (i := 1) dX12_stranger_91 rfl rfl ?_
      refine ab_icmp_ne (tgt := 97) dX12_stranger_92 (by decide) (fun c29 => ?_) (fun c29 => ?_)
      · have ht := ht.1 c29
        refine ab_iinc (i := 2) (x := x2) (v := (x2 + 1)) (L' := [some (.ref 82), some (.int x1), some (.int (x2 + 1)), some (.int x3)]) dX12_stranger_97 rfl rfl (by exact (Nat.le_of_ble_eq_true rfl)) rfl rfl ?_
        refine ab_iinc (i := 3) (x := x3) (v := (x3 + 1)) (L' := [some (.ref 82), some (.int x1), some (.int (x2 + 1)), some (.int (x3 + 1))]) dX12_stranger_100 rfl rfl (by exact (Nat.le_of_ble_eq_true rfl)) rfl rfl ?_
        refine ab_goto (tgt := 24) dX12_stranger_103 (by decide) ?_
        exact Wp.fewer (L' := [some (.ref 82), some (.int x1), some (.int (x2 + 1)), some (.int (x3 + 1))]) (show ab_leL _ _ from ⟨rfl, ⟨rfl, ⟨rfl, ⟨rfl, trivial⟩⟩⟩⟩) ht
      · have ht := ht.2 c29
        refine ab_iload_n (i := 3) dX12_stranger_95 rfl rfl ?_
        exact ab_iret rfl dX12_stranger_96 (Nat.le_of_ble_eq_true rfl) (Nat.le_of_ble_eq_true rfl) ht
    · have ht := ht.2 c28
      refine ab_goto (tgt := 100) dX12_stranger_87 (by decide) ?_
      refine ab_iinc (i := 3) (x := x3) (v := (x3 + 1)) (L' := [some (.ref 82), some (.int x1), some (.int x2), some (.int (x3 + 1))]) dX12_stranger_100 rfl rfl (by exact (Nat.le_of_ble_eq_true rfl)) rfl rfl ?_
      refine ab_goto (tgt := 24) dX12_stranger_103 (by decide) ?_
      exact Wp.fewer (L' := [some (.ref 82), some (.int x1), some (.int x2), some (.int (x3 + 1))]) (show ab_leL _ _ from ⟨rfl, ⟨rfl, ⟨rfl, ⟨rfl, trivial⟩⟩⟩⟩) ht
set_option maxRecDepth 20000 in
theorem T_X12_stranger {Q : Option Value → ah_T → Prop} {h : ah_T} (hs : Sh h) (x1 : Int32) (ht : (((ah_i h 84 (Int32.toNatClampNeg 246)) = 10 → Q (some (.int (-1))) h) ∧ (¬ (ah_i h 84 (Int32.toNatClampNeg 246)) = 10 → (((-1) ≤ x1 → Wp mX12_stranger Q 0 0 24 [some (.ref 82), some (.int x1), some (.int 0), some (.int 0)] [] h) ∧ (¬ (-1) ≤ x1 → Q (some (.int (-1))) h))))) : Mt mX12_stranger [.ref 82, .int x1] h Q := by
  refine Mt.ofWp rfl (by exact (Nat.le_of_ble_eq_true rfl)) (Wp.fewer (L' := [some (.ref 82), some (.int x1), none, none]) (show ab_leL _ _ from ⟨rfl, ⟨rfl, trivial⟩⟩) ?_)
  refine ab_aload_n (i := 0) dX12_stranger_0 rfl rfl ?_
  refine ab_getR (b := 84) f_X12_20 rfl (sh_k hs 82 12 (by decide) rfl) (sh_r hs 100 rfl) dX12_stranger_1 ?_
  refine ab_sipush (v := 246) dX12_stranger_4 (by decide) ?_
  refine ab_iald (sh_k hs 84 14 (by decide) rfl) (sh_in hs 84 5860 (by decide) (by decide) rfl (by unfold vp_in; decide)) dX12_stranger_7 ?_
  refine ab_bipush (v := 10) dX12_stranger_8 (by decide) ?_
  refine ab_icmp_eq (tgt := 18) dX12_stranger_10 (by decide) (fun c1 => ?_) (fun c1 => ?_)
  · have ht := ht.1 c1
    refine ab_iconst (v := (-1)) dX12_stranger_18 (by decide) ?_
    exact ab_iret rfl dX12_stranger_19 (Nat.le_of_ble_eq_true rfl) (Nat.le_of_ble_eq_true rfl) ht
  · have ht := ht.2 c1
    refine ab_iload_n (i := 1) dX12_stranger_13 rfl rfl ?_
    refine ab_iconst (v := (-1)) dX12_stranger_14 (by decide) ?_
    refine ab_icmp_ge (tgt := 20) dX12_stranger_15 (by decide) (fun c2 => ?_) (fun c2 => ?_)
    · have ht := ht.1 c2
      refine ab_iconst (v := 0) dX12_stranger_20 (by decide) ?_
      refine ab_istore_n (i := 2) (L' := [some (.ref 82), some (.int x1), some (.int 0), none]) dX12_stranger_21 rfl (by exact (Nat.le_of_ble_eq_true rfl)) rfl rfl ?_
      refine ab_iconst (v := 0) dX12_stranger_22 (by decide) ?_
      refine ab_istore_n (i := 3) (L' := [some (.ref 82), some (.int x1), some (.int 0), some (.int 0)]) dX12_stranger_23 rfl (by exact (Nat.le_of_ble_eq_true rfl)) rfl rfl ?_
      exact Wp.fewer (L' := [some (.ref 82), some (.int x1), some (.int 0), some (.int 0)]) (show ab_leL _ _ from ⟨rfl, ⟨rfl, ⟨rfl, ⟨rfl, trivial⟩⟩⟩⟩) ht
    · have ht := ht.2 c2
      refine ab_iconst (v := (-1)) dX12_stranger_18 (by decide) ?_
      exact ab_iret rfl dX12_stranger_19 (Nat.le_of_ble_eq_true rfl) (Nat.le_of_ble_eq_true rfl) ht
theorem dX12_changed_0 : decode cX12_changed 0 = .ok (.iload_n 1, 1) := by decide +kernel
theorem dX12_changed_1 : decode cX12_changed 1 = .ok (.iconst (-1), 1) := by decide +kernel
theorem dX12_changed_2 : decode cX12_changed 2 = .ok (.if_icmp .ge 5, 3) := by decide +kernel
theorem dX12_changed_5 : decode cX12_changed 5 = .ok (.iconst (-1), 1) := by decide +kernel
theorem dX12_changed_6 : decode cX12_changed 6 = .ok (.ireturn, 1) := by decide +kernel
theorem dX12_changed_7 : decode cX12_changed 7 = .ok (.iconst 0, 1) := by decide +kernel
theorem dX12_changed_8 : decode cX12_changed 8 = .ok (.istore_n 2, 1) := by decide +kernel
theorem dX12_changed_9 : decode cX12_changed 9 = .ok (.iconst 0, 1) := by decide +kernel
theorem dX12_changed_10 : decode cX12_changed 10 = .ok (.istore_n 3, 1) := by decide +kernel
theorem dX12_changed_11 : decode cX12_changed 11 = .ok (.iload_n 3, 1) := by decide +kernel
theorem dX12_changed_12 : decode cX12_changed 12 = .ok (.bipush 6, 2) := by decide +kernel
theorem dX12_changed_14 : decode cX12_changed 14 = .ok (.aload_n 0, 1) := by decide +kernel
theorem dX12_changed_15 : decode cX12_changed 15 = .ok (.getfield 20, 3) := by decide +kernel
theorem dX12_changed_18 : decode cX12_changed 18 = .ok (.sipush 246, 3) := by decide +kernel
theorem dX12_changed_21 : decode cX12_changed 21 = .ok (.iaload, 1) := by decide +kernel
theorem dX12_changed_22 : decode cX12_changed 22 = .ok (.imul, 1) := by decide +kernel
theorem dX12_changed_23 : decode cX12_changed 23 = .ok (.if_icmp .ge 77, 3) := by decide +kernel
theorem dX12_changed_26 : decode cX12_changed 26 = .ok (.aload_n 0, 1) := by decide +kernel
theorem dX12_changed_27 : decode cX12_changed 27 = .ok (.getfield 20, 3) := by decide +kernel
theorem dX12_changed_30 : decode cX12_changed 30 = .ok (.bipush 60, 2) := by decide +kernel
theorem dX12_changed_32 : decode cX12_changed 32 = .ok (.iconst 3, 1) := by decide +kernel
theorem dX12_changed_33 : decode cX12_changed 33 = .ok (.iload_n 3, 1) := by decide +kernel
theorem dX12_changed_34 : decode cX12_changed 34 = .ok (.bipush 6, 2) := by decide +kernel
theorem dX12_changed_36 : decode cX12_changed 36 = .ok (.idiv, 1) := by decide +kernel
theorem dX12_changed_37 : decode cX12_changed 37 = .ok (.imul, 1) := by decide +kernel
theorem dX12_changed_38 : decode cX12_changed 38 = .ok (.iadd, 1) := by decide +kernel
theorem dX12_changed_39 : decode cX12_changed 39 = .ok (.iconst 1, 1) := by decide +kernel
theorem dX12_changed_40 : decode cX12_changed 40 = .ok (.iadd, 1) := by decide +kernel
theorem dX12_changed_41 : decode cX12_changed 41 = .ok (.iaload, 1) := by decide +kernel
theorem dX12_changed_42 : decode cX12_changed 42 = .ok (.iload_n 3, 1) := by decide +kernel
theorem dX12_changed_43 : decode cX12_changed 43 = .ok (.bipush 6, 2) := by decide +kernel
theorem dX12_changed_45 : decode cX12_changed 45 = .ok (.irem, 1) := by decide +kernel
theorem dX12_changed_46 : decode cX12_changed 46 = .ok (.if_icmp .ne 6, 3) := by decide +kernel
theorem dX12_changed_49 : decode cX12_changed 49 = .ok (.goto 45, 3) := by decide +kernel
theorem dX12_changed_52 : decode cX12_changed 52 = .ok (.aload_n 0, 1) := by decide +kernel
theorem dX12_changed_53 : decode cX12_changed 53 = .ok (.invokevirtual 416, 3) := by decide +kernel
theorem dX12_changed_56 : decode cX12_changed 56 = .ok (.aload_n 0, 1) := by decide +kernel
theorem dX12_changed_57 : decode cX12_changed 57 = .ok (.getfield 80, 3) := by decide +kernel
theorem dX12_changed_60 : decode cX12_changed 60 = .ok (.iload_n 3, 1) := by decide +kernel
theorem dX12_changed_61 : decode cX12_changed 61 = .ok (.bipush 6, 2) := by decide +kernel
theorem dX12_changed_63 : decode cX12_changed 63 = .ok (.idiv, 1) := by decide +kernel
theorem dX12_changed_64 : decode cX12_changed 64 = .ok (.iload_n 3, 1) := by decide +kernel
theorem dX12_changed_65 : decode cX12_changed 65 = .ok (.bipush 6, 2) := by decide +kernel
theorem dX12_changed_67 : decode cX12_changed 67 = .ok (.irem, 1) := by decide +kernel
theorem dX12_changed_68 : decode cX12_changed 68 = .ok (.iastore, 1) := by decide +kernel
theorem dX12_changed_69 : decode cX12_changed 69 = .ok (.aload_n 0, 1) := by decide +kernel
theorem dX12_changed_70 : decode cX12_changed 70 = .ok (.iconst 0, 1) := by decide +kernel
theorem dX12_changed_71 : decode cX12_changed 71 = .ok (.invokevirtual 455, 3) := by decide +kernel
theorem dX12_changed_74 : decode cX12_changed 74 = .ok (.aload_n 0, 1) := by decide +kernel
theorem dX12_changed_75 : decode cX12_changed 75 = .ok (.invokevirtual 498, 3) := by decide +kernel
theorem dX12_changed_78 : decode cX12_changed 78 = .ok (.ifCond .ne 6, 3) := by decide +kernel
theorem dX12_changed_81 : decode cX12_changed 81 = .ok (.goto 13, 3) := by decide +kernel
theorem dX12_changed_84 : decode cX12_changed 84 = .ok (.iload_n 2, 1) := by decide +kernel
theorem dX12_changed_85 : decode cX12_changed 85 = .ok (.iload_n 1, 1) := by decide +kernel
theorem dX12_changed_86 : decode cX12_changed 86 = .ok (.if_icmp .ne 5, 3) := by decide +kernel
theorem dX12_changed_89 : decode cX12_changed 89 = .ok (.iload_n 3, 1) := by decide +kernel
theorem dX12_changed_90 : decode cX12_changed 90 = .ok (.ireturn, 1) := by decide +kernel
theorem dX12_changed_91 : decode cX12_changed 91 = .ok (.iinc 2 1, 3) := by decide +kernel
theorem dX12_changed_94 : decode cX12_changed 94 = .ok (.iinc 3 1, 3) := by decide +kernel
theorem dX12_changed_97 : decode cX12_changed 97 = .ok (.goto (-86), 3) := by decide +kernel
theorem dX12_changed_100 : decode cX12_changed 100 = .ok (.iload_n 1, 1) := by decide +kernel
theorem dX12_changed_101 : decode cX12_changed 101 = .ok (.iconst (-1), 1) := by decide +kernel
theorem dX12_changed_102 : decode cX12_changed 102 = .ok (.if_icmp .ne 7, 3) := by decide +kernel
theorem dX12_changed_105 : decode cX12_changed 105 = .ok (.iload_n 2, 1) := by decide +kernel
theorem dX12_changed_106 : decode cX12_changed 106 = .ok (.goto 4, 3) := by decide +kernel
theorem dX12_changed_109 : decode cX12_changed 109 = .ok (.iconst (-1), 1) := by decide +kernel
theorem dX12_changed_110 : decode cX12_changed 110 = .ok (.ireturn, 1) := by decide +kernel
set_option maxRecDepth 20000 in
theorem T_X12_changed_11 {Q : Option Value → ah_T → Prop} {h : ah_T} (hs : Sh h) (x1 : Int32) (x2 : Int32) (x3 : Int32) (ht : (((6 * (ah_i h 84 (Int32.toNatClampNeg 246))) ≤ x3 → ((¬ x1 = (-1) → Q (some (.int (-1))) h) ∧ (x1 = (-1) → Q (some (.int x2)) h))) ∧ (¬ (6 * (ah_i h 84 (Int32.toNatClampNeg 246))) ≤ x3 → (vp_in ((60 + (3 * (x3 / 6))) + 1) (ah_n h 84)) ∧ ((¬ (ah_i h 84 (Int32.toNatClampNeg ((60 + (3 * (x3 / 6))) + 1))) = (x3 - x3 / 6 * 6) → (Mt mX12_looks [.ref 82] h (ab_qv fun h6 => Sh h6 ∧ (vp_in (x3 / 6) (ah_n h6 101)) ∧ (∀ h10, h10 = ah_si h6 101 (Int32.toNatClampNeg (x3 / 6)) (x3 - x3 / 6 * 6) → (Mt mX12_tries [.ref 82, .int 0] h10 (ab_qv fun h13 => Sh h13 ∧ (Mt mX12_areSo [.ref 82] h13 (ab_qi fun v18 h16 => Sh h16 ∧ ((¬ v18 = 0 → ((¬ x2 = x1 → Wp mX12_changed Q 0 0 11 [some (.ref 82), some (.int x1), some (.int (x2 + 1)), some (.int (x3 + 1))] [] h16) ∧ (x2 = x1 → Q (some (.int x3)) h16))) ∧ (v18 = 0 → Wp mX12_changed Q 0 0 11 [some (.ref 82), some (.int x1), some (.int x2), some (.int (x3 + 1))] [] h16)))))))))) ∧ ((ah_i h 84 (Int32.toNatClampNeg ((60 + (3 * (x3 / 6))) + 1))) = (x3 - x3 / 6 * 6) → Wp mX12_changed Q 0 0 11 [some (.ref 82), some (.int x1), some (.int x2), some (.int (x3 + 1))] [] h))))) : Wp mX12_changed Q 0 0 11 [some (.ref 82), some (.int x1), some (.int x2), some (.int x3)] [] h := by
  refine ab_iload_n (i := 3) dX12_changed_11 rfl rfl ?_
  refine ab_bipush (v := 6) dX12_changed_12 (by decide) ?_
  refine ab_aload_n (i := 0) dX12_changed_14 rfl rfl ?_
  refine ab_getR (b := 84) f_X12_20 rfl (sh_k hs 82 12 (by decide) rfl) (sh_r hs 100 rfl) dX12_changed_15 ?_
  refine ab_sipush (v := 246) dX12_changed_18 (by decide) ?_
  refine ab_iald (sh_k hs 84 14 (by decide) rfl) (sh_in hs 84 5860 (by decide) (by decide) rfl (by unfold vp_in; decide)) dX12_changed_21 ?_
  refine ab_imul dX12_changed_22 ?_
  refine ab_icmp_ge (tgt := 100) dX12_changed_23 (by decide) (fun c2 => ?_) (fun c2 => ?_)
  · have ht := ht.1 c2
    refine ab_iload_n (i := 1) dX12_changed_100 rfl rfl ?_
    refine ab_iconst (v := (-1)) dX12_changed_101 (by decide) ?_
    refine ab_icmp_ne (tgt := 109) dX12_changed_102 (by decide) (fun c3 => ?_) (fun c3 => ?_)
    · have ht := ht.1 c3
      refine ab_iconst (v := (-1)) dX12_changed_109 (by decide) ?_
      exact ab_iret rfl dX12_changed_110 (Nat.le_of_ble_eq_true rfl) (Nat.le_of_ble_eq_true rfl) ht
    · have ht := ht.2 c3
      refine ab_iload_n (i := 2) dX12_changed_105 rfl rfl ?_
      refine ab_goto (tgt := 110) dX12_changed_106 (by decide) ?_
      exact ab_iret rfl dX12_changed_110 (Nat.le_of_ble_eq_true rfl) (Nat.le_of_ble_eq_true rfl) ht
  · have ht := ht.2 c2
    refine ab_aload_n (i := 0) dX12_changed_26 rfl rfl ?_
    refine ab_getR (b := 84) f_X12_20 rfl (sh_k hs 82 12 (by decide) rfl) (sh_r hs 100 rfl) dX12_changed_27 ?_
    refine ab_bipush (v := 60) dX12_changed_30 (by decide) ?_
    refine ab_iconst (v := 3) dX12_changed_32 (by decide) ?_
    refine ab_iload_n (i := 3) dX12_changed_33 rfl rfl ?_
    refine ab_bipush (v := 6) dX12_changed_34 (by decide) ?_
    refine ab_idiv dX12_changed_36 (by decide) ?_
    refine ab_imul dX12_changed_37 ?_
    refine ab_iadd dX12_changed_38 ?_
    refine ab_iconst (v := 1) dX12_changed_39 (by decide) ?_
    refine ab_iadd dX12_changed_40 ?_
    obtain ⟨hc4, ht⟩ := ht
    refine ab_iald (sh_k hs 84 14 (by decide) rfl) hc4 dX12_changed_41 ?_
    refine ab_iload_n (i := 3) dX12_changed_42 rfl rfl ?_
    refine ab_bipush (v := 6) dX12_changed_43 (by decide) ?_
    refine ab_irem dX12_changed_45 (by decide) ?_
    refine ab_icmp_ne (tgt := 52) dX12_changed_46 (by decide) (fun c5 => ?_) (fun c5 => ?_)
    · have ht := ht.1 c5
      refine ab_aload_n (i := 0) dX12_changed_52 rfl rfl ?_
      refine ab_callV (b := 82) (As := []) ht (Y_X12_looks) l_X12_416 in_X12_looks se_X12_looks (sh_k hs 82 12 (by decide) rfl) (by decide) rfl rfl ⟨(Nat.le_of_ble_eq_true rfl), (Nat.le_of_ble_eq_true rfl), (Nat.le_of_ble_eq_true rfl), (Nat.le_of_ble_eq_true rfl)⟩ dX12_changed_53 ?_
      rintro _ h6 ⟨rfl, hs7, ht⟩
      refine ab_aload_n (i := 0) dX12_changed_56 rfl rfl ?_
      refine ab_getR (b := 101) f_X12_80 rfl (sh_k hs7 82 12 (by decide) rfl) (sh_r hs7 117 rfl) dX12_changed_57 ?_
      refine ab_iload_n (i := 3) dX12_changed_60 rfl rfl ?_
      refine ab_bipush (v := 6) dX12_changed_61 (by decide) ?_
      refine ab_idiv dX12_changed_63 (by decide) ?_
      refine ab_iload_n (i := 3) dX12_changed_64 rfl rfl ?_
      refine ab_bipush (v := 6) dX12_changed_65 (by decide) ?_
      refine ab_irem dX12_changed_67 (by decide) ?_
      obtain ⟨hc9, ht⟩ := ht
      refine ab_iast (sh_k hs7 101 14 (by decide) rfl) hc9 dX12_changed_68 ?_
      refine Wp.nm fun h10 e11 => ?_
      have ht := ht h10 e11
      have hs12 : Sh h10 := by rw [e11]; exact sh_si hs7
      refine ab_aload_n (i := 0) dX12_changed_69 rfl rfl ?_
      refine ab_iconst (v := 0) dX12_changed_70 (by decide) ?_
      refine ab_callV (b := 82) (As := [.int 0]) ht (Y_X12_tries) l_X12_455 in_X12_tries se_X12_tries (sh_k hs12 82 12 (by decide) rfl) (by decide) rfl rfl ⟨(Nat.le_of_ble_eq_true rfl), (Nat.le_of_ble_eq_true rfl), (Nat.le_of_ble_eq_true rfl), (Nat.le_of_ble_eq_true rfl)⟩ dX12_changed_71 ?_
      rintro _ h13 ⟨rfl, hs14, ht⟩
      refine ab_aload_n (i := 0) dX12_changed_74 rfl rfl ?_
      refine ab_callV (b := 82) (As := []) ht (Y_X12_areSo) l_X12_498 in_X12_areSo se_X12_areSo (sh_k hs14 82 12 (by decide) rfl) (by decide) rfl rfl ⟨(Nat.le_of_ble_eq_true rfl), (Nat.le_of_ble_eq_true rfl), (Nat.le_of_ble_eq_true rfl), (Nat.le_of_ble_eq_true rfl)⟩ dX12_changed_75 ?_
      rintro _ h16 ⟨v18, rfl, hs17, ht⟩
      refine ab_if_ne (tgt := 84) dX12_changed_78 (by decide) (fun c19 => ?_) (fun c19 => ?_)
      · have ht := ht.1 c19
        refine ab_iload_n (i := 2) dX12_changed_84 rfl rfl ?_
        refine ab_iload_n (i := 1) dX12_changed_85 rfl rfl ?_
        refine ab_icmp_ne (tgt := 91) dX12_changed_86 (by decide) (fun c20 => ?_) (fun c20 => ?_)
        · have ht := ht.1 c20
          refine ab_iinc (i := 2) (x := x2) (v := (x2 + 1)) (L' := [some (.ref 82), some (.int x1), some (.int (x2 + 1)), some (.int x3)]) dX12_changed_91 rfl rfl (by exact (Nat.le_of_ble_eq_true rfl)) rfl rfl ?_
          refine ab_iinc (i := 3) (x := x3) (v := (x3 + 1)) (L' := [some (.ref 82), some (.int x1), some (.int (x2 + 1)), some (.int (x3 + 1))]) dX12_changed_94 rfl rfl (by exact (Nat.le_of_ble_eq_true rfl)) rfl rfl ?_
          refine ab_goto (tgt := 11) dX12_changed_97 (by decide) ?_
          exact Wp.fewer (L' := [some (.ref 82), some (.int x1), some (.int (x2 + 1)), some (.int (x3 + 1))]) (show ab_leL _ _ from ⟨rfl, ⟨rfl, ⟨rfl, ⟨rfl, trivial⟩⟩⟩⟩) ht
        · have ht := ht.2 c20
          refine ab_iload_n (i := 3) dX12_changed_89 rfl rfl ?_
          exact ab_iret rfl dX12_changed_90 (Nat.le_of_ble_eq_true rfl) (Nat.le_of_ble_eq_true rfl) ht
      · have ht := ht.2 c19
        refine ab_goto (tgt := 94) dX12_changed_81 (by decide) ?_
        refine ab_iinc (i := 3) (x := x3) (v := (x3 + 1)) (L' := [some (.ref 82), some (.int x1), some (.int x2), some (.int (x3 + 1))]) dX12_changed_94 rfl rfl (by exact (Nat.le_of_ble_eq_true rfl)) rfl rfl ?_
        refine ab_goto (tgt := 11) dX12_changed_97 (by decide) ?_
        exact Wp.fewer (L' := [some (.ref 82), some (.int x1), some (.int x2), some (.int (x3 + 1))]) (show ab_leL _ _ from ⟨rfl, ⟨rfl, ⟨rfl, ⟨rfl, trivial⟩⟩⟩⟩) ht
    · have ht := ht.2 c5
      refine ab_goto (tgt := 94) dX12_changed_49 (by decide) ?_
      refine ab_iinc (i := 3) (x := x3) (v := (x3 + 1)) (L' := [some (.ref 82), some (.int x1), some (.int x2), some (.int (x3 + 1))]) dX12_changed_94 rfl rfl (by exact (Nat.le_of_ble_eq_true rfl)) rfl rfl ?_
      refine ab_goto (tgt := 11) dX12_changed_97 (by decide) ?_
      exact Wp.fewer (L' := [some (.ref 82), some (.int x1), some (.int x2), some (.int (x3 + 1))]) (show ab_leL _ _ from ⟨rfl, ⟨rfl, ⟨rfl, ⟨rfl, trivial⟩⟩⟩⟩) ht
set_option maxRecDepth 20000 in
theorem T_X12_changed {Q : Option Value → ah_T → Prop} {h : ah_T} (hs : Sh h) (x1 : Int32) (ht : (((-1) ≤ x1 → Wp mX12_changed Q 0 0 11 [some (.ref 82), some (.int x1), some (.int 0), some (.int 0)] [] h) ∧ (¬ (-1) ≤ x1 → Q (some (.int (-1))) h))) : Mt mX12_changed [.ref 82, .int x1] h Q := by
  refine Mt.ofWp rfl (by exact (Nat.le_of_ble_eq_true rfl)) (Wp.fewer (L' := [some (.ref 82), some (.int x1), none, none]) (show ab_leL _ _ from ⟨rfl, ⟨rfl, trivial⟩⟩) ?_)
  refine ab_iload_n (i := 1) dX12_changed_0 rfl rfl ?_
  refine ab_iconst (v := (-1)) dX12_changed_1 (by decide) ?_
  refine ab_icmp_ge (tgt := 7) dX12_changed_2 (by decide) (fun c1 => ?_) (fun c1 => ?_)
  · have ht := ht.1 c1
    refine ab_iconst (v := 0) dX12_changed_7 (by decide) ?_
    refine ab_istore_n (i := 2) (L' := [some (.ref 82), some (.int x1), some (.int 0), none]) dX12_changed_8 rfl (by exact (Nat.le_of_ble_eq_true rfl)) rfl rfl ?_
    refine ab_iconst (v := 0) dX12_changed_9 (by decide) ?_
    refine ab_istore_n (i := 3) (L' := [some (.ref 82), some (.int x1), some (.int 0), some (.int 0)]) dX12_changed_10 rfl (by exact (Nat.le_of_ble_eq_true rfl)) rfl rfl ?_
    exact Wp.fewer (L' := [some (.ref 82), some (.int x1), some (.int 0), some (.int 0)]) (show ab_leL _ _ from ⟨rfl, ⟨rfl, ⟨rfl, ⟨rfl, trivial⟩⟩⟩⟩) ht
  · have ht := ht.2 c1
    refine ab_iconst (v := (-1)) dX12_changed_5 (by decide) ?_
    exact ab_iret rfl dX12_changed_6 (Nat.le_of_ble_eq_true rfl) (Nat.le_of_ble_eq_true rfl) ht
theorem dX12_rounds_0 : decode cX12_rounds 0 = .ok (.aload_n 0, 1) := by decide +kernel
theorem dX12_rounds_1 : decode cX12_rounds 1 = .ok (.iconst (-1), 1) := by decide +kernel
theorem dX12_rounds_2 : decode cX12_rounds 2 = .ok (.putfield 146, 3) := by decide +kernel
theorem dX12_rounds_5 : decode cX12_rounds 5 = .ok (.aload_n 0, 1) := by decide +kernel
theorem dX12_rounds_6 : decode cX12_rounds 6 = .ok (.iconst 1, 1) := by decide +kernel
theorem dX12_rounds_7 : decode cX12_rounds 7 = .ok (.putfield 252, 3) := by decide +kernel
theorem dX12_rounds_10 : decode cX12_rounds 10 = .ok (.aload_n 0, 1) := by decide +kernel
theorem dX12_rounds_11 : decode cX12_rounds 11 = .ok (.invokevirtual 300, 3) := by decide +kernel
theorem dX12_rounds_14 : decode cX12_rounds 14 = .ok (.ifCond .ne 10, 3) := by decide +kernel
theorem dX12_rounds_17 : decode cX12_rounds 17 = .ok (.aload_n 0, 1) := by decide +kernel
theorem dX12_rounds_18 : decode cX12_rounds 18 = .ok (.bipush (-6), 2) := by decide +kernel
theorem dX12_rounds_20 : decode cX12_rounds 20 = .ok (.invokevirtual 160, 3) := by decide +kernel
theorem dX12_rounds_23 : decode cX12_rounds 23 = .ok (.ireturn, 1) := by decide +kernel
theorem dX12_rounds_24 : decode cX12_rounds 24 = .ok (.aload_n 0, 1) := by decide +kernel
theorem dX12_rounds_25 : decode cX12_rounds 25 = .ok (.getfield 20, 3) := by decide +kernel
theorem dX12_rounds_28 : decode cX12_rounds 28 = .ok (.sipush 247, 3) := by decide +kernel
theorem dX12_rounds_31 : decode cX12_rounds 31 = .ok (.iaload, 1) := by decide +kernel
theorem dX12_rounds_32 : decode cX12_rounds 32 = .ok (.istore_n 1, 1) := by decide +kernel
theorem dX12_rounds_33 : decode cX12_rounds 33 = .ok (.aload_n 0, 1) := by decide +kernel
theorem dX12_rounds_34 : decode cX12_rounds 34 = .ok (.bipush 6, 2) := by decide +kernel
theorem dX12_rounds_36 : decode cX12_rounds 36 = .ok (.invokevirtual 303, 3) := by decide +kernel
theorem dX12_rounds_39 : decode cX12_rounds 39 = .ok (.aload_n 0, 1) := by decide +kernel
theorem dX12_rounds_40 : decode cX12_rounds 40 = .ok (.iconst 0, 1) := by decide +kernel
theorem dX12_rounds_41 : decode cX12_rounds 41 = .ok (.putfield 501, 3) := by decide +kernel
theorem dX12_rounds_44 : decode cX12_rounds 44 = .ok (.aload_n 0, 1) := by decide +kernel
theorem dX12_rounds_45 : decode cX12_rounds 45 = .ok (.iconst (-1), 1) := by decide +kernel
theorem dX12_rounds_46 : decode cX12_rounds 46 = .ok (.putfield 504, 3) := by decide +kernel
theorem dX12_rounds_49 : decode cX12_rounds 49 = .ok (.aload_n 0, 1) := by decide +kernel
theorem dX12_rounds_50 : decode cX12_rounds 50 = .ok (.sipush 2400, 3) := by decide +kernel
theorem dX12_rounds_53 : decode cX12_rounds 53 = .ok (.putfield 507, 3) := by decide +kernel
theorem dX12_rounds_56 : decode cX12_rounds 56 = .ok (.aload_n 0, 1) := by decide +kernel
theorem dX12_rounds_57 : decode cX12_rounds 57 = .ok (.getfield 507, 3) := by decide +kernel
theorem dX12_rounds_60 : decode cX12_rounds 60 = .ok (.aload_n 0, 1) := by decide +kernel
theorem dX12_rounds_61 : decode cX12_rounds 61 = .ok (.getfield 20, 3) := by decide +kernel
theorem dX12_rounds_64 : decode cX12_rounds 64 = .ok (.sipush 259, 3) := by decide +kernel
theorem dX12_rounds_67 : decode cX12_rounds 67 = .ok (.iaload, 1) := by decide +kernel
theorem dX12_rounds_68 : decode cX12_rounds 68 = .ok (.iadd, 1) := by decide +kernel
theorem dX12_rounds_69 : decode cX12_rounds 69 = .ok (.istore_n 2, 1) := by decide +kernel
theorem dX12_rounds_70 : decode cX12_rounds 70 = .ok (.iconst 0, 1) := by decide +kernel
theorem dX12_rounds_71 : decode cX12_rounds 71 = .ok (.istore_n 3, 1) := by decide +kernel
theorem dX12_rounds_72 : decode cX12_rounds 72 = .ok (.aload_n 0, 1) := by decide +kernel
theorem dX12_rounds_73 : decode cX12_rounds 73 = .ok (.getfield 507, 3) := by decide +kernel
theorem dX12_rounds_76 : decode cX12_rounds 76 = .ok (.iload_n 2, 1) := by decide +kernel
theorem dX12_rounds_77 : decode cX12_rounds 77 = .ok (.if_icmp .ge 57, 3) := by decide +kernel
theorem dX12_rounds_80 : decode cX12_rounds 80 = .ok (.aload_n 0, 1) := by decide +kernel
theorem dX12_rounds_81 : decode cX12_rounds 81 = .ok (.iload_n 2, 1) := by decide +kernel
theorem dX12_rounds_82 : decode cX12_rounds 82 = .ok (.invokevirtual 510, 3) := by decide +kernel
theorem dX12_rounds_85 : decode cX12_rounds 85 = .ok (.istore 4, 2) := by decide +kernel
theorem dX12_rounds_87 : decode cX12_rounds 87 = .ok (.iload 4, 2) := by decide +kernel
theorem dX12_rounds_89 : decode cX12_rounds 89 = .ok (.ifCond .ne 6, 3) := by decide +kernel
theorem dX12_rounds_92 : decode cX12_rounds 92 = .ok (.goto 36, 3) := by decide +kernel
theorem dX12_rounds_95 : decode cX12_rounds 95 = .ok (.aload_n 0, 1) := by decide +kernel
theorem dX12_rounds_96 : decode cX12_rounds 96 = .ok (.getfield 20, 3) := by decide +kernel
theorem dX12_rounds_99 : decode cX12_rounds 99 = .ok (.sipush 247, 3) := by decide +kernel
theorem dX12_rounds_102 : decode cX12_rounds 102 = .ok (.iload_n 1, 1) := by decide +kernel
theorem dX12_rounds_103 : decode cX12_rounds 103 = .ok (.iastore, 1) := by decide +kernel
theorem dX12_rounds_104 : decode cX12_rounds 104 = .ok (.aload_n 0, 1) := by decide +kernel
theorem dX12_rounds_105 : decode cX12_rounds 105 = .ok (.iload_n 3, 1) := by decide +kernel
theorem dX12_rounds_106 : decode cX12_rounds 106 = .ok (.putfield 146, 3) := by decide +kernel
theorem dX12_rounds_109 : decode cX12_rounds 109 = .ok (.aload_n 0, 1) := by decide +kernel
theorem dX12_rounds_110 : decode cX12_rounds 110 = .ok (.iload 4, 2) := by decide +kernel
theorem dX12_rounds_112 : decode cX12_rounds 112 = .ok (.bipush (-5), 2) := by decide +kernel
theorem dX12_rounds_114 : decode cX12_rounds 114 = .ok (.if_icmp .ne 8, 3) := by decide +kernel
theorem dX12_rounds_117 : decode cX12_rounds 117 = .ok (.bipush (-5), 2) := by decide +kernel
theorem dX12_rounds_119 : decode cX12_rounds 119 = .ok (.goto 5, 3) := by decide +kernel
theorem dX12_rounds_122 : decode cX12_rounds 122 = .ok (.bipush (-3), 2) := by decide +kernel
theorem dX12_rounds_124 : decode cX12_rounds 124 = .ok (.invokevirtual 160, 3) := by decide +kernel
theorem dX12_rounds_127 : decode cX12_rounds 127 = .ok (.ireturn, 1) := by decide +kernel
theorem dX12_rounds_128 : decode cX12_rounds 128 = .ok (.iinc 3 1, 3) := by decide +kernel
theorem dX12_rounds_131 : decode cX12_rounds 131 = .ok (.goto (-59), 3) := by decide +kernel
theorem dX12_rounds_134 : decode cX12_rounds 134 = .ok (.aload_n 0, 1) := by decide +kernel
theorem dX12_rounds_135 : decode cX12_rounds 135 = .ok (.aload_n 0, 1) := by decide +kernel
theorem dX12_rounds_136 : decode cX12_rounds 136 = .ok (.getfield 501, 3) := by decide +kernel
theorem dX12_rounds_139 : decode cX12_rounds 139 = .ok (.invokevirtual 164, 3) := by decide +kernel
theorem dX12_rounds_142 : decode cX12_rounds 142 = .ok (.ireturn, 1) := by decide +kernel
set_option maxRecDepth 20000 in
theorem T_X12_rounds_72 {Q : Option Value → ah_T → Prop} {h : ah_T} (hs : Sh h) (x1 : Int32) (x2 : Int32) (x3 : Int32) (ht : ((x2 ≤ (ah_i h 82 67) → (Mt mX12_good [.ref 82, .int (ah_i h 82 70)] h (ab_qi fun v29 h27 => Sh h27 ∧ Q (some (.int v29)) h27))) ∧ (¬ x2 ≤ (ah_i h 82 67) → (Mt mX12_runs [.ref 82, .int x2] h (ab_qi fun v32 h30 => Sh h30 ∧ ((¬ v32 = 0 → (∀ h34, h34 = ah_si h30 84 (Int32.toNatClampNeg 247) x1 → (∀ h37, h37 = ah_si h34 82 66 x3 → ((¬ v32 = (-5) → (Mt mX12_refuses [.ref 82, .int (-3)] h37 (ab_qi fun v43 h41 => Sh h41 ∧ Q (some (.int v43)) h41))) ∧ (v32 = (-5) → (Mt mX12_refuses [.ref 82, .int (-5)] h37 (ab_qi fun v46 h44 => Sh h44 ∧ Q (some (.int v46)) h44))))))) ∧ (v32 = 0 → Wp mX12_rounds Q 0 0 72 [some (.ref 82), some (.int x1), some (.int x2), some (.int (x3 + 1)), none] [] h30))))))) : Wp mX12_rounds Q 0 0 72 [some (.ref 82), some (.int x1), some (.int x2), some (.int x3), none] [] h := by
  refine ab_aload_n (i := 0) dX12_rounds_72 rfl rfl ?_
  refine ab_getI f_X12_507 rfl (sh_k hs 82 12 (by decide) rfl) dX12_rounds_73 ?_
  refine ab_iload_n (i := 2) dX12_rounds_76 rfl rfl ?_
  refine ab_icmp_ge (tgt := 134) dX12_rounds_77 (by decide) (fun c26 => ?_) (fun c26 => ?_)
  · have ht := ht.1 c26
    refine ab_aload_n (i := 0) dX12_rounds_134 rfl rfl ?_
    refine ab_aload_n (i := 0) dX12_rounds_135 rfl rfl ?_
    refine ab_getI f_X12_501 rfl (sh_k hs 82 12 (by decide) rfl) dX12_rounds_136 ?_
    refine ab_callV (b := 82) (As := [.int (ah_i h 82 70)]) ht (Y_X12_good) l_X12_164 in_X12_good se_X12_good (sh_k hs 82 12 (by decide) rfl) (by decide) rfl rfl ⟨(Nat.le_of_ble_eq_true rfl), (Nat.le_of_ble_eq_true rfl), (Nat.le_of_ble_eq_true rfl), (Nat.le_of_ble_eq_true rfl)⟩ dX12_rounds_139 ?_
    rintro _ h27 ⟨v29, rfl, hs28, ht⟩
    exact ab_iret rfl dX12_rounds_142 (Nat.le_of_ble_eq_true rfl) (Nat.le_of_ble_eq_true rfl) ht
  · have ht := ht.2 c26
    refine ab_aload_n (i := 0) dX12_rounds_80 rfl rfl ?_
    refine ab_iload_n (i := 2) dX12_rounds_81 rfl rfl ?_
    refine ab_callV (b := 82) (As := [.int x2]) ht (Y_X12_runs) l_X12_510 in_X12_runs se_X12_runs (sh_k hs 82 12 (by decide) rfl) (by decide) rfl rfl ⟨(Nat.le_of_ble_eq_true rfl), (Nat.le_of_ble_eq_true rfl), (Nat.le_of_ble_eq_true rfl), (Nat.le_of_ble_eq_true rfl)⟩ dX12_rounds_82 ?_
    rintro _ h30 ⟨v32, rfl, hs31, ht⟩
    refine ab_istore (i := 4) (L' := [some (.ref 82), some (.int x1), some (.int x2), some (.int x3), some (.int v32)]) dX12_rounds_85 (by exact (Nat.le_of_ble_eq_true rfl)) rfl rfl ?_
    refine ab_iload (i := 4) dX12_rounds_87 rfl ?_
    refine ab_if_ne (tgt := 95) dX12_rounds_89 (by decide) (fun c33 => ?_) (fun c33 => ?_)
    · have ht := ht.1 c33
      refine ab_aload_n (i := 0) dX12_rounds_95 rfl rfl ?_
      refine ab_getR (b := 84) f_X12_20 rfl (sh_k hs31 82 12 (by decide) rfl) (sh_r hs31 100 rfl) dX12_rounds_96 ?_
      refine ab_sipush (v := 247) dX12_rounds_99 (by decide) ?_
      refine ab_iload_n (i := 1) dX12_rounds_102 rfl rfl ?_
      refine ab_iast (sh_k hs31 84 14 (by decide) rfl) (sh_in hs31 84 5860 (by decide) (by decide) rfl (by unfold vp_in; decide)) dX12_rounds_103 ?_
      refine Wp.nm fun h34 e35 => ?_
      have ht := ht h34 e35
      have hs36 : Sh h34 := by rw [e35]; exact sh_si hs31
      refine ab_aload_n (i := 0) dX12_rounds_104 rfl rfl ?_
      refine ab_iload_n (i := 3) dX12_rounds_105 rfl rfl ?_
      refine ab_putI f_X12_146 (Or.inl rfl) rfl (sh_k hs36 82 12 (by decide) rfl) rfl rfl dX12_rounds_106 ?_
      refine Wp.nm fun h37 e38 => ?_
      have ht := ht h37 e38
      have hs39 : Sh h37 := by rw [e38]; exact sh_si hs36
      refine ab_aload_n (i := 0) dX12_rounds_109 rfl rfl ?_
      refine ab_iload (i := 4) dX12_rounds_110 rfl ?_
      refine ab_bipush (v := (-5)) dX12_rounds_112 (by decide) ?_
      refine ab_icmp_ne (tgt := 122) dX12_rounds_114 (by decide) (fun c40 => ?_) (fun c40 => ?_)
      · have ht := ht.1 c40
        refine ab_bipush (v := (-3)) dX12_rounds_122 (by decide) ?_
        refine ab_callV (b := 82) (As := [.int (-3)]) ht (Y_X12_refuses) l_X12_160 in_X12_refuses se_X12_refuses (sh_k hs39 82 12 (by decide) rfl) (by decide) rfl rfl ⟨(Nat.le_of_ble_eq_true rfl), (Nat.le_of_ble_eq_true rfl), (Nat.le_of_ble_eq_true rfl), (Nat.le_of_ble_eq_true rfl)⟩ dX12_rounds_124 ?_
        rintro _ h41 ⟨v43, rfl, hs42, ht⟩
        exact ab_iret rfl dX12_rounds_127 (Nat.le_of_ble_eq_true rfl) (Nat.le_of_ble_eq_true rfl) ht
      · have ht := ht.2 c40
        refine ab_bipush (v := (-5)) dX12_rounds_117 (by decide) ?_
        refine ab_goto (tgt := 124) dX12_rounds_119 (by decide) ?_
        refine ab_callV (b := 82) (As := [.int (-5)]) ht (Y_X12_refuses) l_X12_160 in_X12_refuses se_X12_refuses (sh_k hs39 82 12 (by decide) rfl) (by decide) rfl rfl ⟨(Nat.le_of_ble_eq_true rfl), (Nat.le_of_ble_eq_true rfl), (Nat.le_of_ble_eq_true rfl), (Nat.le_of_ble_eq_true rfl)⟩ dX12_rounds_124 ?_
        rintro _ h44 ⟨v46, rfl, hs45, ht⟩
        exact ab_iret rfl dX12_rounds_127 (Nat.le_of_ble_eq_true rfl) (Nat.le_of_ble_eq_true rfl) ht
    · have ht := ht.2 c33
      refine ab_goto (tgt := 128) dX12_rounds_92 (by decide) ?_
      refine ab_iinc (i := 3) (x := x3) (v := (x3 + 1)) (L' := [some (.ref 82), some (.int x1), some (.int x2), some (.int (x3 + 1)), some (.int v32)]) dX12_rounds_128 rfl rfl (by exact (Nat.le_of_ble_eq_true rfl)) rfl rfl ?_
      refine ab_goto (tgt := 72) dX12_rounds_131 (by decide) ?_
      exact Wp.fewer (L' := [some (.ref 82), some (.int x1), some (.int x2), some (.int (x3 + 1)), none]) (show ab_leL _ _ from ⟨rfl, ⟨rfl, ⟨rfl, ⟨rfl, trivial⟩⟩⟩⟩) ht
set_option maxRecDepth 20000 in
theorem T_X12_rounds {Q : Option Value → ah_T → Prop} {h : ah_T} (hs : Sh h)  (ht : (∀ h1, h1 = ah_si h 82 66 (-1) → (∀ h4, h4 = ah_si h1 82 8 1 → (Mt mX12_reads [.ref 82] h4 (ab_qi fun v9 h7 => Sh h7 ∧ ((¬ v9 = 0 → (Mt mX12_lays [.ref 82, .int 6] h7 (ab_qv fun h11 => Sh h11 ∧ (∀ h14, h14 = ah_si h11 82 70 0 → (∀ h17, h17 = ah_si h14 82 71 (-1) → (∀ h20, h20 = ah_si h17 82 67 2400 → Wp mX12_rounds Q 0 0 72 [some (.ref 82), some (.int (ah_i h7 84 (Int32.toNatClampNeg 247))), some (.int ((ah_i h20 82 67) + (ah_i h20 84 (Int32.toNatClampNeg 259)))), some (.int 0), none] [] h20)))))) ∧ (v9 = 0 → (Mt mX12_refuses [.ref 82, .int (-6)] h7 (ab_qi fun v25 h23 => Sh h23 ∧ Q (some (.int v25)) h23))))))))) : Mt mX12_rounds [.ref 82] h Q := by
  refine Mt.ofWp rfl (by exact (Nat.le_of_ble_eq_true rfl)) (Wp.fewer (L' := [some (.ref 82), none, none, none, none]) (show ab_leL _ _ from ⟨rfl, trivial⟩) ?_)
  refine ab_aload_n (i := 0) dX12_rounds_0 rfl rfl ?_
  refine ab_iconst (v := (-1)) dX12_rounds_1 (by decide) ?_
  refine ab_putI f_X12_146 (Or.inl rfl) rfl (sh_k hs 82 12 (by decide) rfl) rfl rfl dX12_rounds_2 ?_
  refine Wp.nm fun h1 e2 => ?_
  have ht := ht h1 e2
  have hs3 : Sh h1 := by rw [e2]; exact sh_si hs
  refine ab_aload_n (i := 0) dX12_rounds_5 rfl rfl ?_
  refine ab_iconst (v := 1) dX12_rounds_6 (by decide) ?_
  refine ab_putI f_X12_252 (Or.inl rfl) rfl (sh_k hs3 82 12 (by decide) rfl) rfl rfl dX12_rounds_7 ?_
  refine Wp.nm fun h4 e5 => ?_
  have ht := ht h4 e5
  have hs6 : Sh h4 := by rw [e5]; exact sh_si hs3
  refine ab_aload_n (i := 0) dX12_rounds_10 rfl rfl ?_
  refine ab_callV (b := 82) (As := []) ht (Y_X12_reads) l_X12_300 in_X12_reads se_X12_reads (sh_k hs6 82 12 (by decide) rfl) (by decide) rfl rfl ⟨(Nat.le_of_ble_eq_true rfl), (Nat.le_of_ble_eq_true rfl), (Nat.le_of_ble_eq_true rfl), (Nat.le_of_ble_eq_true rfl)⟩ dX12_rounds_11 ?_
  rintro _ h7 ⟨v9, rfl, hs8, ht⟩
  refine ab_if_ne (tgt := 24) dX12_rounds_14 (by decide) (fun c10 => ?_) (fun c10 => ?_)
  · have ht := ht.1 c10
    refine ab_aload_n (i := 0) dX12_rounds_24 rfl rfl ?_
    refine ab_getR (b := 84) f_X12_20 rfl (sh_k hs8 82 12 (by decide) rfl) (sh_r hs8 100 rfl) dX12_rounds_25 ?_
    refine ab_sipush (v := 247) dX12_rounds_28 (by decide) ?_
    refine ab_iald (sh_k hs8 84 14 (by decide) rfl) (sh_in hs8 84 5860 (by decide) (by decide) rfl (by unfold vp_in; decide)) dX12_rounds_31 ?_
    refine ab_istore_n (i := 1) (L' := [some (.ref 82), some (.int (ah_i h7 84 (Int32.toNatClampNeg 247))), none, none, none]) dX12_rounds_32 rfl (by exact (Nat.le_of_ble_eq_true rfl)) rfl rfl ?_
    refine ab_aload_n (i := 0) dX12_rounds_33 rfl rfl ?_
    refine ab_bipush (v := 6) dX12_rounds_34 (by decide) ?_
    refine ab_callV (b := 82) (As := [.int 6]) ht (Y_X12_lays) l_X12_303 in_X12_lays se_X12_lays (sh_k hs8 82 12 (by decide) rfl) (by decide) rfl rfl ⟨(Nat.le_of_ble_eq_true rfl), (Nat.le_of_ble_eq_true rfl), (Nat.le_of_ble_eq_true rfl), (Nat.le_of_ble_eq_true rfl)⟩ dX12_rounds_36 ?_
    rintro _ h11 ⟨rfl, hs12, ht⟩
    refine ab_aload_n (i := 0) dX12_rounds_39 rfl rfl ?_
    refine ab_iconst (v := 0) dX12_rounds_40 (by decide) ?_
    refine ab_putI f_X12_501 (Or.inl rfl) rfl (sh_k hs12 82 12 (by decide) rfl) rfl rfl dX12_rounds_41 ?_
    refine Wp.nm fun h14 e15 => ?_
    have ht := ht h14 e15
    have hs16 : Sh h14 := by rw [e15]; exact sh_si hs12
    refine ab_aload_n (i := 0) dX12_rounds_44 rfl rfl ?_
    refine ab_iconst (v := (-1)) dX12_rounds_45 (by decide) ?_
    refine ab_putI f_X12_504 (Or.inl rfl) rfl (sh_k hs16 82 12 (by decide) rfl) rfl rfl dX12_rounds_46 ?_
    refine Wp.nm fun h17 e18 => ?_
    have ht := ht h17 e18
    have hs19 : Sh h17 := by rw [e18]; exact sh_si hs16
    refine ab_aload_n (i := 0) dX12_rounds_49 rfl rfl ?_
    refine ab_sipush (v := 2400) dX12_rounds_50 (by decide) ?_
    refine ab_putI f_X12_507 (Or.inl rfl) rfl (sh_k hs19 82 12 (by decide) rfl) rfl rfl dX12_rounds_53 ?_
    refine Wp.nm fun h20 e21 => ?_
    have ht := ht h20 e21
    have hs22 : Sh h20 := by rw [e21]; exact sh_si hs19
    refine ab_aload_n (i := 0) dX12_rounds_56 rfl rfl ?_
    refine ab_getI f_X12_507 rfl (sh_k hs22 82 12 (by decide) rfl) dX12_rounds_57 ?_
    refine ab_aload_n (i := 0) dX12_rounds_60 rfl rfl ?_
    refine ab_getR (b := 84) f_X12_20 rfl (sh_k hs22 82 12 (by decide) rfl) (sh_r hs22 100 rfl) dX12_rounds_61 ?_
    refine ab_sipush (v := 259) dX12_rounds_64 (by decide) ?_
    refine ab_iald (sh_k hs22 84 14 (by decide) rfl) (sh_in hs22 84 5860 (by decide) (by decide) rfl (by unfold vp_in; decide)) dX12_rounds_67 ?_
    refine ab_iadd dX12_rounds_68 ?_
    refine ab_istore_n (i := 2) (L' := [some (.ref 82), some (.int (ah_i h7 84 (Int32.toNatClampNeg 247))), some (.int ((ah_i h20 82 67) + (ah_i h20 84 (Int32.toNatClampNeg 259)))), none, none]) dX12_rounds_69 rfl (by exact (Nat.le_of_ble_eq_true rfl)) rfl rfl ?_
    refine ab_iconst (v := 0) dX12_rounds_70 (by decide) ?_
    refine ab_istore_n (i := 3) (L' := [some (.ref 82), some (.int (ah_i h7 84 (Int32.toNatClampNeg 247))), some (.int ((ah_i h20 82 67) + (ah_i h20 84 (Int32.toNatClampNeg 259)))), some (.int 0), none]) dX12_rounds_71 rfl (by exact (Nat.le_of_ble_eq_true rfl)) rfl rfl ?_
    exact Wp.fewer (L' := [some (.ref 82), some (.int (ah_i h7 84 (Int32.toNatClampNeg 247))), some (.int ((ah_i h20 82 67) + (ah_i h20 84 (Int32.toNatClampNeg 259)))), some (.int 0), none]) (show ab_leL _ _ from ⟨rfl, ⟨rfl, ⟨rfl, ⟨rfl, trivial⟩⟩⟩⟩) ht
  · have ht := ht.2 c10
    refine ab_aload_n (i := 0) dX12_rounds_17 rfl rfl ?_
    refine ab_bipush (v := (-6)) dX12_rounds_18 (by decide) ?_
    refine ab_callV (b := 82) (As := [.int (-6)]) ht (Y_X12_refuses) l_X12_160 in_X12_refuses se_X12_refuses (sh_k hs8 82 12 (by decide) rfl) (by decide) rfl rfl ⟨(Nat.le_of_ble_eq_true rfl), (Nat.le_of_ble_eq_true rfl), (Nat.le_of_ble_eq_true rfl), (Nat.le_of_ble_eq_true rfl)⟩ dX12_rounds_20 ?_
    rintro _ h23 ⟨v25, rfl, hs24, ht⟩
    exact ab_iret rfl dX12_rounds_23 (Nat.le_of_ble_eq_true rfl) (Nat.le_of_ble_eq_true rfl) ht
theorem dX12_goesAlong_0 : decode cX12_goesAlong 0 = .ok (.aload_n 0, 1) := by decide +kernel
theorem dX12_goesAlong_1 : decode cX12_goesAlong 1 = .ok (.iconst 1, 1) := by decide +kernel
theorem dX12_goesAlong_2 : decode cX12_goesAlong 2 = .ok (.putfield 339, 3) := by decide +kernel
theorem dX12_goesAlong_5 : decode cX12_goesAlong 5 = .ok (.aload_n 0, 1) := by decide +kernel
theorem dX12_goesAlong_6 : decode cX12_goesAlong 6 = .ok (.iload_n 1, 1) := by decide +kernel
theorem dX12_goesAlong_7 : decode cX12_goesAlong 7 = .ok (.putfield 306, 3) := by decide +kernel
theorem dX12_goesAlong_10 : decode cX12_goesAlong 10 = .ok (.aload_n 0, 1) := by decide +kernel
theorem dX12_goesAlong_11 : decode cX12_goesAlong 11 = .ok (.getfield 55, 3) := by decide +kernel
theorem dX12_goesAlong_14 : decode cX12_goesAlong 14 = .ok (.iconst 0, 1) := by decide +kernel
theorem dX12_goesAlong_15 : decode cX12_goesAlong 15 = .ok (.aload_n 0, 1) := by decide +kernel
theorem dX12_goesAlong_16 : decode cX12_goesAlong 16 = .ok (.getfield 20, 3) := by decide +kernel
theorem dX12_goesAlong_19 : decode cX12_goesAlong 19 = .ok (.sipush 246, 3) := by decide +kernel
theorem dX12_goesAlong_22 : decode cX12_goesAlong 22 = .ok (.iaload, 1) := by decide +kernel
theorem dX12_goesAlong_23 : decode cX12_goesAlong 23 = .ok (.iastore, 1) := by decide +kernel
theorem dX12_goesAlong_24 : decode cX12_goesAlong 24 = .ok (.aload_n 0, 1) := by decide +kernel
theorem dX12_goesAlong_25 : decode cX12_goesAlong 25 = .ok (.getfield 55, 3) := by decide +kernel
theorem dX12_goesAlong_28 : decode cX12_goesAlong 28 = .ok (.iconst 1, 1) := by decide +kernel
theorem dX12_goesAlong_29 : decode cX12_goesAlong 29 = .ok (.aload_n 0, 1) := by decide +kernel
theorem dX12_goesAlong_30 : decode cX12_goesAlong 30 = .ok (.getfield 20, 3) := by decide +kernel
theorem dX12_goesAlong_33 : decode cX12_goesAlong 33 = .ok (.sipush 247, 3) := by decide +kernel
theorem dX12_goesAlong_36 : decode cX12_goesAlong 36 = .ok (.iaload, 1) := by decide +kernel
theorem dX12_goesAlong_37 : decode cX12_goesAlong 37 = .ok (.iastore, 1) := by decide +kernel
theorem dX12_goesAlong_38 : decode cX12_goesAlong 38 = .ok (.aload_n 0, 1) := by decide +kernel
theorem dX12_goesAlong_39 : decode cX12_goesAlong 39 = .ok (.getfield 55, 3) := by decide +kernel
theorem dX12_goesAlong_42 : decode cX12_goesAlong 42 = .ok (.iconst 2, 1) := by decide +kernel
theorem dX12_goesAlong_43 : decode cX12_goesAlong 43 = .ok (.aload_n 0, 1) := by decide +kernel
theorem dX12_goesAlong_44 : decode cX12_goesAlong 44 = .ok (.getfield 504, 3) := by decide +kernel
theorem dX12_goesAlong_47 : decode cX12_goesAlong 47 = .ok (.iastore, 1) := by decide +kernel
theorem dX12_goesAlong_48 : decode cX12_goesAlong 48 = .ok (.aload_n 0, 1) := by decide +kernel
theorem dX12_goesAlong_49 : decode cX12_goesAlong 49 = .ok (.getfield 55, 3) := by decide +kernel
theorem dX12_goesAlong_52 : decode cX12_goesAlong 52 = .ok (.iconst 3, 1) := by decide +kernel
theorem dX12_goesAlong_53 : decode cX12_goesAlong 53 = .ok (.aload_n 0, 1) := by decide +kernel
theorem dX12_goesAlong_54 : decode cX12_goesAlong 54 = .ok (.getfield 501, 3) := by decide +kernel
theorem dX12_goesAlong_57 : decode cX12_goesAlong 57 = .ok (.iastore, 1) := by decide +kernel
theorem dX12_goesAlong_58 : decode cX12_goesAlong 58 = .ok (.aload_n 0, 1) := by decide +kernel
theorem dX12_goesAlong_59 : decode cX12_goesAlong 59 = .ok (.getfield 55, 3) := by decide +kernel
theorem dX12_goesAlong_62 : decode cX12_goesAlong 62 = .ok (.iconst 4, 1) := by decide +kernel
theorem dX12_goesAlong_63 : decode cX12_goesAlong 63 = .ok (.iload_n 2, 1) := by decide +kernel
theorem dX12_goesAlong_64 : decode cX12_goesAlong 64 = .ok (.iastore, 1) := by decide +kernel
theorem dX12_goesAlong_65 : decode cX12_goesAlong 65 = .ok (.aload_n 0, 1) := by decide +kernel
theorem dX12_goesAlong_66 : decode cX12_goesAlong 66 = .ok (.aload_n 0, 1) := by decide +kernel
theorem dX12_goesAlong_67 : decode cX12_goesAlong 67 = .ok (.getfield 507, 3) := by decide +kernel
theorem dX12_goesAlong_70 : decode cX12_goesAlong 70 = .ok (.putfield 309, 3) := by decide +kernel
theorem dX12_goesAlong_73 : decode cX12_goesAlong 73 = .ok (.aload_n 0, 1) := by decide +kernel
theorem dX12_goesAlong_74 : decode cX12_goesAlong 74 = .ok (.aload_n 0, 1) := by decide +kernel
theorem dX12_goesAlong_75 : decode cX12_goesAlong 75 = .ok (.aload_n 0, 1) := by decide +kernel
theorem dX12_goesAlong_76 : decode cX12_goesAlong 76 = .ok (.getfield 309, 3) := by decide +kernel
theorem dX12_goesAlong_79 : decode cX12_goesAlong 79 = .ok (.invokevirtual 312, 3) := by decide +kernel
theorem dX12_goesAlong_82 : decode cX12_goesAlong 82 = .ok (.putfield 513, 3) := by decide +kernel
theorem dX12_goesAlong_85 : decode cX12_goesAlong 85 = .ok (.aload_n 0, 1) := by decide +kernel
theorem dX12_goesAlong_86 : decode cX12_goesAlong 86 = .ok (.dup, 1) := by decide +kernel
theorem dX12_goesAlong_87 : decode cX12_goesAlong 87 = .ok (.getfield 309, 3) := by decide +kernel
theorem dX12_goesAlong_90 : decode cX12_goesAlong 90 = .ok (.iconst 1, 1) := by decide +kernel
theorem dX12_goesAlong_91 : decode cX12_goesAlong 91 = .ok (.iadd, 1) := by decide +kernel
theorem dX12_goesAlong_92 : decode cX12_goesAlong 92 = .ok (.putfield 309, 3) := by decide +kernel
theorem dX12_goesAlong_95 : decode cX12_goesAlong 95 = .ok (.aload_n 0, 1) := by decide +kernel
theorem dX12_goesAlong_96 : decode cX12_goesAlong 96 = .ok (.iconst 1, 1) := by decide +kernel
theorem dX12_goesAlong_97 : decode cX12_goesAlong 97 = .ok (.putfield 516, 3) := by decide +kernel
theorem dX12_goesAlong_100 : decode cX12_goesAlong 100 = .ok (.aload_n 0, 1) := by decide +kernel
theorem dX12_goesAlong_101 : decode cX12_goesAlong 101 = .ok (.iconst 0, 1) := by decide +kernel
theorem dX12_goesAlong_102 : decode cX12_goesAlong 102 = .ok (.iload_n 3, 1) := by decide +kernel
theorem dX12_goesAlong_103 : decode cX12_goesAlong 103 = .ok (.invokevirtual 519, 3) := by decide +kernel
theorem dX12_goesAlong_106 : decode cX12_goesAlong 106 = .ok (.aload_n 0, 1) := by decide +kernel
theorem dX12_goesAlong_107 : decode cX12_goesAlong 107 = .ok (.dup, 1) := by decide +kernel
theorem dX12_goesAlong_108 : decode cX12_goesAlong 108 = .ok (.getfield 309, 3) := by decide +kernel
theorem dX12_goesAlong_111 : decode cX12_goesAlong 111 = .ok (.iconst 1, 1) := by decide +kernel
theorem dX12_goesAlong_112 : decode cX12_goesAlong 112 = .ok (.iadd, 1) := by decide +kernel
theorem dX12_goesAlong_113 : decode cX12_goesAlong 113 = .ok (.putfield 309, 3) := by decide +kernel
theorem dX12_goesAlong_116 : decode cX12_goesAlong 116 = .ok (.aload_n 0, 1) := by decide +kernel
theorem dX12_goesAlong_117 : decode cX12_goesAlong 117 = .ok (.iconst 1, 1) := by decide +kernel
theorem dX12_goesAlong_118 : decode cX12_goesAlong 118 = .ok (.iload_n 3, 1) := by decide +kernel
theorem dX12_goesAlong_119 : decode cX12_goesAlong 119 = .ok (.invokevirtual 519, 3) := by decide +kernel
theorem dX12_goesAlong_122 : decode cX12_goesAlong 122 = .ok (.aload_n 0, 1) := by decide +kernel
theorem dX12_goesAlong_123 : decode cX12_goesAlong 123 = .ok (.aload_n 0, 1) := by decide +kernel
theorem dX12_goesAlong_124 : decode cX12_goesAlong 124 = .ok (.bipush 24, 2) := by decide +kernel
theorem dX12_goesAlong_126 : decode cX12_goesAlong 126 = .ok (.invokevirtual 333, 3) := by decide +kernel
theorem dX12_goesAlong_129 : decode cX12_goesAlong 129 = .ok (.putfield 523, 3) := by decide +kernel
theorem dX12_goesAlong_132 : decode cX12_goesAlong 132 = .ok (.aload_n 0, 1) := by decide +kernel
theorem dX12_goesAlong_133 : decode cX12_goesAlong 133 = .ok (.getfield 149, 3) := by decide +kernel
theorem dX12_goesAlong_136 : decode cX12_goesAlong 136 = .ok (.iconst 2, 1) := by decide +kernel
theorem dX12_goesAlong_137 : decode cX12_goesAlong 137 = .ok (.lconst 0, 1) := by decide +kernel
theorem dX12_goesAlong_138 : decode cX12_goesAlong 138 = .ok (.lastore, 1) := by decide +kernel
theorem dX12_goesAlong_139 : decode cX12_goesAlong 139 = .ok (.aload_n 0, 1) := by decide +kernel
theorem dX12_goesAlong_140 : decode cX12_goesAlong 140 = .ok (.getfield 523, 3) := by decide +kernel
theorem dX12_goesAlong_143 : decode cX12_goesAlong 143 = .ok (.ifCond .eq 9, 3) := by decide +kernel
theorem dX12_goesAlong_146 : decode cX12_goesAlong 146 = .ok (.aload_n 0, 1) := by decide +kernel
theorem dX12_goesAlong_147 : decode cX12_goesAlong 147 = .ok (.iconst 2, 1) := by decide +kernel
theorem dX12_goesAlong_148 : decode cX12_goesAlong 148 = .ok (.iload_n 3, 1) := by decide +kernel
theorem dX12_goesAlong_149 : decode cX12_goesAlong 149 = .ok (.invokevirtual 519, 3) := by decide +kernel
theorem dX12_goesAlong_152 : decode cX12_goesAlong 152 = .ok (.aload_n 0, 1) := by decide +kernel
theorem dX12_goesAlong_153 : decode cX12_goesAlong 153 = .ok (.iconst 1, 1) := by decide +kernel
theorem dX12_goesAlong_154 : decode cX12_goesAlong 154 = .ok (.putfield 526, 3) := by decide +kernel
theorem dX12_goesAlong_157 : decode cX12_goesAlong 157 = .ok (.aload_n 0, 1) := by decide +kernel
theorem dX12_goesAlong_158 : decode cX12_goesAlong 158 = .ok (.bipush 25, 2) := by decide +kernel
theorem dX12_goesAlong_160 : decode cX12_goesAlong 160 = .ok (.invokevirtual 333, 3) := by decide +kernel
theorem dX12_goesAlong_163 : decode cX12_goesAlong 163 = .ok (.ifCond .eq 30, 3) := by decide +kernel
theorem dX12_goesAlong_166 : decode cX12_goesAlong 166 = .ok (.aload_n 0, 1) := by decide +kernel
theorem dX12_goesAlong_167 : decode cX12_goesAlong 167 = .ok (.aload_n 0, 1) := by decide +kernel
theorem dX12_goesAlong_168 : decode cX12_goesAlong 168 = .ok (.getfield 20, 3) := by decide +kernel
theorem dX12_goesAlong_171 : decode cX12_goesAlong 171 = .ok (.sipush 3060, 3) := by decide +kernel
theorem dX12_goesAlong_174 : decode cX12_goesAlong 174 = .ok (.aload_n 0, 1) := by decide +kernel
theorem dX12_goesAlong_175 : decode cX12_goesAlong 175 = .ok (.getfield 309, 3) := by decide +kernel
theorem dX12_goesAlong_178 : decode cX12_goesAlong 178 = .ok (.iadd, 1) := by decide +kernel
theorem dX12_goesAlong_179 : decode cX12_goesAlong 179 = .ok (.iaload, 1) := by decide +kernel
theorem dX12_goesAlong_180 : decode cX12_goesAlong 180 = .ok (.putfield 526, 3) := by decide +kernel
theorem dX12_goesAlong_183 : decode cX12_goesAlong 183 = .ok (.aload_n 0, 1) := by decide +kernel
theorem dX12_goesAlong_184 : decode cX12_goesAlong 184 = .ok (.dup, 1) := by decide +kernel
theorem dX12_goesAlong_185 : decode cX12_goesAlong 185 = .ok (.getfield 309, 3) := by decide +kernel
theorem dX12_goesAlong_188 : decode cX12_goesAlong 188 = .ok (.iconst 1, 1) := by decide +kernel
theorem dX12_goesAlong_189 : decode cX12_goesAlong 189 = .ok (.iadd, 1) := by decide +kernel
theorem dX12_goesAlong_190 : decode cX12_goesAlong 190 = .ok (.putfield 309, 3) := by decide +kernel
theorem dX12_goesAlong_193 : decode cX12_goesAlong 193 = .ok (.aload_n 0, 1) := by decide +kernel
theorem dX12_goesAlong_194 : decode cX12_goesAlong 194 = .ok (.iconst 0, 1) := by decide +kernel
theorem dX12_goesAlong_195 : decode cX12_goesAlong 195 = .ok (.putfield 319, 3) := by decide +kernel
theorem dX12_goesAlong_198 : decode cX12_goesAlong 198 = .ok (.aload_n 0, 1) := by decide +kernel
theorem dX12_goesAlong_199 : decode cX12_goesAlong 199 = .ok (.aload_n 0, 1) := by decide +kernel
theorem dX12_goesAlong_200 : decode cX12_goesAlong 200 = .ok (.iconst 4, 1) := by decide +kernel
theorem dX12_goesAlong_201 : decode cX12_goesAlong 201 = .ok (.invokevirtual 333, 3) := by decide +kernel
theorem dX12_goesAlong_204 : decode cX12_goesAlong 204 = .ok (.ifCond .eq 11, 3) := by decide +kernel
theorem dX12_goesAlong_207 : decode cX12_goesAlong 207 = .ok (.aload_n 0, 1) := by decide +kernel
theorem dX12_goesAlong_208 : decode cX12_goesAlong 208 = .ok (.iload_n 3, 1) := by decide +kernel
theorem dX12_goesAlong_209 : decode cX12_goesAlong 209 = .ok (.invokevirtual 352, 3) := by decide +kernel
theorem dX12_goesAlong_212 : decode cX12_goesAlong 212 = .ok (.ifCond .eq 7, 3) := by decide +kernel
theorem dX12_goesAlong_215 : decode cX12_goesAlong 215 = .ok (.iconst 1, 1) := by decide +kernel
theorem dX12_goesAlong_216 : decode cX12_goesAlong 216 = .ok (.goto 4, 3) := by decide +kernel
theorem dX12_goesAlong_219 : decode cX12_goesAlong 219 = .ok (.iconst 0, 1) := by decide +kernel
theorem dX12_goesAlong_220 : decode cX12_goesAlong 220 = .ok (.putfield 529, 3) := by decide +kernel
theorem dX12_goesAlong_223 : decode cX12_goesAlong 223 = .ok (.aload_n 0, 1) := by decide +kernel
theorem dX12_goesAlong_224 : decode cX12_goesAlong 224 = .ok (.aload_n 0, 1) := by decide +kernel
theorem dX12_goesAlong_225 : decode cX12_goesAlong 225 = .ok (.getfield 529, 3) := by decide +kernel
theorem dX12_goesAlong_228 : decode cX12_goesAlong 228 = .ok (.ifCond .eq 14, 3) := by decide +kernel
theorem dX12_goesAlong_231 : decode cX12_goesAlong 231 = .ok (.aload_n 0, 1) := by decide +kernel
theorem dX12_goesAlong_232 : decode cX12_goesAlong 232 = .ok (.getfield 319, 3) := by decide +kernel
theorem dX12_goesAlong_235 : decode cX12_goesAlong 235 = .ok (.ifCond .ne 7, 3) := by decide +kernel
theorem dX12_goesAlong_238 : decode cX12_goesAlong 238 = .ok (.iconst 1, 1) := by decide +kernel
theorem dX12_goesAlong_239 : decode cX12_goesAlong 239 = .ok (.goto 4, 3) := by decide +kernel
theorem dX12_goesAlong_242 : decode cX12_goesAlong 242 = .ok (.iconst 0, 1) := by decide +kernel
theorem dX12_goesAlong_243 : decode cX12_goesAlong 243 = .ok (.putfield 529, 3) := by decide +kernel
theorem dX12_goesAlong_246 : decode cX12_goesAlong 246 = .ok (.aload_n 0, 1) := by decide +kernel
theorem dX12_goesAlong_247 : decode cX12_goesAlong 247 = .ok (.dup, 1) := by decide +kernel
theorem dX12_goesAlong_248 : decode cX12_goesAlong 248 = .ok (.getfield 309, 3) := by decide +kernel
theorem dX12_goesAlong_251 : decode cX12_goesAlong 251 = .ok (.iconst 1, 1) := by decide +kernel
theorem dX12_goesAlong_252 : decode cX12_goesAlong 252 = .ok (.iadd, 1) := by decide +kernel
theorem dX12_goesAlong_253 : decode cX12_goesAlong 253 = .ok (.putfield 309, 3) := by decide +kernel
theorem dX12_goesAlong_256 : decode cX12_goesAlong 256 = .ok (.return_, 1) := by decide +kernel
set_option maxRecDepth 20000 in
theorem T_X12_goesAlong_152 {Q : Option Value → ah_T → Prop} {h : ah_T} (hs : Sh h) (x3 : Int32) (ht : (∀ h58, h58 = ah_si h 82 68 1 → (Mt mX12_passes0 [.ref 82, .int 25] h58 (ab_qi fun v63 h61 => Sh h61 ∧ ((v63 = 0 → Wp mX12_goesAlong Q 0 0 193 [some (.ref 82), none, none, some (.int x3)] [] h61) ∧ (¬ v63 = 0 → (vp_in (3060 + (ah_i h61 82 20)) (ah_n h61 84)) ∧ (∀ h66, h66 = ah_si h61 82 68 (ah_i h61 84 (Int32.toNatClampNeg (3060 + (ah_i h61 82 20)))) → (∀ h69, h69 = ah_si h66 82 20 ((ah_i h66 82 20) + 1) → Wp mX12_goesAlong Q 0 0 193 [some (.ref 82), none, none, some (.int x3)] [] h69)))))))) : Wp mX12_goesAlong Q 0 0 152 [some (.ref 82), none, none, some (.int x3)] [] h := by
  refine ab_aload_n (i := 0) dX12_goesAlong_152 rfl rfl ?_
  refine ab_iconst (v := 1) dX12_goesAlong_153 (by decide) ?_
  refine ab_putI f_X12_526 (Or.inl rfl) rfl (sh_k hs 82 12 (by decide) rfl) rfl rfl dX12_goesAlong_154 ?_
  refine Wp.nm fun h58 e59 => ?_
  have ht := ht h58 e59
  have hs60 : Sh h58 := by rw [e59]; exact sh_si hs
  refine ab_aload_n (i := 0) dX12_goesAlong_157 rfl rfl ?_
  refine ab_bipush (v := 25) dX12_goesAlong_158 (by decide) ?_
  refine ab_callV (b := 82) (As := [.int 25]) ht (Y_X12_passes0) l_X12_333 in_X12_passes0 se_X12_passes0 (sh_k hs60 82 12 (by decide) rfl) (by decide) rfl rfl ⟨(Nat.le_of_ble_eq_true rfl), (Nat.le_of_ble_eq_true rfl), (Nat.le_of_ble_eq_true rfl), (Nat.le_of_ble_eq_true rfl)⟩ dX12_goesAlong_160 ?_
  rintro _ h61 ⟨v63, rfl, hs62, ht⟩
  refine ab_if_eq (tgt := 193) dX12_goesAlong_163 (by decide) (fun c64 => ?_) (fun c64 => ?_)
  · have ht := ht.1 c64
    exact Wp.fewer (L' := [some (.ref 82), none, none, some (.int x3)]) (show ab_leL _ _ from ⟨rfl, ⟨rfl, trivial⟩⟩) ht
  · have ht := ht.2 c64
    refine ab_aload_n (i := 0) dX12_goesAlong_166 rfl rfl ?_
    refine ab_aload_n (i := 0) dX12_goesAlong_167 rfl rfl ?_
    refine ab_getR (b := 84) f_X12_20 rfl (sh_k hs62 82 12 (by decide) rfl) (sh_r hs62 100 rfl) dX12_goesAlong_168 ?_
    refine ab_sipush (v := 3060) dX12_goesAlong_171 (by decide) ?_
    refine ab_aload_n (i := 0) dX12_goesAlong_174 rfl rfl ?_
    refine ab_getI f_X12_309 rfl (sh_k hs62 82 12 (by decide) rfl) dX12_goesAlong_175 ?_
    refine ab_iadd dX12_goesAlong_178 ?_
    obtain ⟨hc65, ht⟩ := ht
    refine ab_iald (sh_k hs62 84 14 (by decide) rfl) hc65 dX12_goesAlong_179 ?_
    refine ab_putI f_X12_526 (Or.inl rfl) rfl (sh_k hs62 82 12 (by decide) rfl) rfl rfl dX12_goesAlong_180 ?_
    refine Wp.nm fun h66 e67 => ?_
    have ht := ht h66 e67
    have hs68 : Sh h66 := by rw [e67]; exact sh_si hs62
    refine ab_aload_n (i := 0) dX12_goesAlong_183 rfl rfl ?_
    refine ab_dup dX12_goesAlong_184 rfl ?_
    refine ab_getI f_X12_309 rfl (sh_k hs68 82 12 (by decide) rfl) dX12_goesAlong_185 ?_
    refine ab_iconst (v := 1) dX12_goesAlong_188 (by decide) ?_
    refine ab_iadd dX12_goesAlong_189 ?_
    refine ab_putI f_X12_309 (Or.inl rfl) rfl (sh_k hs68 82 12 (by decide) rfl) rfl rfl dX12_goesAlong_190 ?_
    refine Wp.nm fun h69 e70 => ?_
    have ht := ht h69 e70
    have hs71 : Sh h69 := by rw [e70]; exact sh_si hs68
    exact Wp.fewer (L' := [some (.ref 82), none, none, some (.int x3)]) (show ab_leL _ _ from ⟨rfl, ⟨rfl, trivial⟩⟩) ht
set_option maxRecDepth 20000 in
theorem T_X12_goesAlong_193 {Q : Option Value → ah_T → Prop} {h : ah_T} (hs : Sh h) (x3 : Int32) (ht : (∀ h72, h72 = ah_si h 82 22 0 → (Mt mX12_passes0 [.ref 82, .int 4] h72 (ab_qi fun v77 h75 => Sh h75 ∧ ((v77 = 0 → (∀ h79, h79 = ah_si h75 82 73 1 → (((ah_i h79 82 73) = 0 → (∀ h83, h83 = ah_si h79 82 73 0 → (∀ h86, h86 = ah_si h83 82 20 ((ah_i h83 82 20) + 1) → Q none h86))) ∧ (¬ (ah_i h79 82 73) = 0 → ((¬ (ah_i h79 82 22) = 0 → (∀ h90, h90 = ah_si h79 82 73 0 → (∀ h93, h93 = ah_si h90 82 20 ((ah_i h90 82 20) + 1) → Q none h93))) ∧ ((ah_i h79 82 22) = 0 → (∀ h96, h96 = ah_si h79 82 73 1 → (∀ h99, h99 = ah_si h96 82 20 ((ah_i h96 82 20) + 1) → Q none h99)))))))) ∧ (¬ v77 = 0 → (Mt (mX12_testOf 60) [.ref 82, .int x3] h75 (ab_qi fun v104 h102 => Sh h102 ∧ ((v104 = 0 → (∀ h106, h106 = ah_si h102 82 73 0 → (((ah_i h106 82 73) = 0 → (∀ h110, h110 = ah_si h106 82 73 0 → (∀ h113, h113 = ah_si h110 82 20 ((ah_i h110 82 20) + 1) → Q none h113))) ∧ (¬ (ah_i h106 82 73) = 0 → ((¬ (ah_i h106 82 22) = 0 → (∀ h117, h117 = ah_si h106 82 73 0 → (∀ h120, h120 = ah_si h117 82 20 ((ah_i h117 82 20) + 1) → Q none h120))) ∧ ((ah_i h106 82 22) = 0 → (∀ h123, h123 = ah_si h106 82 73 1 → (∀ h126, h126 = ah_si h123 82 20 ((ah_i h123 82 20) + 1) → Q none h126)))))))) ∧ (¬ v104 = 0 → (∀ h129, h129 = ah_si h102 82 73 1 → (((ah_i h129 82 73) = 0 → (∀ h133, h133 = ah_si h129 82 73 0 → (∀ h136, h136 = ah_si h133 82 20 ((ah_i h133 82 20) + 1) → Q none h136))) ∧ (¬ (ah_i h129 82 73) = 0 → ((¬ (ah_i h129 82 22) = 0 → (∀ h140, h140 = ah_si h129 82 73 0 → (∀ h143, h143 = ah_si h140 82 20 ((ah_i h140 82 20) + 1) → Q none h143))) ∧ ((ah_i h129 82 22) = 0 → (∀ h146, h146 = ah_si h129 82 73 1 → (∀ h149, h149 = ah_si h146 82 20 ((ah_i h146 82 20) + 1) → Q none h149))))))))))))))))) : Wp mX12_goesAlong Q 0 0 193 [some (.ref 82), none, none, some (.int x3)] [] h := by
  refine ab_aload_n (i := 0) dX12_goesAlong_193 rfl rfl ?_
  refine ab_iconst (v := 0) dX12_goesAlong_194 (by decide) ?_
  refine ab_putI f_X12_319 (Or.inl rfl) rfl (sh_k hs 82 12 (by decide) rfl) rfl rfl dX12_goesAlong_195 ?_
  refine Wp.nm fun h72 e73 => ?_
  have ht := ht h72 e73
  have hs74 : Sh h72 := by rw [e73]; exact sh_si hs
  refine ab_aload_n (i := 0) dX12_goesAlong_198 rfl rfl ?_
  refine ab_aload_n (i := 0) dX12_goesAlong_199 rfl rfl ?_
  refine ab_iconst (v := 4) dX12_goesAlong_200 (by decide) ?_
  refine ab_callV (b := 82) (As := [.int 4]) ht (Y_X12_passes0) l_X12_333 in_X12_passes0 se_X12_passes0 (sh_k hs74 82 12 (by decide) rfl) (by decide) rfl rfl ⟨(Nat.le_of_ble_eq_true rfl), (Nat.le_of_ble_eq_true rfl), (Nat.le_of_ble_eq_true rfl), (Nat.le_of_ble_eq_true rfl)⟩ dX12_goesAlong_201 ?_
  rintro _ h75 ⟨v77, rfl, hs76, ht⟩
  refine ab_if_eq (tgt := 215) dX12_goesAlong_204 (by decide) (fun c78 => ?_) (fun c78 => ?_)
  · have ht := ht.1 c78
    refine ab_iconst (v := 1) dX12_goesAlong_215 (by decide) ?_
    refine ab_goto (tgt := 220) dX12_goesAlong_216 (by decide) ?_
    refine ab_putI f_X12_529 (Or.inl rfl) rfl (sh_k hs76 82 12 (by decide) rfl) rfl rfl dX12_goesAlong_220 ?_
    refine Wp.nm fun h79 e80 => ?_
    have ht := ht h79 e80
    have hs81 : Sh h79 := by rw [e80]; exact sh_si hs76
    refine ab_aload_n (i := 0) dX12_goesAlong_223 rfl rfl ?_
    refine ab_aload_n (i := 0) dX12_goesAlong_224 rfl rfl ?_
    refine ab_getI f_X12_529 rfl (sh_k hs81 82 12 (by decide) rfl) dX12_goesAlong_225 ?_
    refine ab_if_eq (tgt := 242) dX12_goesAlong_228 (by decide) (fun c82 => ?_) (fun c82 => ?_)
    · have ht := ht.1 c82
      refine ab_iconst (v := 0) dX12_goesAlong_242 (by decide) ?_
      refine ab_putI f_X12_529 (Or.inl rfl) rfl (sh_k hs81 82 12 (by decide) rfl) rfl rfl dX12_goesAlong_243 ?_
      refine Wp.nm fun h83 e84 => ?_
      have ht := ht h83 e84
      have hs85 : Sh h83 := by rw [e84]; exact sh_si hs81
      refine ab_aload_n (i := 0) dX12_goesAlong_246 rfl rfl ?_
      refine ab_dup dX12_goesAlong_247 rfl ?_
      refine ab_getI f_X12_309 rfl (sh_k hs85 82 12 (by decide) rfl) dX12_goesAlong_248 ?_
      refine ab_iconst (v := 1) dX12_goesAlong_251 (by decide) ?_
      refine ab_iadd dX12_goesAlong_252 ?_
      refine ab_putI f_X12_309 (Or.inl rfl) rfl (sh_k hs85 82 12 (by decide) rfl) rfl rfl dX12_goesAlong_253 ?_
      refine Wp.nm fun h86 e87 => ?_
      have ht := ht h86 e87
      have hs88 : Sh h86 := by rw [e87]; exact sh_si hs85
      exact ab_vret rfl dX12_goesAlong_256 (Nat.le_of_ble_eq_true rfl) (Nat.le_of_ble_eq_true rfl) ht
    · have ht := ht.2 c82
      refine ab_aload_n (i := 0) dX12_goesAlong_231 rfl rfl ?_
      refine ab_getI f_X12_319 rfl (sh_k hs81 82 12 (by decide) rfl) dX12_goesAlong_232 ?_
      refine ab_if_ne (tgt := 242) dX12_goesAlong_235 (by decide) (fun c89 => ?_) (fun c89 => ?_)
      · have ht := ht.1 c89
        refine ab_iconst (v := 0) dX12_goesAlong_242 (by decide) ?_
        refine ab_putI f_X12_529 (Or.inl rfl) rfl (sh_k hs81 82 12 (by decide) rfl) rfl rfl dX12_goesAlong_243 ?_
        refine Wp.nm fun h90 e91 => ?_
        have ht := ht h90 e91
        have hs92 : Sh h90 := by rw [e91]; exact sh_si hs81
        refine ab_aload_n (i := 0) dX12_goesAlong_246 rfl rfl ?_
        refine ab_dup dX12_goesAlong_247 rfl ?_
        refine ab_getI f_X12_309 rfl (sh_k hs92 82 12 (by decide) rfl) dX12_goesAlong_248 ?_
        refine ab_iconst (v := 1) dX12_goesAlong_251 (by decide) ?_
        refine ab_iadd dX12_goesAlong_252 ?_
        refine ab_putI f_X12_309 (Or.inl rfl) rfl (sh_k hs92 82 12 (by decide) rfl) rfl rfl dX12_goesAlong_253 ?_
        refine Wp.nm fun h93 e94 => ?_
        have ht := ht h93 e94
        have hs95 : Sh h93 := by rw [e94]; exact sh_si hs92
        exact ab_vret rfl dX12_goesAlong_256 (Nat.le_of_ble_eq_true rfl) (Nat.le_of_ble_eq_true rfl) ht
      · have ht := ht.2 c89
        refine ab_iconst (v := 1) dX12_goesAlong_238 (by decide) ?_
        refine ab_goto (tgt := 243) dX12_goesAlong_239 (by decide) ?_
        refine ab_putI f_X12_529 (Or.inl rfl) rfl (sh_k hs81 82 12 (by decide) rfl) rfl rfl dX12_goesAlong_243 ?_
        refine Wp.nm fun h96 e97 => ?_
        have ht := ht h96 e97
        have hs98 : Sh h96 := by rw [e97]; exact sh_si hs81
        refine ab_aload_n (i := 0) dX12_goesAlong_246 rfl rfl ?_
        refine ab_dup dX12_goesAlong_247 rfl ?_
        refine ab_getI f_X12_309 rfl (sh_k hs98 82 12 (by decide) rfl) dX12_goesAlong_248 ?_
        refine ab_iconst (v := 1) dX12_goesAlong_251 (by decide) ?_
        refine ab_iadd dX12_goesAlong_252 ?_
        refine ab_putI f_X12_309 (Or.inl rfl) rfl (sh_k hs98 82 12 (by decide) rfl) rfl rfl dX12_goesAlong_253 ?_
        refine Wp.nm fun h99 e100 => ?_
        have ht := ht h99 e100
        have hs101 : Sh h99 := by rw [e100]; exact sh_si hs98
        exact ab_vret rfl dX12_goesAlong_256 (Nat.le_of_ble_eq_true rfl) (Nat.le_of_ble_eq_true rfl) ht
  · have ht := ht.2 c78
    refine ab_aload_n (i := 0) dX12_goesAlong_207 rfl rfl ?_
    refine ab_iload_n (i := 3) dX12_goesAlong_208 rfl rfl ?_
    refine ab_callV (b := 82) (As := [.int x3]) ht (Y_X12_testOf _) l_X12_352 in_X12_testOf se_X12_testOf (sh_k hs76 82 12 (by decide) rfl) (by decide) rfl rfl ⟨(Nat.le_of_ble_eq_true rfl), (Nat.le_of_ble_eq_true rfl), (Nat.le_of_ble_eq_true rfl), (Nat.le_of_ble_eq_true rfl)⟩ dX12_goesAlong_209 ?_
    rintro _ h102 ⟨v104, rfl, hs103, ht⟩
    refine ab_if_eq (tgt := 219) dX12_goesAlong_212 (by decide) (fun c105 => ?_) (fun c105 => ?_)
    · have ht := ht.1 c105
      refine ab_iconst (v := 0) dX12_goesAlong_219 (by decide) ?_
      refine ab_putI f_X12_529 (Or.inl rfl) rfl (sh_k hs103 82 12 (by decide) rfl) rfl rfl dX12_goesAlong_220 ?_
      refine Wp.nm fun h106 e107 => ?_
      have ht := ht h106 e107
      have hs108 : Sh h106 := by rw [e107]; exact sh_si hs103
      refine ab_aload_n (i := 0) dX12_goesAlong_223 rfl rfl ?_
      refine ab_aload_n (i := 0) dX12_goesAlong_224 rfl rfl ?_
      refine ab_getI f_X12_529 rfl (sh_k hs108 82 12 (by decide) rfl) dX12_goesAlong_225 ?_
      refine ab_if_eq (tgt := 242) dX12_goesAlong_228 (by decide) (fun c109 => ?_) (fun c109 => ?_)
      · have ht := ht.1 c109
        refine ab_iconst (v := 0) dX12_goesAlong_242 (by decide) ?_
        refine ab_putI f_X12_529 (Or.inl rfl) rfl (sh_k hs108 82 12 (by decide) rfl) rfl rfl dX12_goesAlong_243 ?_
        refine Wp.nm fun h110 e111 => ?_
        have ht := ht h110 e111
        have hs112 : Sh h110 := by rw [e111]; exact sh_si hs108
        refine ab_aload_n (i := 0) dX12_goesAlong_246 rfl rfl ?_
        refine ab_dup dX12_goesAlong_247 rfl ?_
        refine ab_getI f_X12_309 rfl (sh_k hs112 82 12 (by decide) rfl) dX12_goesAlong_248 ?_
        refine ab_iconst (v := 1) dX12_goesAlong_251 (by decide) ?_
        refine ab_iadd dX12_goesAlong_252 ?_
        refine ab_putI f_X12_309 (Or.inl rfl) rfl (sh_k hs112 82 12 (by decide) rfl) rfl rfl dX12_goesAlong_253 ?_
        refine Wp.nm fun h113 e114 => ?_
        have ht := ht h113 e114
        have hs115 : Sh h113 := by rw [e114]; exact sh_si hs112
        exact ab_vret rfl dX12_goesAlong_256 (Nat.le_of_ble_eq_true rfl) (Nat.le_of_ble_eq_true rfl) ht
      · have ht := ht.2 c109
        refine ab_aload_n (i := 0) dX12_goesAlong_231 rfl rfl ?_
        refine ab_getI f_X12_319 rfl (sh_k hs108 82 12 (by decide) rfl) dX12_goesAlong_232 ?_
        refine ab_if_ne (tgt := 242) dX12_goesAlong_235 (by decide) (fun c116 => ?_) (fun c116 => ?_)
        · have ht := ht.1 c116
          refine ab_iconst (v := 0) dX12_goesAlong_242 (by decide) ?_
          refine ab_putI f_X12_529 (Or.inl rfl) rfl (sh_k hs108 82 12 (by decide) rfl) rfl rfl dX12_goesAlong_243 ?_
          refine Wp.nm fun h117 e118 => ?_
          have ht := ht h117 e118
          have hs119 : Sh h117 := by rw [e118]; exact sh_si hs108
          refine ab_aload_n (i := 0) dX12_goesAlong_246 rfl rfl ?_
          refine ab_dup dX12_goesAlong_247 rfl ?_
          refine ab_getI f_X12_309 rfl (sh_k hs119 82 12 (by decide) rfl) dX12_goesAlong_248 ?_
          refine ab_iconst (v := 1) dX12_goesAlong_251 (by decide) ?_
          refine ab_iadd dX12_goesAlong_252 ?_
          refine ab_putI f_X12_309 (Or.inl rfl) rfl (sh_k hs119 82 12 (by decide) rfl) rfl rfl dX12_goesAlong_253 ?_
          refine Wp.nm fun h120 e121 => ?_
          have ht := ht h120 e121
          have hs122 : Sh h120 := by rw [e121]; exact sh_si hs119
          exact ab_vret rfl dX12_goesAlong_256 (Nat.le_of_ble_eq_true rfl) (Nat.le_of_ble_eq_true rfl) ht
        · have ht := ht.2 c116
          refine ab_iconst (v := 1) dX12_goesAlong_238 (by decide) ?_
          refine ab_goto (tgt := 243) dX12_goesAlong_239 (by decide) ?_
          refine ab_putI f_X12_529 (Or.inl rfl) rfl (sh_k hs108 82 12 (by decide) rfl) rfl rfl dX12_goesAlong_243 ?_
          refine Wp.nm fun h123 e124 => ?_
          have ht := ht h123 e124
          have hs125 : Sh h123 := by rw [e124]; exact sh_si hs108
          refine ab_aload_n (i := 0) dX12_goesAlong_246 rfl rfl ?_
          refine ab_dup dX12_goesAlong_247 rfl ?_
          refine ab_getI f_X12_309 rfl (sh_k hs125 82 12 (by decide) rfl) dX12_goesAlong_248 ?_
          refine ab_iconst (v := 1) dX12_goesAlong_251 (by decide) ?_
          refine ab_iadd dX12_goesAlong_252 ?_
          refine ab_putI f_X12_309 (Or.inl rfl) rfl (sh_k hs125 82 12 (by decide) rfl) rfl rfl dX12_goesAlong_253 ?_
          refine Wp.nm fun h126 e127 => ?_
          have ht := ht h126 e127
          have hs128 : Sh h126 := by rw [e127]; exact sh_si hs125
          exact ab_vret rfl dX12_goesAlong_256 (Nat.le_of_ble_eq_true rfl) (Nat.le_of_ble_eq_true rfl) ht
    · have ht := ht.2 c105
      refine ab_iconst (v := 1) dX12_goesAlong_215 (by decide) ?_
      refine ab_goto (tgt := 220) dX12_goesAlong_216 (by decide) ?_
      refine ab_putI f_X12_529 (Or.inl rfl) rfl (sh_k hs103 82 12 (by decide) rfl) rfl rfl dX12_goesAlong_220 ?_
      refine Wp.nm fun h129 e130 => ?_
      have ht := ht h129 e130
      have hs131 : Sh h129 := by rw [e130]; exact sh_si hs103
      refine ab_aload_n (i := 0) dX12_goesAlong_223 rfl rfl ?_
      refine ab_aload_n (i := 0) dX12_goesAlong_224 rfl rfl ?_
      refine ab_getI f_X12_529 rfl (sh_k hs131 82 12 (by decide) rfl) dX12_goesAlong_225 ?_
      refine ab_if_eq (tgt := 242) dX12_goesAlong_228 (by decide) (fun c132 => ?_) (fun c132 => ?_)
      · have ht := ht.1 c132
        refine ab_iconst (v := 0) dX12_goesAlong_242 (by decide) ?_
        refine ab_putI f_X12_529 (Or.inl rfl) rfl (sh_k hs131 82 12 (by decide) rfl) rfl rfl dX12_goesAlong_243 ?_
        refine Wp.nm fun h133 e134 => ?_
        have ht := ht h133 e134
        have hs135 : Sh h133 := by rw [e134]; exact sh_si hs131
        refine ab_aload_n (i := 0) dX12_goesAlong_246 rfl rfl ?_
        refine ab_dup dX12_goesAlong_247 rfl ?_
        refine ab_getI f_X12_309 rfl (sh_k hs135 82 12 (by decide) rfl) dX12_goesAlong_248 ?_
        refine ab_iconst (v := 1) dX12_goesAlong_251 (by decide) ?_
        refine ab_iadd dX12_goesAlong_252 ?_
        refine ab_putI f_X12_309 (Or.inl rfl) rfl (sh_k hs135 82 12 (by decide) rfl) rfl rfl dX12_goesAlong_253 ?_
        refine Wp.nm fun h136 e137 => ?_
        have ht := ht h136 e137
        have hs138 : Sh h136 := by rw [e137]; exact sh_si hs135
        exact ab_vret rfl dX12_goesAlong_256 (Nat.le_of_ble_eq_true rfl) (Nat.le_of_ble_eq_true rfl) ht
      · have ht := ht.2 c132
        refine ab_aload_n (i := 0) dX12_goesAlong_231 rfl rfl ?_
        refine ab_getI f_X12_319 rfl (sh_k hs131 82 12 (by decide) rfl) dX12_goesAlong_232 ?_
        refine ab_if_ne (tgt := 242) dX12_goesAlong_235 (by decide) (fun c139 => ?_) (fun c139 => ?_)
        · have ht := ht.1 c139
          refine ab_iconst (v := 0) dX12_goesAlong_242 (by decide) ?_
          refine ab_putI f_X12_529 (Or.inl rfl) rfl (sh_k hs131 82 12 (by decide) rfl) rfl rfl dX12_goesAlong_243 ?_
          refine Wp.nm fun h140 e141 => ?_
          have ht := ht h140 e141
          have hs142 : Sh h140 := by rw [e141]; exact sh_si hs131
          refine ab_aload_n (i := 0) dX12_goesAlong_246 rfl rfl ?_
          refine ab_dup dX12_goesAlong_247 rfl ?_
          refine ab_getI f_X12_309 rfl (sh_k hs142 82 12 (by decide) rfl) dX12_goesAlong_248 ?_
          refine ab_iconst (v := 1) dX12_goesAlong_251 (by decide) ?_
          refine ab_iadd dX12_goesAlong_252 ?_
          refine ab_putI f_X12_309 (Or.inl rfl) rfl (sh_k hs142 82 12 (by decide) rfl) rfl rfl dX12_goesAlong_253 ?_
          refine Wp.nm fun h143 e144 => ?_
          have ht := ht h143 e144
          have hs145 : Sh h143 := by rw [e144]; exact sh_si hs142
          exact ab_vret rfl dX12_goesAlong_256 (Nat.le_of_ble_eq_true rfl) (Nat.le_of_ble_eq_true rfl) ht
        · have ht := ht.2 c139
          refine ab_iconst (v := 1) dX12_goesAlong_238 (by decide) ?_
          refine ab_goto (tgt := 243) dX12_goesAlong_239 (by decide) ?_
          refine ab_putI f_X12_529 (Or.inl rfl) rfl (sh_k hs131 82 12 (by decide) rfl) rfl rfl dX12_goesAlong_243 ?_
          refine Wp.nm fun h146 e147 => ?_
          have ht := ht h146 e147
          have hs148 : Sh h146 := by rw [e147]; exact sh_si hs131
          refine ab_aload_n (i := 0) dX12_goesAlong_246 rfl rfl ?_
          refine ab_dup dX12_goesAlong_247 rfl ?_
          refine ab_getI f_X12_309 rfl (sh_k hs148 82 12 (by decide) rfl) dX12_goesAlong_248 ?_
          refine ab_iconst (v := 1) dX12_goesAlong_251 (by decide) ?_
          refine ab_iadd dX12_goesAlong_252 ?_
          refine ab_putI f_X12_309 (Or.inl rfl) rfl (sh_k hs148 82 12 (by decide) rfl) rfl rfl dX12_goesAlong_253 ?_
          refine Wp.nm fun h149 e150 => ?_
          have ht := ht h149 e150
          have hs151 : Sh h149 := by rw [e150]; exact sh_si hs148
          exact ab_vret rfl dX12_goesAlong_256 (Nat.le_of_ble_eq_true rfl) (Nat.le_of_ble_eq_true rfl) ht
set_option maxRecDepth 20000 in
theorem T_X12_goesAlong {Q : Option Value → ah_T → Prop} {h : ah_T} (hs : Sh h) (x1 : Int32) (x2 : Int32) (x3 : Int32) (ht : (∀ h1, h1 = ah_si h 82 23 1 → (∀ h4, h4 = ah_si h1 82 21 x1 → (∀ h7, h7 = ah_si h4 94 (Int32.toNatClampNeg 0) (ah_i h4 84 (Int32.toNatClampNeg 246)) → (∀ h10, h10 = ah_si h7 94 (Int32.toNatClampNeg 1) (ah_i h7 84 (Int32.toNatClampNeg 247)) → (∀ h13, h13 = ah_si h10 94 (Int32.toNatClampNeg 2) (ah_i h10 82 71) → (∀ h16, h16 = ah_si h13 94 (Int32.toNatClampNeg 3) (ah_i h13 82 70) → (∀ h19, h19 = ah_si h16 94 (Int32.toNatClampNeg 4) x2 → (∀ h22, h22 = ah_si h19 82 20 (ah_i h19 82 67) → ((¬ (ah_i h22 82 21) ≤ (ah_i h22 82 20) → vp_in (260 + (ah_i h22 82 20)) (ah_n h22 84))) ∧ (∀ h26, h26 = ah_si h22 82 69 (f_X12_codeAt h22 (ah_i h22 82 20)) → (∀ h29, h29 = ah_si h26 82 20 ((ah_i h26 82 20) + 1) → (∀ h32, h32 = ah_si h29 82 72 1 → (Mt mX12_nextSum [.ref 82, .int 0, .int x3] h32 (ab_qv fun h35 => Sh h35 ∧ (∀ h38, h38 = ah_si h35 82 20 ((ah_i h35 82 20) + 1) → (Mt mX12_nextSum [.ref 82, .int 1, .int x3] h38 (ab_qv fun h41 => Sh h41 ∧ (Mt mX12_passes0 [.ref 82, .int 24] h41 (ab_qi fun v46 h44 => Sh h44 ∧ (ab_b v46) ∧ (∀ h48, h48 = ah_si h44 82 74 v46 → (∀ h51, h51 = ah_sl h48 121 (Int32.toNatClampNeg 2) (0 : Int64) → (((ah_i h51 82 74) = 0 → Wp mX12_goesAlong Q 0 0 152 [some (.ref 82), none, none, some (.int x3)] [] h51) ∧ (¬ (ah_i h51 82 74) = 0 → (Mt mX12_nextSum [.ref 82, .int 2, .int x3] h51 (ab_qv fun h55 => Sh h55 ∧ Wp mX12_goesAlong Q 0 0 152 [some (.ref 82), none, none, some (.int x3)] [] h55))))))))))))))))))))))))) : Mt mX12_goesAlong [.ref 82, .int x1, .int x2, .int x3] h Q := by
  refine Mt.ofWp rfl (by exact (Nat.le_of_ble_eq_true rfl)) (Wp.fewer (L' := [some (.ref 82), some (.int x1), some (.int x2), some (.int x3)]) (show ab_leL _ _ from ⟨rfl, ⟨rfl, ⟨rfl, ⟨rfl, trivial⟩⟩⟩⟩) ?_)
  refine ab_aload_n (i := 0) dX12_goesAlong_0 rfl rfl ?_
  refine ab_iconst (v := 1) dX12_goesAlong_1 (by decide) ?_
  refine ab_putI f_X12_339 (Or.inl rfl) rfl (sh_k hs 82 12 (by decide) rfl) rfl rfl dX12_goesAlong_2 ?_
  refine Wp.nm fun h1 e2 => ?_
  have ht := ht h1 e2
  have hs3 : Sh h1 := by rw [e2]; exact sh_si hs
  refine ab_aload_n (i := 0) dX12_goesAlong_5 rfl rfl ?_
  refine ab_iload_n (i := 1) dX12_goesAlong_6 rfl rfl ?_
  refine ab_putI f_X12_306 (Or.inl rfl) rfl (sh_k hs3 82 12 (by decide) rfl) rfl rfl dX12_goesAlong_7 ?_
  refine Wp.nm fun h4 e5 => ?_
  have ht := ht h4 e5
  have hs6 : Sh h4 := by rw [e5]; exact sh_si hs3
  refine ab_aload_n (i := 0) dX12_goesAlong_10 rfl rfl ?_
  refine ab_getR (b := 94) f_X12_55 rfl (sh_k hs6 82 12 (by decide) rfl) (sh_r hs6 110 rfl) dX12_goesAlong_11 ?_
  refine ab_iconst (v := 0) dX12_goesAlong_14 (by decide) ?_
  refine ab_aload_n (i := 0) dX12_goesAlong_15 rfl rfl ?_
  refine ab_getR (b := 84) f_X12_20 rfl (sh_k hs6 82 12 (by decide) rfl) (sh_r hs6 100 rfl) dX12_goesAlong_16 ?_
  refine ab_sipush (v := 246) dX12_goesAlong_19 (by decide) ?_
  refine ab_iald (sh_k hs6 84 14 (by decide) rfl) (sh_in hs6 84 5860 (by decide) (by decide) rfl (by unfold vp_in; decide)) dX12_goesAlong_22 ?_
  refine ab_iast (sh_k hs6 94 14 (by decide) rfl) (sh_in hs6 94 5 (by decide) (by decide) rfl (by unfold vp_in; decide)) dX12_goesAlong_23 ?_
  refine Wp.nm fun h7 e8 => ?_
  have ht := ht h7 e8
  have hs9 : Sh h7 := by rw [e8]; exact sh_si hs6
  refine ab_aload_n (i := 0) dX12_goesAlong_24 rfl rfl ?_
  refine ab_getR (b := 94) f_X12_55 rfl (sh_k hs9 82 12 (by decide) rfl) (sh_r hs9 110 rfl) dX12_goesAlong_25 ?_
  refine ab_iconst (v := 1) dX12_goesAlong_28 (by decide) ?_
  refine ab_aload_n (i := 0) dX12_goesAlong_29 rfl rfl ?_
  refine ab_getR (b := 84) f_X12_20 rfl (sh_k hs9 82 12 (by decide) rfl) (sh_r hs9 100 rfl) dX12_goesAlong_30 ?_
  refine ab_sipush (v := 247) dX12_goesAlong_33 (by decide) ?_
  refine ab_iald (sh_k hs9 84 14 (by decide) rfl) (sh_in hs9 84 5860 (by decide) (by decide) rfl (by unfold vp_in; decide)) dX12_goesAlong_36 ?_
  refine ab_iast (sh_k hs9 94 14 (by decide) rfl) (sh_in hs9 94 5 (by decide) (by decide) rfl (by unfold vp_in; decide)) dX12_goesAlong_37 ?_
  refine Wp.nm fun h10 e11 => ?_
  have ht := ht h10 e11
  have hs12 : Sh h10 := by rw [e11]; exact sh_si hs9
  refine ab_aload_n (i := 0) dX12_goesAlong_38 rfl rfl ?_
  refine ab_getR (b := 94) f_X12_55 rfl (sh_k hs12 82 12 (by decide) rfl) (sh_r hs12 110 rfl) dX12_goesAlong_39 ?_
  refine ab_iconst (v := 2) dX12_goesAlong_42 (by decide) ?_
  refine ab_aload_n (i := 0) dX12_goesAlong_43 rfl rfl ?_
  refine ab_getI f_X12_504 rfl (sh_k hs12 82 12 (by decide) rfl) dX12_goesAlong_44 ?_
  refine ab_iast (sh_k hs12 94 14 (by decide) rfl) (sh_in hs12 94 5 (by decide) (by decide) rfl (by unfold vp_in; decide)) dX12_goesAlong_47 ?_
  refine Wp.nm fun h13 e14 => ?_
  have ht := ht h13 e14
  have hs15 : Sh h13 := by rw [e14]; exact sh_si hs12
  refine ab_aload_n (i := 0) dX12_goesAlong_48 rfl rfl ?_
  refine ab_getR (b := 94) f_X12_55 rfl (sh_k hs15 82 12 (by decide) rfl) (sh_r hs15 110 rfl) dX12_goesAlong_49 ?_
  refine ab_iconst (v := 3) dX12_goesAlong_52 (by decide) ?_
  refine ab_aload_n (i := 0) dX12_goesAlong_53 rfl rfl ?_
  refine ab_getI f_X12_501 rfl (sh_k hs15 82 12 (by decide) rfl) dX12_goesAlong_54 ?_
  refine ab_iast (sh_k hs15 94 14 (by decide) rfl) (sh_in hs15 94 5 (by decide) (by decide) rfl (by unfold vp_in; decide)) dX12_goesAlong_57 ?_
  refine Wp.nm fun h16 e17 => ?_
  have ht := ht h16 e17
  have hs18 : Sh h16 := by rw [e17]; exact sh_si hs15
  refine ab_aload_n (i := 0) dX12_goesAlong_58 rfl rfl ?_
  refine ab_getR (b := 94) f_X12_55 rfl (sh_k hs18 82 12 (by decide) rfl) (sh_r hs18 110 rfl) dX12_goesAlong_59 ?_
  refine ab_iconst (v := 4) dX12_goesAlong_62 (by decide) ?_
  refine ab_iload_n (i := 2) dX12_goesAlong_63 rfl rfl ?_
  refine ab_iast (sh_k hs18 94 14 (by decide) rfl) (sh_in hs18 94 5 (by decide) (by decide) rfl (by unfold vp_in; decide)) dX12_goesAlong_64 ?_
  refine Wp.nm fun h19 e20 => ?_
  have ht := ht h19 e20
  have hs21 : Sh h19 := by rw [e20]; exact sh_si hs18
  refine ab_aload_n (i := 0) dX12_goesAlong_65 rfl rfl ?_
  refine ab_aload_n (i := 0) dX12_goesAlong_66 rfl rfl ?_
  refine ab_getI f_X12_507 rfl (sh_k hs21 82 12 (by decide) rfl) dX12_goesAlong_67 ?_
  refine ab_putI f_X12_309 (Or.inl rfl) rfl (sh_k hs21 82 12 (by decide) rfl) rfl rfl dX12_goesAlong_70 ?_
  refine Wp.nm fun h22 e23 => ?_
  have ht := ht h22 e23
  have hs24 : Sh h22 := by rw [e23]; exact sh_si hs21
  refine ab_aload_n (i := 0) dX12_goesAlong_73 rfl rfl ?_
  refine ab_aload_n (i := 0) dX12_goesAlong_74 rfl rfl ?_
  refine ab_aload_n (i := 0) dX12_goesAlong_75 rfl rfl ?_
  refine ab_getI f_X12_309 rfl (sh_k hs24 82 12 (by decide) rfl) dX12_goesAlong_76 ?_
  obtain ⟨hc25, ht⟩ := ht
  refine ab_callV (b := 82) (Q' := fun r h' => r = some (.int (f_X12_codeAt h22 (ah_i h22 82 20))) ∧ h22 = h') (As := [.int (ah_i h22 82 20)]) (c_X12_codeAt hs24 (ah_i h22 82 20)  hc25 ⟨rfl, rfl⟩) (Y_X12_codeAt) l_X12_312 in_X12_codeAt se_X12_codeAt (sh_k hs24 82 12 (by decide) rfl) (by decide) rfl rfl ⟨(Nat.le_of_ble_eq_true rfl), (Nat.le_of_ble_eq_true rfl), (Nat.le_of_ble_eq_true rfl), (Nat.le_of_ble_eq_true rfl)⟩ dX12_goesAlong_79 ?_
  rintro _ _ ⟨rfl, rfl⟩
  refine ab_putI f_X12_513 (Or.inl rfl) rfl (sh_k hs24 82 12 (by decide) rfl) rfl rfl dX12_goesAlong_82 ?_
  refine Wp.nm fun h26 e27 => ?_
  have ht := ht h26 e27
  have hs28 : Sh h26 := by rw [e27]; exact sh_si hs24
  refine ab_aload_n (i := 0) dX12_goesAlong_85 rfl rfl ?_
  refine ab_dup dX12_goesAlong_86 rfl ?_
  refine ab_getI f_X12_309 rfl (sh_k hs28 82 12 (by decide) rfl) dX12_goesAlong_87 ?_
  refine ab_iconst (v := 1) dX12_goesAlong_90 (by decide) ?_
  refine ab_iadd dX12_goesAlong_91 ?_
  refine ab_putI f_X12_309 (Or.inl rfl) rfl (sh_k hs28 82 12 (by decide) rfl) rfl rfl dX12_goesAlong_92 ?_
  refine Wp.nm fun h29 e30 => ?_
  have ht := ht h29 e30
  have hs31 : Sh h29 := by rw [e30]; exact sh_si hs28
  refine ab_aload_n (i := 0) dX12_goesAlong_95 rfl rfl ?_
  refine ab_iconst (v := 1) dX12_goesAlong_96 (by decide) ?_
  refine ab_putI f_X12_516 (Or.inl rfl) rfl (sh_k hs31 82 12 (by decide) rfl) rfl rfl dX12_goesAlong_97 ?_
  refine Wp.nm fun h32 e33 => ?_
  have ht := ht h32 e33
  have hs34 : Sh h32 := by rw [e33]; exact sh_si hs31
  refine ab_aload_n (i := 0) dX12_goesAlong_100 rfl rfl ?_
  refine ab_iconst (v := 0) dX12_goesAlong_101 (by decide) ?_
  refine ab_iload_n (i := 3) dX12_goesAlong_102 rfl rfl ?_
  refine ab_callV (b := 82) (As := [.int 0, .int x3]) ht (Y_X12_nextSum) l_X12_519 in_X12_nextSum se_X12_nextSum (sh_k hs34 82 12 (by decide) rfl) (by decide) rfl rfl ⟨(Nat.le_of_ble_eq_true rfl), (Nat.le_of_ble_eq_true rfl), (Nat.le_of_ble_eq_true rfl), (Nat.le_of_ble_eq_true rfl)⟩ dX12_goesAlong_103 ?_
  rintro _ h35 ⟨rfl, hs36, ht⟩
  refine ab_aload_n (i := 0) dX12_goesAlong_106 rfl rfl ?_
  refine ab_dup dX12_goesAlong_107 rfl ?_
  refine ab_getI f_X12_309 rfl (sh_k hs36 82 12 (by decide) rfl) dX12_goesAlong_108 ?_
  refine ab_iconst (v := 1) dX12_goesAlong_111 (by decide) ?_
  refine ab_iadd dX12_goesAlong_112 ?_
  refine ab_putI f_X12_309 (Or.inl rfl) rfl (sh_k hs36 82 12 (by decide) rfl) rfl rfl dX12_goesAlong_113 ?_
  refine Wp.nm fun h38 e39 => ?_
  have ht := ht h38 e39
  have hs40 : Sh h38 := by rw [e39]; exact sh_si hs36
  refine ab_aload_n (i := 0) dX12_goesAlong_116 rfl rfl ?_
  refine ab_iconst (v := 1) dX12_goesAlong_117 (by decide) ?_
  refine ab_iload_n (i := 3) dX12_goesAlong_118 rfl rfl ?_
  refine ab_callV (b := 82) (As := [.int 1, .int x3]) ht (Y_X12_nextSum) l_X12_519 in_X12_nextSum se_X12_nextSum (sh_k hs40 82 12 (by decide) rfl) (by decide) rfl rfl ⟨(Nat.le_of_ble_eq_true rfl), (Nat.le_of_ble_eq_true rfl), (Nat.le_of_ble_eq_true rfl), (Nat.le_of_ble_eq_true rfl)⟩ dX12_goesAlong_119 ?_
  rintro _ h41 ⟨rfl, hs42, ht⟩
  refine ab_aload_n (i := 0) dX12_goesAlong_122 rfl rfl ?_
  refine ab_aload_n (i := 0) dX12_goesAlong_123 rfl rfl ?_
  refine ab_bipush (v := 24) dX12_goesAlong_124 (by decide) ?_
  refine ab_callV (b := 82) (As := [.int 24]) ht (Y_X12_passes0) l_X12_333 in_X12_passes0 se_X12_passes0 (sh_k hs42 82 12 (by decide) rfl) (by decide) rfl rfl ⟨(Nat.le_of_ble_eq_true rfl), (Nat.le_of_ble_eq_true rfl), (Nat.le_of_ble_eq_true rfl), (Nat.le_of_ble_eq_true rfl)⟩ dX12_goesAlong_126 ?_
  rintro _ h44 ⟨v46, rfl, hs45, ht⟩
  obtain ⟨hc47, ht⟩ := ht
  refine ab_putI f_X12_523 (Or.inl rfl) rfl (sh_k hs45 82 12 (by decide) rfl) (ab_b_nar hc47) (ab_b_fit hc47) dX12_goesAlong_129 ?_
  refine Wp.nm fun h48 e49 => ?_
  have ht := ht h48 e49
  have hs50 : Sh h48 := by rw [e49]; exact sh_si hs45
  refine ab_aload_n (i := 0) dX12_goesAlong_132 rfl rfl ?_
  refine ab_getR (b := 121) f_X12_149 rfl (sh_k hs50 82 12 (by decide) rfl) (sh_r hs50 137 rfl) dX12_goesAlong_133 ?_
  refine ab_iconst (v := 2) dX12_goesAlong_136 (by decide) ?_
  refine ab_lconst (v := 0) dX12_goesAlong_137 (by decide) ?_
  refine ab_last (sh_k hs50 121 15 (by decide) rfl) (sh_in hs50 121 3 (by decide) (by decide) rfl (by unfold vp_in; decide)) dX12_goesAlong_138 ?_
  refine Wp.nm fun h51 e52 => ?_
  have ht := ht h51 e52
  have hs53 : Sh h51 := by rw [e52]; exact sh_sl hs50
  refine ab_aload_n (i := 0) dX12_goesAlong_139 rfl rfl ?_
  refine ab_getI f_X12_523 rfl (sh_k hs53 82 12 (by decide) rfl) dX12_goesAlong_140 ?_
  refine ab_if_eq (tgt := 152) dX12_goesAlong_143 (by decide) (fun c54 => ?_) (fun c54 => ?_)
  · have ht := ht.1 c54
    exact Wp.fewer (L' := [some (.ref 82), none, none, some (.int x3)]) (show ab_leL _ _ from ⟨rfl, ⟨rfl, trivial⟩⟩) ht
  · have ht := ht.2 c54
    refine ab_aload_n (i := 0) dX12_goesAlong_146 rfl rfl ?_
    refine ab_iconst (v := 2) dX12_goesAlong_147 (by decide) ?_
    refine ab_iload_n (i := 3) dX12_goesAlong_148 rfl rfl ?_
    refine ab_callV (b := 82) (As := [.int 2, .int x3]) ht (Y_X12_nextSum) l_X12_519 in_X12_nextSum se_X12_nextSum (sh_k hs53 82 12 (by decide) rfl) (by decide) rfl rfl ⟨(Nat.le_of_ble_eq_true rfl), (Nat.le_of_ble_eq_true rfl), (Nat.le_of_ble_eq_true rfl), (Nat.le_of_ble_eq_true rfl)⟩ dX12_goesAlong_149 ?_
    rintro _ h55 ⟨rfl, hs56, ht⟩
    exact Wp.fewer (L' := [some (.ref 82), none, none, some (.int x3)]) (show ab_leL _ _ from ⟨rfl, ⟨rfl, trivial⟩⟩) ht
theorem dX12_nextSum_0 : decode cX12_nextSum 0 = .ok (.aload_n 0, 1) := by decide +kernel
theorem dX12_nextSum_1 : decode cX12_nextSum 1 = .ok (.iconst 0, 1) := by decide +kernel
theorem dX12_nextSum_2 : decode cX12_nextSum 2 = .ok (.putfield 319, 3) := by decide +kernel
theorem dX12_nextSum_5 : decode cX12_nextSum 5 = .ok (.aload_n 0, 1) := by decide +kernel
theorem dX12_nextSum_6 : decode cX12_nextSum 6 = .ok (.getfield 149, 3) := by decide +kernel
theorem dX12_nextSum_9 : decode cX12_nextSum 9 = .ok (.iload_n 1, 1) := by decide +kernel
theorem dX12_nextSum_10 : decode cX12_nextSum 10 = .ok (.aload_n 0, 1) := by decide +kernel
theorem dX12_nextSum_11 : decode cX12_nextSum 11 = .ok (.iload_n 2, 1) := by decide +kernel
theorem dX12_nextSum_12 : decode cX12_nextSum 12 = .ok (.invokevirtual 336, 3) := by decide +kernel
theorem dX12_nextSum_15 : decode cX12_nextSum 15 = .ok (.lastore, 1) := by decide +kernel
theorem dX12_nextSum_16 : decode cX12_nextSum 16 = .ok (.aload_n 0, 1) := by decide +kernel
theorem dX12_nextSum_17 : decode cX12_nextSum 17 = .ok (.aload_n 0, 1) := by decide +kernel
theorem dX12_nextSum_18 : decode cX12_nextSum 18 = .ok (.getfield 516, 3) := by decide +kernel
theorem dX12_nextSum_21 : decode cX12_nextSum 21 = .ok (.ifCond .eq 14, 3) := by decide +kernel
theorem dX12_nextSum_24 : decode cX12_nextSum 24 = .ok (.aload_n 0, 1) := by decide +kernel
theorem dX12_nextSum_25 : decode cX12_nextSum 25 = .ok (.getfield 319, 3) := by decide +kernel
theorem dX12_nextSum_28 : decode cX12_nextSum 28 = .ok (.ifCond .ne 7, 3) := by decide +kernel
theorem dX12_nextSum_31 : decode cX12_nextSum 31 = .ok (.iconst 1, 1) := by decide +kernel
theorem dX12_nextSum_32 : decode cX12_nextSum 32 = .ok (.goto 4, 3) := by decide +kernel
theorem dX12_nextSum_35 : decode cX12_nextSum 35 = .ok (.iconst 0, 1) := by decide +kernel
theorem dX12_nextSum_36 : decode cX12_nextSum 36 = .ok (.putfield 516, 3) := by decide +kernel
theorem dX12_nextSum_39 : decode cX12_nextSum 39 = .ok (.return_, 1) := by decide +kernel
set_option maxRecDepth 20000 in
theorem T_X12_nextSum {Q : Option Value → ah_T → Prop} {h : ah_T} (hs : Sh h) (x1 : Int32) (x2 : Int32) (ht : (∀ h1, h1 = ah_si h 82 22 0 → (Mt (mX12_sumOf 60) [.ref 82, .int x2] h1 (ab_ql fun v6 h4 => Sh h4 ∧ (vp_in x1 (ah_n h4 121)) ∧ (∀ h8, h8 = ah_sl h4 121 (Int32.toNatClampNeg x1) v6 → (((ah_i h8 82 72) = 0 → (∀ h12, h12 = ah_si h8 82 72 0 → Q none h12)) ∧ (¬ (ah_i h8 82 72) = 0 → ((¬ (ah_i h8 82 22) = 0 → (∀ h16, h16 = ah_si h8 82 72 0 → Q none h16)) ∧ ((ah_i h8 82 22) = 0 → (∀ h19, h19 = ah_si h8 82 72 1 → Q none h19)))))))))) : Mt mX12_nextSum [.ref 82, .int x1, .int x2] h Q := by
  refine Mt.ofWp rfl (by exact (Nat.le_of_ble_eq_true rfl)) (Wp.fewer (L' := [some (.ref 82), some (.int x1), some (.int x2)]) (show ab_leL _ _ from ⟨rfl, ⟨rfl, ⟨rfl, trivial⟩⟩⟩) ?_)
  refine ab_aload_n (i := 0) dX12_nextSum_0 rfl rfl ?_
  refine ab_iconst (v := 0) dX12_nextSum_1 (by decide) ?_
  refine ab_putI f_X12_319 (Or.inl rfl) rfl (sh_k hs 82 12 (by decide) rfl) rfl rfl dX12_nextSum_2 ?_
  refine Wp.nm fun h1 e2 => ?_
  have ht := ht h1 e2
  have hs3 : Sh h1 := by rw [e2]; exact sh_si hs
  refine ab_aload_n (i := 0) dX12_nextSum_5 rfl rfl ?_
  refine ab_getR (b := 121) f_X12_149 rfl (sh_k hs3 82 12 (by decide) rfl) (sh_r hs3 137 rfl) dX12_nextSum_6 ?_
  refine ab_iload_n (i := 1) dX12_nextSum_9 rfl rfl ?_
  refine ab_aload_n (i := 0) dX12_nextSum_10 rfl rfl ?_
  refine ab_iload_n (i := 2) dX12_nextSum_11 rfl rfl ?_
  refine ab_callV (b := 82) (As := [.int x2]) ht (Y_X12_sumOf _) l_X12_336 in_X12_sumOf se_X12_sumOf (sh_k hs3 82 12 (by decide) rfl) (by decide) rfl rfl ⟨(Nat.le_of_ble_eq_true rfl), (Nat.le_of_ble_eq_true rfl), (Nat.le_of_ble_eq_true rfl), (Nat.le_of_ble_eq_true rfl)⟩ dX12_nextSum_12 ?_
  rintro _ h4 ⟨v6, rfl, hs5, ht⟩
  obtain ⟨hc7, ht⟩ := ht
  refine ab_last (sh_k hs5 121 15 (by decide) rfl) hc7 dX12_nextSum_15 ?_
  refine Wp.nm fun h8 e9 => ?_
  have ht := ht h8 e9
  have hs10 : Sh h8 := by rw [e9]; exact sh_sl hs5
  refine ab_aload_n (i := 0) dX12_nextSum_16 rfl rfl ?_
  refine ab_aload_n (i := 0) dX12_nextSum_17 rfl rfl ?_
  refine ab_getI f_X12_516 rfl (sh_k hs10 82 12 (by decide) rfl) dX12_nextSum_18 ?_
  refine ab_if_eq (tgt := 35) dX12_nextSum_21 (by decide) (fun c11 => ?_) (fun c11 => ?_)
  · have ht := ht.1 c11
    refine ab_iconst (v := 0) dX12_nextSum_35 (by decide) ?_
    refine ab_putI f_X12_516 (Or.inl rfl) rfl (sh_k hs10 82 12 (by decide) rfl) rfl rfl dX12_nextSum_36 ?_
    refine Wp.nm fun h12 e13 => ?_
    have ht := ht h12 e13
    have hs14 : Sh h12 := by rw [e13]; exact sh_si hs10
    exact ab_vret rfl dX12_nextSum_39 (Nat.le_of_ble_eq_true rfl) (Nat.le_of_ble_eq_true rfl) ht
  · have ht := ht.2 c11
    refine ab_aload_n (i := 0) dX12_nextSum_24 rfl rfl ?_
    refine ab_getI f_X12_319 rfl (sh_k hs10 82 12 (by decide) rfl) dX12_nextSum_25 ?_
    refine ab_if_ne (tgt := 35) dX12_nextSum_28 (by decide) (fun c15 => ?_) (fun c15 => ?_)
    · have ht := ht.1 c15
      refine ab_iconst (v := 0) dX12_nextSum_35 (by decide) ?_
      refine ab_putI f_X12_516 (Or.inl rfl) rfl (sh_k hs10 82 12 (by decide) rfl) rfl rfl dX12_nextSum_36 ?_
      refine Wp.nm fun h16 e17 => ?_
      have ht := ht h16 e17
      have hs18 : Sh h16 := by rw [e17]; exact sh_si hs10
      exact ab_vret rfl dX12_nextSum_39 (Nat.le_of_ble_eq_true rfl) (Nat.le_of_ble_eq_true rfl) ht
    · have ht := ht.2 c15
      refine ab_iconst (v := 1) dX12_nextSum_31 (by decide) ?_
      refine ab_goto (tgt := 36) dX12_nextSum_32 (by decide) ?_
      refine ab_putI f_X12_516 (Or.inl rfl) rfl (sh_k hs10 82 12 (by decide) rfl) rfl rfl dX12_nextSum_36 ?_
      refine Wp.nm fun h19 e20 => ?_
      have ht := ht h19 e20
      have hs21 : Sh h19 := by rw [e20]; exact sh_si hs10
      exact ab_vret rfl dX12_nextSum_39 (Nat.le_of_ble_eq_true rfl) (Nat.le_of_ble_eq_true rfl) ht
theorem dX12_runs_0 : decode cX12_runs 0 = .ok (.aload_n 0, 1) := by decide +kernel
theorem dX12_runs_1 : decode cX12_runs 1 = .ok (.iload_n 1, 1) := by decide +kernel
theorem dX12_runs_2 : decode cX12_runs 2 = .ok (.iconst 0, 1) := by decide +kernel
theorem dX12_runs_3 : decode cX12_runs 3 = .ok (.iconst 0, 1) := by decide +kernel
theorem dX12_runs_4 : decode cX12_runs 4 = .ok (.invokevirtual 534, 3) := by decide +kernel
theorem dX12_runs_7 : decode cX12_runs 7 = .ok (.aload_n 0, 1) := by decide +kernel
theorem dX12_runs_8 : decode cX12_runs 8 = .ok (.getfield 526, 3) := by decide +kernel
theorem dX12_runs_11 : decode cX12_runs 11 = .ok (.istore_n 2, 1) := by decide +kernel
theorem dX12_runs_12 : decode cX12_runs 12 = .ok (.aload_n 0, 1) := by decide +kernel
theorem dX12_runs_13 : decode cX12_runs 13 = .ok (.getfield 309, 3) := by decide +kernel
theorem dX12_runs_16 : decode cX12_runs 16 = .ok (.istore_n 3, 1) := by decide +kernel
theorem dX12_runs_17 : decode cX12_runs 17 = .ok (.iconst 0, 1) := by decide +kernel
theorem dX12_runs_18 : decode cX12_runs 18 = .ok (.istore 4, 2) := by decide +kernel
theorem dX12_runs_20 : decode cX12_runs 20 = .ok (.iconst 0, 1) := by decide +kernel
theorem dX12_runs_21 : decode cX12_runs 21 = .ok (.istore 5, 2) := by decide +kernel
theorem dX12_runs_23 : decode cX12_runs 23 = .ok (.iload 5, 2) := by decide +kernel
theorem dX12_runs_25 : decode cX12_runs 25 = .ok (.iload_n 2, 1) := by decide +kernel
theorem dX12_runs_26 : decode cX12_runs 26 = .ok (.if_icmp .ge 117, 3) := by decide +kernel
theorem dX12_runs_29 : decode cX12_runs 29 = .ok (.aload_n 0, 1) := by decide +kernel
theorem dX12_runs_30 : decode cX12_runs 30 = .ok (.iload_n 1, 1) := by decide +kernel
theorem dX12_runs_31 : decode cX12_runs 31 = .ok (.iload 4, 2) := by decide +kernel
theorem dX12_runs_33 : decode cX12_runs 33 = .ok (.iconst 1, 1) := by decide +kernel
theorem dX12_runs_34 : decode cX12_runs 34 = .ok (.invokevirtual 534, 3) := by decide +kernel
theorem dX12_runs_37 : decode cX12_runs 37 = .ok (.aload_n 0, 1) := by decide +kernel
theorem dX12_runs_38 : decode cX12_runs 38 = .ok (.getfield 529, 3) := by decide +kernel
theorem dX12_runs_41 : decode cX12_runs 41 = .ok (.ifCond .ne 6, 3) := by decide +kernel
theorem dX12_runs_44 : decode cX12_runs 44 = .ok (.goto 93, 3) := by decide +kernel
theorem dX12_runs_47 : decode cX12_runs 47 = .ok (.aload_n 0, 1) := by decide +kernel
theorem dX12_runs_48 : decode cX12_runs 48 = .ok (.getfield 516, 3) := by decide +kernel
theorem dX12_runs_51 : decode cX12_runs 51 = .ok (.ifCond .ne 6, 3) := by decide +kernel
theorem dX12_runs_54 : decode cX12_runs 54 = .ok (.bipush (-3), 2) := by decide +kernel
theorem dX12_runs_56 : decode cX12_runs 56 = .ok (.ireturn, 1) := by decide +kernel
theorem dX12_runs_57 : decode cX12_runs 57 = .ok (.aload_n 0, 1) := by decide +kernel
theorem dX12_runs_58 : decode cX12_runs 58 = .ok (.getfield 149, 3) := by decide +kernel
theorem dX12_runs_61 : decode cX12_runs 61 = .ok (.iconst 1, 1) := by decide +kernel
theorem dX12_runs_62 : decode cX12_runs 62 = .ok (.laload, 1) := by decide +kernel
theorem dX12_runs_63 : decode cX12_runs 63 = .ok (.aload_n 0, 1) := by decide +kernel
theorem dX12_runs_64 : decode cX12_runs 64 = .ok (.getfield 149, 3) := by decide +kernel
theorem dX12_runs_67 : decode cX12_runs 67 = .ok (.iconst 2, 1) := by decide +kernel
theorem dX12_runs_68 : decode cX12_runs 68 = .ok (.laload, 1) := by decide +kernel
theorem dX12_runs_69 : decode cX12_runs 69 = .ok (.iload 4, 2) := by decide +kernel
theorem dX12_runs_71 : decode cX12_runs 71 = .ok (.i2l, 1) := by decide +kernel
theorem dX12_runs_72 : decode cX12_runs 72 = .ok (.lmul, 1) := by decide +kernel
theorem dX12_runs_73 : decode cX12_runs 73 = .ok (.ladd, 1) := by decide +kernel
theorem dX12_runs_74 : decode cX12_runs 74 = .ok (.invokestatic 538, 3) := by decide +kernel
theorem dX12_runs_77 : decode cX12_runs 77 = .ok (.istore 6, 2) := by decide +kernel
theorem dX12_runs_79 : decode cX12_runs 79 = .ok (.aload_n 0, 1) := by decide +kernel
theorem dX12_runs_80 : decode cX12_runs 80 = .ok (.aload_n 0, 1) := by decide +kernel
theorem dX12_runs_81 : decode cX12_runs 81 = .ok (.getfield 149, 3) := by decide +kernel
theorem dX12_runs_84 : decode cX12_runs 84 = .ok (.iconst 0, 1) := by decide +kernel
theorem dX12_runs_85 : decode cX12_runs 85 = .ok (.laload, 1) := by decide +kernel
theorem dX12_runs_86 : decode cX12_runs 86 = .ok (.invokestatic 538, 3) := by decide +kernel
theorem dX12_runs_89 : decode cX12_runs 89 = .ok (.iload 6, 2) := by decide +kernel
theorem dX12_runs_91 : decode cX12_runs 91 = .ok (.aload_n 0, 1) := by decide +kernel
theorem dX12_runs_92 : decode cX12_runs 92 = .ok (.getfield 513, 3) := by decide +kernel
theorem dX12_runs_95 : decode cX12_runs 95 = .ok (.bipush 21, 2) := by decide +kernel
theorem dX12_runs_97 : decode cX12_runs 97 = .ok (.if_icmp .ne 7, 3) := by decide +kernel
theorem dX12_runs_100 : decode cX12_runs 100 = .ok (.iconst 1, 1) := by decide +kernel
theorem dX12_runs_101 : decode cX12_runs 101 = .ok (.goto 4, 3) := by decide +kernel
theorem dX12_runs_104 : decode cX12_runs 104 = .ok (.iconst 0, 1) := by decide +kernel
theorem dX12_runs_105 : decode cX12_runs 105 = .ok (.invokevirtual 204, 3) := by decide +kernel
theorem dX12_runs_108 : decode cX12_runs 108 = .ok (.istore 7, 2) := by decide +kernel
theorem dX12_runs_110 : decode cX12_runs 110 = .ok (.iload 7, 2) := by decide +kernel
theorem dX12_runs_112 : decode cX12_runs 112 = .ok (.ifCond .ge 6, 3) := by decide +kernel
theorem dX12_runs_115 : decode cX12_runs 115 = .ok (.iload 7, 2) := by decide +kernel
theorem dX12_runs_117 : decode cX12_runs 117 = .ok (.ireturn, 1) := by decide +kernel
theorem dX12_runs_118 : decode cX12_runs 118 = .ok (.iinc 4 1, 3) := by decide +kernel
theorem dX12_runs_121 : decode cX12_runs 121 = .ok (.aload_n 0, 1) := by decide +kernel
theorem dX12_runs_122 : decode cX12_runs 122 = .ok (.dup, 1) := by decide +kernel
theorem dX12_runs_123 : decode cX12_runs 123 = .ok (.getfield 501, 3) := by decide +kernel
theorem dX12_runs_126 : decode cX12_runs 126 = .ok (.iconst 1, 1) := by decide +kernel
theorem dX12_runs_127 : decode cX12_runs 127 = .ok (.iadd, 1) := by decide +kernel
theorem dX12_runs_128 : decode cX12_runs 128 = .ok (.putfield 501, 3) := by decide +kernel
theorem dX12_runs_131 : decode cX12_runs 131 = .ok (.aload_n 0, 1) := by decide +kernel
theorem dX12_runs_132 : decode cX12_runs 132 = .ok (.iload 6, 2) := by decide +kernel
theorem dX12_runs_134 : decode cX12_runs 134 = .ok (.putfield 504, 3) := by decide +kernel
theorem dX12_runs_137 : decode cX12_runs 137 = .ok (.iinc 5 1, 3) := by decide +kernel
theorem dX12_runs_140 : decode cX12_runs 140 = .ok (.goto (-117), 3) := by decide +kernel
theorem dX12_runs_143 : decode cX12_runs 143 = .ok (.aload_n 0, 1) := by decide +kernel
theorem dX12_runs_144 : decode cX12_runs 144 = .ok (.iload_n 3, 1) := by decide +kernel
theorem dX12_runs_145 : decode cX12_runs 145 = .ok (.putfield 507, 3) := by decide +kernel
theorem dX12_runs_148 : decode cX12_runs 148 = .ok (.iconst 0, 1) := by decide +kernel
theorem dX12_runs_149 : decode cX12_runs 149 = .ok (.ireturn, 1) := by decide +kernel
set_option maxRecDepth 20000 in
theorem T_X12_runs_23 {Q : Option Value → ah_T → Prop} {h : ah_T} (hs : Sh h) (x1 : Int32) (x2 : Int32) (x3 : Int32) (x4 : Int32) (x5 : Int32) (ht : ((x2 ≤ x5 → (∀ h5, h5 = ah_si h 82 67 x3 → Q (some (.int 0)) h5)) ∧ (¬ x2 ≤ x5 → (Mt mX12_goesAlong [.ref 82, .int x1, .int x4, .int 1] h (ab_qv fun h8 => Sh h8 ∧ ((¬ (ah_i h8 82 73) = 0 → ((¬ (ah_i h8 82 72) = 0 → ((¬ (ah_i h8 82 69) = 21 → (Mt mX12_tellsSwitch [.ref 82, .int (f_X12_small (ah_l h8 121 (Int32.toNatClampNeg 0))), .int (f_X12_small ((ah_l h8 121 (Int32.toNatClampNeg 1)) + ((ah_l h8 121 (Int32.toNatClampNeg 2)) * (x4).toInt64))), .int 0] h8 (ab_qi fun v16 h14 => Sh h14 ∧ ((0 ≤ v16 → (∀ h18, h18 = ah_si h14 82 70 ((ah_i h14 82 70) + 1) → (∀ h21, h21 = ah_si h18 82 71 (f_X12_small ((ah_l h8 121 (Int32.toNatClampNeg 1)) + ((ah_l h8 121 (Int32.toNatClampNeg 2)) * (x4).toInt64))) → Wp mX12_runs Q 0 0 23 [some (.ref 82), some (.int x1), some (.int x2), some (.int x3), some (.int (x4 + 1)), some (.int (x5 + 1)), none, none] [] h21))) ∧ (¬ 0 ≤ v16 → Q (some (.int v16)) h14))))) ∧ ((ah_i h8 82 69) = 21 → (Mt mX12_tellsSwitch [.ref 82, .int (f_X12_small (ah_l h8 121 (Int32.toNatClampNeg 0))), .int (f_X12_small ((ah_l h8 121 (Int32.toNatClampNeg 1)) + ((ah_l h8 121 (Int32.toNatClampNeg 2)) * (x4).toInt64))), .int 1] h8 (ab_qi fun v26 h24 => Sh h24 ∧ ((0 ≤ v26 → (∀ h28, h28 = ah_si h24 82 70 ((ah_i h24 82 70) + 1) → (∀ h31, h31 = ah_si h28 82 71 (f_X12_small ((ah_l h8 121 (Int32.toNatClampNeg 1)) + ((ah_l h8 121 (Int32.toNatClampNeg 2)) * (x4).toInt64))) → Wp mX12_runs Q 0 0 23 [some (.ref 82), some (.int x1), some (.int x2), some (.int x3), some (.int (x4 + 1)), some (.int (x5 + 1)), none, none] [] h31))) ∧ (¬ 0 ≤ v26 → Q (some (.int v26)) h24))))))) ∧ ((ah_i h8 82 72) = 0 → Q (some (.int (-3))) h8))) ∧ ((ah_i h8 82 73) = 0 → Wp mX12_runs Q 0 0 23 [some (.ref 82), some (.int x1), some (.int x2), some (.int x3), some (.int x4), some (.int (x5 + 1)), none, none] [] h8))))))) : Wp mX12_runs Q 0 0 23 [some (.ref 82), some (.int x1), some (.int x2), some (.int x3), some (.int x4), some (.int x5), none, none] [] h := by
  refine ab_iload (i := 5) dX12_runs_23 rfl ?_
  refine ab_iload_n (i := 2) dX12_runs_25 rfl rfl ?_
  refine ab_icmp_ge (tgt := 143) dX12_runs_26 (by decide) (fun c4 => ?_) (fun c4 => ?_)
  · have ht := ht.1 c4
    refine ab_aload_n (i := 0) dX12_runs_143 rfl rfl ?_
    refine ab_iload_n (i := 3) dX12_runs_144 rfl rfl ?_
    refine ab_putI f_X12_507 (Or.inl rfl) rfl (sh_k hs 82 12 (by decide) rfl) rfl rfl dX12_runs_145 ?_
    refine Wp.nm fun h5 e6 => ?_
    have ht := ht h5 e6
    have hs7 : Sh h5 := by rw [e6]; exact sh_si hs
    refine ab_iconst (v := 0) dX12_runs_148 (by decide) ?_
    exact ab_iret rfl dX12_runs_149 (Nat.le_of_ble_eq_true rfl) (Nat.le_of_ble_eq_true rfl) ht
  · have ht := ht.2 c4
    refine ab_aload_n (i := 0) dX12_runs_29 rfl rfl ?_
    refine ab_iload_n (i := 1) dX12_runs_30 rfl rfl ?_
    refine ab_iload (i := 4) dX12_runs_31 rfl ?_
    refine ab_iconst (v := 1) dX12_runs_33 (by decide) ?_
    refine ab_callV (b := 82) (As := [.int x1, .int x4, .int 1]) ht (Y_X12_goesAlong) l_X12_534 in_X12_goesAlong se_X12_goesAlong (sh_k hs 82 12 (by decide) rfl) (by decide) rfl rfl ⟨(Nat.le_of_ble_eq_true rfl), (Nat.le_of_ble_eq_true rfl), (Nat.le_of_ble_eq_true rfl), (Nat.le_of_ble_eq_true rfl)⟩ dX12_runs_34 ?_
    rintro _ h8 ⟨rfl, hs9, ht⟩
    refine ab_aload_n (i := 0) dX12_runs_37 rfl rfl ?_
    refine ab_getI f_X12_529 rfl (sh_k hs9 82 12 (by decide) rfl) dX12_runs_38 ?_
    refine ab_if_ne (tgt := 47) dX12_runs_41 (by decide) (fun c11 => ?_) (fun c11 => ?_)
    · have ht := ht.1 c11
      refine ab_aload_n (i := 0) dX12_runs_47 rfl rfl ?_
      refine ab_getI f_X12_516 rfl (sh_k hs9 82 12 (by decide) rfl) dX12_runs_48 ?_
      refine ab_if_ne (tgt := 57) dX12_runs_51 (by decide) (fun c12 => ?_) (fun c12 => ?_)
      · have ht := ht.1 c12
        refine ab_aload_n (i := 0) dX12_runs_57 rfl rfl ?_
        refine ab_getR (b := 121) f_X12_149 rfl (sh_k hs9 82 12 (by decide) rfl) (sh_r hs9 137 rfl) dX12_runs_58 ?_
        refine ab_iconst (v := 1) dX12_runs_61 (by decide) ?_
        refine ab_lald (sh_k hs9 121 15 (by decide) rfl) (sh_in hs9 121 3 (by decide) (by decide) rfl (by unfold vp_in; decide)) dX12_runs_62 ?_
        refine ab_aload_n (i := 0) dX12_runs_63 rfl rfl ?_
        refine ab_getR (b := 121) f_X12_149 rfl (sh_k hs9 82 12 (by decide) rfl) (sh_r hs9 137 rfl) dX12_runs_64 ?_
        refine ab_iconst (v := 2) dX12_runs_67 (by decide) ?_
        refine ab_lald (sh_k hs9 121 15 (by decide) rfl) (sh_in hs9 121 3 (by decide) (by decide) rfl (by unfold vp_in; decide)) dX12_runs_68 ?_
        refine ab_iload (i := 4) dX12_runs_69 rfl ?_
        refine ab_i2l dX12_runs_71 ?_
        refine ab_lmul dX12_runs_72 ?_
        refine ab_ladd dX12_runs_73 ?_
        refine ab_callS (Q' := fun r h' => r = some (.int (f_X12_small ((ah_l h8 121 (Int32.toNatClampNeg 1)) + ((ah_l h8 121 (Int32.toNatClampNeg 2)) * (x4).toInt64)))) ∧ h8 = h') (As := [.long ((ah_l h8 121 (Int32.toNatClampNeg 1)) + ((ah_l h8 121 (Int32.toNatClampNeg 2)) * (x4).toInt64))]) (c_X12_small hs9 ((ah_l h8 121 (Int32.toNatClampNeg 1)) + ((ah_l h8 121 (Int32.toNatClampNeg 2)) * (x4).toInt64)) ⟨rfl, rfl⟩) (Y_X12_small) l_X12_538 st_X12_small rfl ⟨(Nat.le_of_ble_eq_true rfl), (Nat.le_of_ble_eq_true rfl), (Nat.le_of_ble_eq_true rfl), (Nat.le_of_ble_eq_true rfl)⟩ dX12_runs_74 ?_
        rintro _ _ ⟨rfl, rfl⟩
        refine ab_istore (i := 6) (L' := [some (.ref 82), some (.int x1), some (.int x2), some (.int x3), some (.int x4), some (.int x5), some (.int (f_X12_small ((ah_l h8 121 (Int32.toNatClampNeg 1)) + ((ah_l h8 121 (Int32.toNatClampNeg 2)) * (x4).toInt64)))), none]) dX12_runs_77 (by exact (Nat.le_of_ble_eq_true rfl)) rfl rfl ?_
        refine ab_aload_n (i := 0) dX12_runs_79 rfl rfl ?_
        refine ab_aload_n (i := 0) dX12_runs_80 rfl rfl ?_
        refine ab_getR (b := 121) f_X12_149 rfl (sh_k hs9 82 12 (by decide) rfl) (sh_r hs9 137 rfl) dX12_runs_81 ?_
        refine ab_iconst (v := 0) dX12_runs_84 (by decide) ?_
        refine ab_lald (sh_k hs9 121 15 (by decide) rfl) (sh_in hs9 121 3 (by decide) (by decide) rfl (by unfold vp_in; decide)) dX12_runs_85 ?_
        refine ab_callS (Q' := fun r h' => r = some (.int (f_X12_small (ah_l h8 121 (Int32.toNatClampNeg 0)))) ∧ h8 = h') (As := [.long (ah_l h8 121 (Int32.toNatClampNeg 0))]) (c_X12_small hs9 (ah_l h8 121 (Int32.toNatClampNeg 0)) ⟨rfl, rfl⟩) (Y_X12_small) l_X12_538 st_X12_small rfl ⟨(Nat.le_of_ble_eq_true rfl), (Nat.le_of_ble_eq_true rfl), (Nat.le_of_ble_eq_true rfl), (Nat.le_of_ble_eq_true rfl)⟩ dX12_runs_86 ?_
        rintro _ _ ⟨rfl, rfl⟩
        refine ab_iload (i := 6) dX12_runs_89 rfl ?_
        refine ab_aload_n (i := 0) dX12_runs_91 rfl rfl ?_
        refine ab_getI f_X12_513 rfl (sh_k hs9 82 12 (by decide) rfl) dX12_runs_92 ?_
        refine ab_bipush (v := 21) dX12_runs_95 (by decide) ?_
        refine ab_icmp_ne (tgt := 104) dX12_runs_97 (by decide) (fun c13 => ?_) (fun c13 => ?_)
        · have ht := ht.1 c13
          refine ab_iconst (v := 0) dX12_runs_104 (by decide) ?_
          refine ab_callV (b := 82) (As := [.int (f_X12_small (ah_l h8 121 (Int32.toNatClampNeg 0))), .int (f_X12_small ((ah_l h8 121 (Int32.toNatClampNeg 1)) + ((ah_l h8 121 (Int32.toNatClampNeg 2)) * (x4).toInt64))), .int 0]) ht (Y_X12_tellsSwitch) l_X12_204 in_X12_tellsSwitch se_X12_tellsSwitch (sh_k hs9 82 12 (by decide) rfl) (by decide) rfl rfl ⟨(Nat.le_of_ble_eq_true rfl), (Nat.le_of_ble_eq_true rfl), (Nat.le_of_ble_eq_true rfl), (Nat.le_of_ble_eq_true rfl)⟩ dX12_runs_105 ?_
          rintro _ h14 ⟨v16, rfl, hs15, ht⟩
          refine ab_istore (i := 7) (L' := [some (.ref 82), some (.int x1), some (.int x2), some (.int x3), some (.int x4), some (.int x5), some (.int (f_X12_small ((ah_l h8 121 (Int32.toNatClampNeg 1)) + ((ah_l h8 121 (Int32.toNatClampNeg 2)) * (x4).toInt64)))), some (.int v16)]) dX12_runs_108 (by exact (Nat.le_of_ble_eq_true rfl)) rfl rfl ?_
          refine ab_iload (i := 7) dX12_runs_110 rfl ?_
          refine ab_if_ge (tgt := 118) dX12_runs_112 (by decide) (fun c17 => ?_) (fun c17 => ?_)
          · have ht := ht.1 c17
            refine ab_iinc (i := 4) (x := x4) (v := (x4 + 1)) (L' := [some (.ref 82), some (.int x1), some (.int x2), some (.int x3), some (.int (x4 + 1)), some (.int x5), some (.int (f_X12_small ((ah_l h8 121 (Int32.toNatClampNeg 1)) + ((ah_l h8 121 (Int32.toNatClampNeg 2)) * (x4).toInt64)))), some (.int v16)]) dX12_runs_118 rfl rfl (by exact (Nat.le_of_ble_eq_true rfl)) rfl rfl ?_
            refine ab_aload_n (i := 0) dX12_runs_121 rfl rfl ?_
            refine ab_dup dX12_runs_122 rfl ?_
            refine ab_getI f_X12_501 rfl (sh_k hs15 82 12 (by decide) rfl) dX12_runs_123 ?_
            refine ab_iconst (v := 1) dX12_runs_126 (by decide) ?_
            refine ab_iadd dX12_runs_127 ?_
            refine ab_putI f_X12_501 (Or.inl rfl) rfl (sh_k hs15 82 12 (by decide) rfl) rfl rfl dX12_runs_128 ?_
            refine Wp.nm fun h18 e19 => ?_
            have ht := ht h18 e19
            have hs20 : Sh h18 := by rw [e19]; exact sh_si hs15
            refine ab_aload_n (i := 0) dX12_runs_131 rfl rfl ?_
            refine ab_iload (i := 6) dX12_runs_132 rfl ?_
            refine ab_putI f_X12_504 (Or.inl rfl) rfl (sh_k hs20 82 12 (by decide) rfl) rfl rfl dX12_runs_134 ?_
            refine Wp.nm fun h21 e22 => ?_
            have ht := ht h21 e22
            have hs23 : Sh h21 := by rw [e22]; exact sh_si hs20
            refine ab_iinc (i := 5) (x := x5) (v := (x5 + 1)) (L' := [some (.ref 82), some (.int x1), some (.int x2), some (.int x3), some (.int (x4 + 1)), some (.int (x5 + 1)), some (.int (f_X12_small ((ah_l h8 121 (Int32.toNatClampNeg 1)) + ((ah_l h8 121 (Int32.toNatClampNeg 2)) * (x4).toInt64)))), some (.int v16)]) dX12_runs_137 rfl rfl (by exact (Nat.le_of_ble_eq_true rfl)) rfl rfl ?_
            refine ab_goto (tgt := 23) dX12_runs_140 (by decide) ?_
            exact Wp.fewer (L' := [some (.ref 82), some (.int x1), some (.int x2), some (.int x3), some (.int (x4 + 1)), some (.int (x5 + 1)), none, none]) (show ab_leL _ _ from ⟨rfl, ⟨rfl, ⟨rfl, ⟨rfl, ⟨rfl, ⟨rfl, trivial⟩⟩⟩⟩⟩⟩) ht
          · have ht := ht.2 c17
            refine ab_iload (i := 7) dX12_runs_115 rfl ?_
            exact ab_iret rfl dX12_runs_117 (Nat.le_of_ble_eq_true rfl) (Nat.le_of_ble_eq_true rfl) ht
        · have ht := ht.2 c13
          refine ab_iconst (v := 1) dX12_runs_100 (by decide) ?_
          refine ab_goto (tgt := 105) dX12_runs_101 (by decide) ?_
          refine ab_callV (b := 82) (As := [.int (f_X12_small (ah_l h8 121 (Int32.toNatClampNeg 0))), .int (f_X12_small ((ah_l h8 121 (Int32.toNatClampNeg 1)) + ((ah_l h8 121 (Int32.toNatClampNeg 2)) * (x4).toInt64))), .int 1]) ht (Y_X12_tellsSwitch) l_X12_204 in_X12_tellsSwitch se_X12_tellsSwitch (sh_k hs9 82 12 (by decide) rfl) (by decide) rfl rfl ⟨(Nat.le_of_ble_eq_true rfl), (Nat.le_of_ble_eq_true rfl), (Nat.le_of_ble_eq_true rfl), (Nat.le_of_ble_eq_true rfl)⟩ dX12_runs_105 ?_
          rintro _ h24 ⟨v26, rfl, hs25, ht⟩
          refine ab_istore (i := 7) (L' := [some (.ref 82), some (.int x1), some (.int x2), some (.int x3), some (.int x4), some (.int x5), some (.int (f_X12_small ((ah_l h8 121 (Int32.toNatClampNeg 1)) + ((ah_l h8 121 (Int32.toNatClampNeg 2)) * (x4).toInt64)))), some (.int v26)]) dX12_runs_108 (by exact (Nat.le_of_ble_eq_true rfl)) rfl rfl ?_
          refine ab_iload (i := 7) dX12_runs_110 rfl ?_
          refine ab_if_ge (tgt := 118) dX12_runs_112 (by decide) (fun c27 => ?_) (fun c27 => ?_)
          · have ht := ht.1 c27
            refine ab_iinc (i := 4) (x := x4) (v := (x4 + 1)) (L' := [some (.ref 82), some (.int x1), some (.int x2), some (.int x3), some (.int (x4 + 1)), some (.int x5), some (.int (f_X12_small ((ah_l h8 121 (Int32.toNatClampNeg 1)) + ((ah_l h8 121 (Int32.toNatClampNeg 2)) * (x4).toInt64)))), some (.int v26)]) dX12_runs_118 rfl rfl (by exact (Nat.le_of_ble_eq_true rfl)) rfl rfl ?_
            refine ab_aload_n (i := 0) dX12_runs_121 rfl rfl ?_
            refine ab_dup dX12_runs_122 rfl ?_
            refine ab_getI f_X12_501 rfl (sh_k hs25 82 12 (by decide) rfl) dX12_runs_123 ?_
            refine ab_iconst (v := 1) dX12_runs_126 (by decide) ?_
            refine ab_iadd dX12_runs_127 ?_
            refine ab_putI f_X12_501 (Or.inl rfl) rfl (sh_k hs25 82 12 (by decide) rfl) rfl rfl dX12_runs_128 ?_
            refine Wp.nm fun h28 e29 => ?_
            have ht := ht h28 e29
            have hs30 : Sh h28 := by rw [e29]; exact sh_si hs25
            refine ab_aload_n (i := 0) dX12_runs_131 rfl rfl ?_
            refine ab_iload (i := 6) dX12_runs_132 rfl ?_
            refine ab_putI f_X12_504 (Or.inl rfl) rfl (sh_k hs30 82 12 (by decide) rfl) rfl rfl dX12_runs_134 ?_
            refine Wp.nm fun h31 e32 => ?_
            have ht := ht h31 e32
            have hs33 : Sh h31 := by rw [e32]; exact sh_si hs30
            refine ab_iinc (i := 5) (x := x5) (v := (x5 + 1)) (L' := [some (.ref 82), some (.int x1), some (.int x2), some (.int x3), some (.int (x4 + 1)), some (.int (x5 + 1)), some (.int (f_X12_small ((ah_l h8 121 (Int32.toNatClampNeg 1)) + ((ah_l h8 121 (Int32.toNatClampNeg 2)) * (x4).toInt64)))), some (.int v26)]) dX12_runs_137 rfl rfl (by exact (Nat.le_of_ble_eq_true rfl)) rfl rfl ?_
            refine ab_goto (tgt := 23) dX12_runs_140 (by decide) ?_
            exact Wp.fewer (L' := [some (.ref 82), some (.int x1), some (.int x2), some (.int x3), some (.int (x4 + 1)), some (.int (x5 + 1)), none, none]) (show ab_leL _ _ from ⟨rfl, ⟨rfl, ⟨rfl, ⟨rfl, ⟨rfl, ⟨rfl, trivial⟩⟩⟩⟩⟩⟩) ht
          · have ht := ht.2 c27
            refine ab_iload (i := 7) dX12_runs_115 rfl ?_
            exact ab_iret rfl dX12_runs_117 (Nat.le_of_ble_eq_true rfl) (Nat.le_of_ble_eq_true rfl) ht
      · have ht := ht.2 c12
        refine ab_bipush (v := (-3)) dX12_runs_54 (by decide) ?_
        exact ab_iret rfl dX12_runs_56 (Nat.le_of_ble_eq_true rfl) (Nat.le_of_ble_eq_true rfl) ht
    · have ht := ht.2 c11
      refine ab_goto (tgt := 137) dX12_runs_44 (by decide) ?_
      refine ab_iinc (i := 5) (x := x5) (v := (x5 + 1)) (L' := [some (.ref 82), some (.int x1), some (.int x2), some (.int x3), some (.int x4), some (.int (x5 + 1)), none, none]) dX12_runs_137 rfl rfl (by exact (Nat.le_of_ble_eq_true rfl)) rfl rfl ?_
      refine ab_goto (tgt := 23) dX12_runs_140 (by decide) ?_
      exact Wp.fewer (L' := [some (.ref 82), some (.int x1), some (.int x2), some (.int x3), some (.int x4), some (.int (x5 + 1)), none, none]) (show ab_leL _ _ from ⟨rfl, ⟨rfl, ⟨rfl, ⟨rfl, ⟨rfl, ⟨rfl, trivial⟩⟩⟩⟩⟩⟩) ht
set_option maxRecDepth 20000 in
theorem T_X12_runs {Q : Option Value → ah_T → Prop} {h : ah_T} (hs : Sh h) (x1 : Int32) (ht : (Mt mX12_goesAlong [.ref 82, .int x1, .int 0, .int 0] h (ab_qv fun h1 => Sh h1 ∧ Wp mX12_runs Q 0 0 23 [some (.ref 82), some (.int x1), some (.int (ah_i h1 82 68)), some (.int (ah_i h1 82 20)), some (.int 0), some (.int 0), none, none] [] h1))) : Mt mX12_runs [.ref 82, .int x1] h Q := by
  refine Mt.ofWp rfl (by exact (Nat.le_of_ble_eq_true rfl)) (Wp.fewer (L' := [some (.ref 82), some (.int x1), none, none, none, none, none, none]) (show ab_leL _ _ from ⟨rfl, ⟨rfl, trivial⟩⟩) ?_)
  refine ab_aload_n (i := 0) dX12_runs_0 rfl rfl ?_
  refine ab_iload_n (i := 1) dX12_runs_1 rfl rfl ?_
  refine ab_iconst (v := 0) dX12_runs_2 (by decide) ?_
  refine ab_iconst (v := 0) dX12_runs_3 (by decide) ?_
  refine ab_callV (b := 82) (As := [.int x1, .int 0, .int 0]) ht (Y_X12_goesAlong) l_X12_534 in_X12_goesAlong se_X12_goesAlong (sh_k hs 82 12 (by decide) rfl) (by decide) rfl rfl ⟨(Nat.le_of_ble_eq_true rfl), (Nat.le_of_ble_eq_true rfl), (Nat.le_of_ble_eq_true rfl), (Nat.le_of_ble_eq_true rfl)⟩ dX12_runs_4 ?_
  rintro _ h1 ⟨rfl, hs2, ht⟩
  refine ab_aload_n (i := 0) dX12_runs_7 rfl rfl ?_
  refine ab_getI f_X12_526 rfl (sh_k hs2 82 12 (by decide) rfl) dX12_runs_8 ?_
  refine ab_istore_n (i := 2) (L' := [some (.ref 82), some (.int x1), some (.int (ah_i h1 82 68)), none, none, none, none, none]) dX12_runs_11 rfl (by exact (Nat.le_of_ble_eq_true rfl)) rfl rfl ?_
  refine ab_aload_n (i := 0) dX12_runs_12 rfl rfl ?_
  refine ab_getI f_X12_309 rfl (sh_k hs2 82 12 (by decide) rfl) dX12_runs_13 ?_
  refine ab_istore_n (i := 3) (L' := [some (.ref 82), some (.int x1), some (.int (ah_i h1 82 68)), some (.int (ah_i h1 82 20)), none, none, none, none]) dX12_runs_16 rfl (by exact (Nat.le_of_ble_eq_true rfl)) rfl rfl ?_
  refine ab_iconst (v := 0) dX12_runs_17 (by decide) ?_
  refine ab_istore (i := 4) (L' := [some (.ref 82), some (.int x1), some (.int (ah_i h1 82 68)), some (.int (ah_i h1 82 20)), some (.int 0), none, none, none]) dX12_runs_18 (by exact (Nat.le_of_ble_eq_true rfl)) rfl rfl ?_
  refine ab_iconst (v := 0) dX12_runs_20 (by decide) ?_
  refine ab_istore (i := 5) (L' := [some (.ref 82), some (.int x1), some (.int (ah_i h1 82 68)), some (.int (ah_i h1 82 20)), some (.int 0), some (.int 0), none, none]) dX12_runs_21 (by exact (Nat.le_of_ble_eq_true rfl)) rfl rfl ?_
  exact Wp.fewer (L' := [some (.ref 82), some (.int x1), some (.int (ah_i h1 82 68)), some (.int (ah_i h1 82 20)), some (.int 0), some (.int 0), none, none]) (show ab_leL _ _ from ⟨rfl, ⟨rfl, ⟨rfl, ⟨rfl, ⟨rfl, ⟨rfl, trivial⟩⟩⟩⟩⟩⟩) ht
theorem dX12_draws_0 : decode cX12_draws 0 = .ok (.aload_n 0, 1) := by decide +kernel
theorem dX12_draws_1 : decode cX12_draws 1 = .ok (.ldc2_w 542, 3) := by decide +kernel
theorem dX12_draws_4 : decode cX12_draws 4 = .ok (.aload_n 0, 1) := by decide +kernel
theorem dX12_draws_5 : decode cX12_draws 5 = .ok (.getfield 544, 3) := by decide +kernel
theorem dX12_draws_8 : decode cX12_draws 8 = .ok (.i2l, 1) := by decide +kernel
theorem dX12_draws_9 : decode cX12_draws 9 = .ok (.lmul, 1) := by decide +kernel
theorem dX12_draws_10 : decode cX12_draws 10 = .ok (.ldc2_w 547, 3) := by decide +kernel
theorem dX12_draws_13 : decode cX12_draws 13 = .ok (.ladd, 1) := by decide +kernel
theorem dX12_draws_14 : decode cX12_draws 14 = .ok (.ldc2_w 549, 3) := by decide +kernel
theorem dX12_draws_17 : decode cX12_draws 17 = .ok (.lrem, 1) := by decide +kernel
theorem dX12_draws_18 : decode cX12_draws 18 = .ok (.l2i, 1) := by decide +kernel
theorem dX12_draws_19 : decode cX12_draws 19 = .ok (.putfield 544, 3) := by decide +kernel
theorem dX12_draws_22 : decode cX12_draws 22 = .ok (.aload_n 0, 1) := by decide +kernel
theorem dX12_draws_23 : decode cX12_draws 23 = .ok (.getfield 544, 3) := by decide +kernel
theorem dX12_draws_26 : decode cX12_draws 26 = .ok (.iload_n 1, 1) := by decide +kernel
theorem dX12_draws_27 : decode cX12_draws 27 = .ok (.irem, 1) := by decide +kernel
theorem dX12_draws_28 : decode cX12_draws 28 = .ok (.ireturn, 1) := by decide +kernel
set_option maxRecDepth 20000 in
theorem T_X12_draws {Q : Option Value → ah_T → Prop} {h : ah_T} (hs : Sh h) (x1 : Int32) (ht : (∀ h1, h1 = ah_si h 82 78 ((((((1103 : Int64) * ((ah_i h 82 78)).toInt64) + (12345 : Int64)) - (((1103 : Int64) * ((ah_i h 82 78)).toInt64) + (12345 : Int64)) / (1000003 : Int64) * (1000003 : Int64))).toInt32) → (¬ x1 = 0) ∧ Q (some (.int ((ah_i h1 82 78) - (ah_i h1 82 78) / x1 * x1))) h1)) : Mt mX12_draws [.ref 82, .int x1] h Q := by
  refine Mt.ofWp rfl (by exact (Nat.le_of_ble_eq_true rfl)) (Wp.fewer (L' := [some (.ref 82), some (.int x1)]) (show ab_leL _ _ from ⟨rfl, ⟨rfl, trivial⟩⟩) ?_)
  refine ab_aload_n (i := 0) dX12_draws_0 rfl rfl ?_
  refine ab_ldc2 (v := 1103) (tb_10 (List.mem_of_getElem? (i := 10) (by decide +kernel)) rfl) dX12_draws_1 ?_
  refine ab_aload_n (i := 0) dX12_draws_4 rfl rfl ?_
  refine ab_getI f_X12_544 rfl (sh_k hs 82 12 (by decide) rfl) dX12_draws_5 ?_
  refine ab_i2l dX12_draws_8 ?_
  refine ab_lmul dX12_draws_9 ?_
  refine ab_ldc2 (v := 12345) (tb_10 (List.mem_of_getElem? (i := 11) (by decide +kernel)) rfl) dX12_draws_10 ?_
  refine ab_ladd dX12_draws_13 ?_
  refine ab_ldc2 (v := 1000003) (tb_10 (List.mem_of_getElem? (i := 12) (by decide +kernel)) rfl) dX12_draws_14 ?_
  refine ab_lrem dX12_draws_17 (by decide) ?_
  refine ab_l2i dX12_draws_18 ?_
  refine ab_putI f_X12_544 (Or.inl rfl) rfl (sh_k hs 82 12 (by decide) rfl) rfl rfl dX12_draws_19 ?_
  refine Wp.nm fun h1 e2 => ?_
  have ht := ht h1 e2
  have hs3 : Sh h1 := by rw [e2]; exact sh_si hs
  refine ab_aload_n (i := 0) dX12_draws_22 rfl rfl ?_
  refine ab_getI f_X12_544 rfl (sh_k hs3 82 12 (by decide) rfl) dX12_draws_23 ?_
  refine ab_iload_n (i := 1) dX12_draws_26 rfl rfl ?_
  obtain ⟨hc4, ht⟩ := ht
  refine ab_irem dX12_draws_27 hc4 ?_
  exact ab_iret rfl dX12_draws_28 (Nat.le_of_ble_eq_true rfl) (Nat.le_of_ble_eq_true rfl) ht
theorem dX12_staggers_0 : decode cX12_staggers 0 = .ok (.iconst 0, 1) := by decide +kernel
theorem dX12_staggers_1 : decode cX12_staggers 1 = .ok (.istore_n 2, 1) := by decide +kernel
theorem dX12_staggers_2 : decode cX12_staggers 2 = .ok (.iconst 0, 1) := by decide +kernel
theorem dX12_staggers_3 : decode cX12_staggers 3 = .ok (.istore_n 3, 1) := by decide +kernel
theorem dX12_staggers_4 : decode cX12_staggers 4 = .ok (.iload_n 3, 1) := by decide +kernel
theorem dX12_staggers_5 : decode cX12_staggers 5 = .ok (.aload_n 0, 1) := by decide +kernel
theorem dX12_staggers_6 : decode cX12_staggers 6 = .ok (.getfield 20, 3) := by decide +kernel
theorem dX12_staggers_9 : decode cX12_staggers 9 = .ok (.sipush 245, 3) := by decide +kernel
theorem dX12_staggers_12 : decode cX12_staggers 12 = .ok (.iaload, 1) := by decide +kernel
theorem dX12_staggers_13 : decode cX12_staggers 13 = .ok (.if_icmp .ge 47, 3) := by decide +kernel
theorem dX12_staggers_16 : decode cX12_staggers 16 = .ok (.iload_n 2, 1) := by decide +kernel
theorem dX12_staggers_17 : decode cX12_staggers 17 = .ok (.aload_n 0, 1) := by decide +kernel
theorem dX12_staggers_18 : decode cX12_staggers 18 = .ok (.getfield 20, 3) := by decide +kernel
theorem dX12_staggers_21 : decode cX12_staggers 21 = .ok (.iconst 0, 1) := by decide +kernel
theorem dX12_staggers_22 : decode cX12_staggers 22 = .ok (.iconst 3, 1) := by decide +kernel
theorem dX12_staggers_23 : decode cX12_staggers 23 = .ok (.iload_n 3, 1) := by decide +kernel
theorem dX12_staggers_24 : decode cX12_staggers 24 = .ok (.imul, 1) := by decide +kernel
theorem dX12_staggers_25 : decode cX12_staggers 25 = .ok (.iadd, 1) := by decide +kernel
theorem dX12_staggers_26 : decode cX12_staggers 26 = .ok (.iaload, 1) := by decide +kernel
theorem dX12_staggers_27 : decode cX12_staggers 27 = .ok (.iload_n 1, 1) := by decide +kernel
theorem dX12_staggers_28 : decode cX12_staggers 28 = .ok (.if_icmp .eq 19, 3) := by decide +kernel
theorem dX12_staggers_31 : decode cX12_staggers 31 = .ok (.aload_n 0, 1) := by decide +kernel
theorem dX12_staggers_32 : decode cX12_staggers 32 = .ok (.getfield 20, 3) := by decide +kernel
theorem dX12_staggers_35 : decode cX12_staggers 35 = .ok (.iconst 0, 1) := by decide +kernel
theorem dX12_staggers_36 : decode cX12_staggers 36 = .ok (.iconst 3, 1) := by decide +kernel
theorem dX12_staggers_37 : decode cX12_staggers 37 = .ok (.iload_n 3, 1) := by decide +kernel
theorem dX12_staggers_38 : decode cX12_staggers 38 = .ok (.imul, 1) := by decide +kernel
theorem dX12_staggers_39 : decode cX12_staggers 39 = .ok (.iadd, 1) := by decide +kernel
theorem dX12_staggers_40 : decode cX12_staggers 40 = .ok (.iconst 1, 1) := by decide +kernel
theorem dX12_staggers_41 : decode cX12_staggers 41 = .ok (.iadd, 1) := by decide +kernel
theorem dX12_staggers_42 : decode cX12_staggers 42 = .ok (.iaload, 1) := by decide +kernel
theorem dX12_staggers_43 : decode cX12_staggers 43 = .ok (.iload_n 1, 1) := by decide +kernel
theorem dX12_staggers_44 : decode cX12_staggers 44 = .ok (.if_icmp .ne 7, 3) := by decide +kernel
theorem dX12_staggers_47 : decode cX12_staggers 47 = .ok (.iconst 1, 1) := by decide +kernel
theorem dX12_staggers_48 : decode cX12_staggers 48 = .ok (.goto 4, 3) := by decide +kernel
theorem dX12_staggers_51 : decode cX12_staggers 51 = .ok (.iconst 0, 1) := by decide +kernel
theorem dX12_staggers_52 : decode cX12_staggers 52 = .ok (.iadd, 1) := by decide +kernel
theorem dX12_staggers_53 : decode cX12_staggers 53 = .ok (.istore_n 2, 1) := by decide +kernel
theorem dX12_staggers_54 : decode cX12_staggers 54 = .ok (.iinc 3 1, 3) := by decide +kernel
theorem dX12_staggers_57 : decode cX12_staggers 57 = .ok (.goto (-53), 3) := by decide +kernel
theorem dX12_staggers_60 : decode cX12_staggers 60 = .ok (.aload_n 0, 1) := by decide +kernel
theorem dX12_staggers_61 : decode cX12_staggers 61 = .ok (.iload_n 2, 1) := by decide +kernel
theorem dX12_staggers_62 : decode cX12_staggers 62 = .ok (.iconst 1, 1) := by decide +kernel
theorem dX12_staggers_63 : decode cX12_staggers 63 = .ok (.iadd, 1) := by decide +kernel
theorem dX12_staggers_64 : decode cX12_staggers 64 = .ok (.invokevirtual 551, 3) := by decide +kernel
theorem dX12_staggers_67 : decode cX12_staggers 67 = .ok (.istore_n 3, 1) := by decide +kernel
theorem dX12_staggers_68 : decode cX12_staggers 68 = .ok (.iconst 0, 1) := by decide +kernel
theorem dX12_staggers_69 : decode cX12_staggers 69 = .ok (.istore 4, 2) := by decide +kernel
theorem dX12_staggers_71 : decode cX12_staggers 71 = .ok (.iload 4, 2) := by decide +kernel
theorem dX12_staggers_73 : decode cX12_staggers 73 = .ok (.aload_n 0, 1) := by decide +kernel
theorem dX12_staggers_74 : decode cX12_staggers 74 = .ok (.getfield 20, 3) := by decide +kernel
theorem dX12_staggers_77 : decode cX12_staggers 77 = .ok (.sipush 245, 3) := by decide +kernel
theorem dX12_staggers_80 : decode cX12_staggers 80 = .ok (.iaload, 1) := by decide +kernel
theorem dX12_staggers_81 : decode cX12_staggers 81 = .ok (.if_icmp .ge 77, 3) := by decide +kernel
theorem dX12_staggers_84 : decode cX12_staggers 84 = .ok (.iload_n 3, 1) := by decide +kernel
theorem dX12_staggers_85 : decode cX12_staggers 85 = .ok (.ifCond .le 73, 3) := by decide +kernel
theorem dX12_staggers_88 : decode cX12_staggers 88 = .ok (.aload_n 0, 1) := by decide +kernel
theorem dX12_staggers_89 : decode cX12_staggers 89 = .ok (.getfield 20, 3) := by decide +kernel
theorem dX12_staggers_92 : decode cX12_staggers 92 = .ok (.iconst 0, 1) := by decide +kernel
theorem dX12_staggers_93 : decode cX12_staggers 93 = .ok (.iconst 3, 1) := by decide +kernel
theorem dX12_staggers_94 : decode cX12_staggers 94 = .ok (.iload 4, 2) := by decide +kernel
theorem dX12_staggers_96 : decode cX12_staggers 96 = .ok (.imul, 1) := by decide +kernel
theorem dX12_staggers_97 : decode cX12_staggers 97 = .ok (.iadd, 1) := by decide +kernel
theorem dX12_staggers_98 : decode cX12_staggers 98 = .ok (.iaload, 1) := by decide +kernel
theorem dX12_staggers_99 : decode cX12_staggers 99 = .ok (.istore 5, 2) := by decide +kernel
theorem dX12_staggers_101 : decode cX12_staggers 101 = .ok (.aload_n 0, 1) := by decide +kernel
theorem dX12_staggers_102 : decode cX12_staggers 102 = .ok (.getfield 20, 3) := by decide +kernel
theorem dX12_staggers_105 : decode cX12_staggers 105 = .ok (.iconst 0, 1) := by decide +kernel
theorem dX12_staggers_106 : decode cX12_staggers 106 = .ok (.iconst 3, 1) := by decide +kernel
theorem dX12_staggers_107 : decode cX12_staggers 107 = .ok (.iload 4, 2) := by decide +kernel
theorem dX12_staggers_109 : decode cX12_staggers 109 = .ok (.imul, 1) := by decide +kernel
theorem dX12_staggers_110 : decode cX12_staggers 110 = .ok (.iadd, 1) := by decide +kernel
theorem dX12_staggers_111 : decode cX12_staggers 111 = .ok (.iconst 1, 1) := by decide +kernel
theorem dX12_staggers_112 : decode cX12_staggers 112 = .ok (.iadd, 1) := by decide +kernel
theorem dX12_staggers_113 : decode cX12_staggers 113 = .ok (.iaload, 1) := by decide +kernel
theorem dX12_staggers_114 : decode cX12_staggers 114 = .ok (.istore 6, 2) := by decide +kernel
theorem dX12_staggers_116 : decode cX12_staggers 116 = .ok (.iload 5, 2) := by decide +kernel
theorem dX12_staggers_118 : decode cX12_staggers 118 = .ok (.iload_n 1, 1) := by decide +kernel
theorem dX12_staggers_119 : decode cX12_staggers 119 = .ok (.if_icmp .eq 12, 3) := by decide +kernel
theorem dX12_staggers_122 : decode cX12_staggers 122 = .ok (.iload 6, 2) := by decide +kernel
theorem dX12_staggers_124 : decode cX12_staggers 124 = .ok (.iload_n 1, 1) := by decide +kernel
theorem dX12_staggers_125 : decode cX12_staggers 125 = .ok (.if_icmp .eq 6, 3) := by decide +kernel
theorem dX12_staggers_128 : decode cX12_staggers 128 = .ok (.goto 24, 3) := by decide +kernel
theorem dX12_staggers_131 : decode cX12_staggers 131 = .ok (.iinc 3 (-1), 3) := by decide +kernel
theorem dX12_staggers_134 : decode cX12_staggers 134 = .ok (.iload_n 3, 1) := by decide +kernel
theorem dX12_staggers_135 : decode cX12_staggers 135 = .ok (.ifCond .ne 17, 3) := by decide +kernel
theorem dX12_staggers_138 : decode cX12_staggers 138 = .ok (.iload 5, 2) := by decide +kernel
theorem dX12_staggers_140 : decode cX12_staggers 140 = .ok (.iload_n 1, 1) := by decide +kernel
theorem dX12_staggers_141 : decode cX12_staggers 141 = .ok (.if_icmp .ne 8, 3) := by decide +kernel
theorem dX12_staggers_144 : decode cX12_staggers 144 = .ok (.iload 6, 2) := by decide +kernel
theorem dX12_staggers_146 : decode cX12_staggers 146 = .ok (.goto 5, 3) := by decide +kernel
theorem dX12_staggers_149 : decode cX12_staggers 149 = .ok (.iload 5, 2) := by decide +kernel
theorem dX12_staggers_151 : decode cX12_staggers 151 = .ok (.ireturn, 1) := by decide +kernel
theorem dX12_staggers_152 : decode cX12_staggers 152 = .ok (.iinc 4 1, 3) := by decide +kernel
theorem dX12_staggers_155 : decode cX12_staggers 155 = .ok (.goto (-84), 3) := by decide +kernel
theorem dX12_staggers_158 : decode cX12_staggers 158 = .ok (.iload_n 1, 1) := by decide +kernel
theorem dX12_staggers_159 : decode cX12_staggers 159 = .ok (.ireturn, 1) := by decide +kernel
set_option maxRecDepth 20000 in
theorem T_X12_staggers_4 {Q : Option Value → ah_T → Prop} {h : ah_T} (hs : Sh h) (x1 : Int32) (x2 : Int32) (x3 : Int32) (ht : (((ah_i h 84 (Int32.toNatClampNeg 245)) ≤ x3 → (Mt mX12_draws [.ref 82, .int (x2 + 1)] h (ab_qi fun v4 h2 => Sh h2 ∧ Wp mX12_staggers Q 0 0 71 [some (.ref 82), some (.int x1), none, some (.int v4), some (.int 0), none, none] [] h2))) ∧ (¬ (ah_i h 84 (Int32.toNatClampNeg 245)) ≤ x3 → (vp_in (0 + (3 * x3)) (ah_n h 84)) ∧ (((ah_i h 84 (Int32.toNatClampNeg (0 + (3 * x3)))) = x1 → Wp mX12_staggers Q 0 0 4 [some (.ref 82), some (.int x1), some (.int (x2 + 1)), some (.int (x3 + 1)), none, none, none] [] h) ∧ (¬ (ah_i h 84 (Int32.toNatClampNeg (0 + (3 * x3)))) = x1 → (vp_in ((0 + (3 * x3)) + 1) (ah_n h 84)) ∧ ((¬ (ah_i h 84 (Int32.toNatClampNeg ((0 + (3 * x3)) + 1))) = x1 → Wp mX12_staggers Q 0 0 4 [some (.ref 82), some (.int x1), some (.int (x2 + 0)), some (.int (x3 + 1)), none, none, none] [] h) ∧ ((ah_i h 84 (Int32.toNatClampNeg ((0 + (3 * x3)) + 1))) = x1 → Wp mX12_staggers Q 0 0 4 [some (.ref 82), some (.int x1), some (.int (x2 + 1)), some (.int (x3 + 1)), none, none, none] [] h))))))) : Wp mX12_staggers Q 0 0 4 [some (.ref 82), some (.int x1), some (.int x2), some (.int x3), none, none, none] [] h := by
  refine ab_iload_n (i := 3) dX12_staggers_4 rfl rfl ?_
  refine ab_aload_n (i := 0) dX12_staggers_5 rfl rfl ?_
  refine ab_getR (b := 84) f_X12_20 rfl (sh_k hs 82 12 (by decide) rfl) (sh_r hs 100 rfl) dX12_staggers_6 ?_
  refine ab_sipush (v := 245) dX12_staggers_9 (by decide) ?_
  refine ab_iald (sh_k hs 84 14 (by decide) rfl) (sh_in hs 84 5860 (by decide) (by decide) rfl (by unfold vp_in; decide)) dX12_staggers_12 ?_
  refine ab_icmp_ge (tgt := 60) dX12_staggers_13 (by decide) (fun c1 => ?_) (fun c1 => ?_)
  · have ht := ht.1 c1
    refine ab_aload_n (i := 0) dX12_staggers_60 rfl rfl ?_
    refine ab_iload_n (i := 2) dX12_staggers_61 rfl rfl ?_
    refine ab_iconst (v := 1) dX12_staggers_62 (by decide) ?_
    refine ab_iadd dX12_staggers_63 ?_
    refine ab_callV (b := 82) (As := [.int (x2 + 1)]) ht (Y_X12_draws) l_X12_551 in_X12_draws se_X12_draws (sh_k hs 82 12 (by decide) rfl) (by decide) rfl rfl ⟨(Nat.le_of_ble_eq_true rfl), (Nat.le_of_ble_eq_true rfl), (Nat.le_of_ble_eq_true rfl), (Nat.le_of_ble_eq_true rfl)⟩ dX12_staggers_64 ?_
    rintro _ h2 ⟨v4, rfl, hs3, ht⟩
    refine ab_istore_n (i := 3) (L' := [some (.ref 82), some (.int x1), some (.int x2), some (.int v4), none, none, none]) dX12_staggers_67 rfl (by exact (Nat.le_of_ble_eq_true rfl)) rfl rfl ?_
    refine ab_iconst (v := 0) dX12_staggers_68 (by decide) ?_
    refine ab_istore (i := 4) (L' := [some (.ref 82), some (.int x1), some (.int x2), some (.int v4), some (.int 0), none, none]) dX12_staggers_69 (by exact (Nat.le_of_ble_eq_true rfl)) rfl rfl ?_
    exact Wp.fewer (L' := [some (.ref 82), some (.int x1), none, some (.int v4), some (.int 0), none, none]) (show ab_leL _ _ from ⟨rfl, ⟨rfl, ⟨rfl, ⟨rfl, trivial⟩⟩⟩⟩) ht
  · have ht := ht.2 c1
    refine ab_iload_n (i := 2) dX12_staggers_16 rfl rfl ?_
    refine ab_aload_n (i := 0) dX12_staggers_17 rfl rfl ?_
    refine ab_getR (b := 84) f_X12_20 rfl (sh_k hs 82 12 (by decide) rfl) (sh_r hs 100 rfl) dX12_staggers_18 ?_
    refine ab_iconst (v := 0) dX12_staggers_21 (by decide) ?_
    refine ab_iconst (v := 3) dX12_staggers_22 (by decide) ?_
    refine ab_iload_n (i := 3) dX12_staggers_23 rfl rfl ?_
    refine ab_imul dX12_staggers_24 ?_
    refine ab_iadd dX12_staggers_25 ?_
    obtain ⟨hc5, ht⟩ := ht
    refine ab_iald (sh_k hs 84 14 (by decide) rfl) hc5 dX12_staggers_26 ?_
    refine ab_iload_n (i := 1) dX12_staggers_27 rfl rfl ?_
    refine ab_icmp_eq (tgt := 47) dX12_staggers_28 (by decide) (fun c6 => ?_) (fun c6 => ?_)
    · have ht := ht.1 c6
      refine ab_iconst (v := 1) dX12_staggers_47 (by decide) ?_
      refine ab_goto (tgt := 52) dX12_staggers_48 (by decide) ?_
      refine ab_iadd dX12_staggers_52 ?_
      refine ab_istore_n (i := 2) (L' := [some (.ref 82), some (.int x1), some (.int (x2 + 1)), some (.int x3), none, none, none]) dX12_staggers_53 rfl (by exact (Nat.le_of_ble_eq_true rfl)) rfl rfl ?_
      refine ab_iinc (i := 3) (x := x3) (v := (x3 + 1)) (L' := [some (.ref 82), some (.int x1), some (.int (x2 + 1)), some (.int (x3 + 1)), none, none, none]) dX12_staggers_54 rfl rfl (by exact (Nat.le_of_ble_eq_true rfl)) rfl rfl ?_
      refine ab_goto (tgt := 4) dX12_staggers_57 (by decide) ?_
      exact Wp.fewer (L' := [some (.ref 82), some (.int x1), some (.int (x2 + 1)), some (.int (x3 + 1)), none, none, none]) (show ab_leL _ _ from ⟨rfl, ⟨rfl, ⟨rfl, ⟨rfl, trivial⟩⟩⟩⟩) ht
    · have ht := ht.2 c6
      refine ab_aload_n (i := 0) dX12_staggers_31 rfl rfl ?_
      refine ab_getR (b := 84) f_X12_20 rfl (sh_k hs 82 12 (by decide) rfl) (sh_r hs 100 rfl) dX12_staggers_32 ?_
      refine ab_iconst (v := 0) dX12_staggers_35 (by decide) ?_
      refine ab_iconst (v := 3) dX12_staggers_36 (by decide) ?_
      refine ab_iload_n (i := 3) dX12_staggers_37 rfl rfl ?_
      refine ab_imul dX12_staggers_38 ?_
      refine ab_iadd dX12_staggers_39 ?_
      refine ab_iconst (v := 1) dX12_staggers_40 (by decide) ?_
      refine ab_iadd dX12_staggers_41 ?_
      obtain ⟨hc7, ht⟩ := ht
      refine ab_iald (sh_k hs 84 14 (by decide) rfl) hc7 dX12_staggers_42 ?_
      refine ab_iload_n (i := 1) dX12_staggers_43 rfl rfl ?_
      refine ab_icmp_ne (tgt := 51) dX12_staggers_44 (by decide) (fun c8 => ?_) (fun c8 => ?_)
      · have ht := ht.1 c8
        refine ab_iconst (v := 0) dX12_staggers_51 (by decide) ?_
        refine ab_iadd dX12_staggers_52 ?_
        refine ab_istore_n (i := 2) (L' := [some (.ref 82), some (.int x1), some (.int (x2 + 0)), some (.int x3), none, none, none]) dX12_staggers_53 rfl (by exact (Nat.le_of_ble_eq_true rfl)) rfl rfl ?_
        refine ab_iinc (i := 3) (x := x3) (v := (x3 + 1)) (L' := [some (.ref 82), some (.int x1), some (.int (x2 + 0)), some (.int (x3 + 1)), none, none, none]) dX12_staggers_54 rfl rfl (by exact (Nat.le_of_ble_eq_true rfl)) rfl rfl ?_
        refine ab_goto (tgt := 4) dX12_staggers_57 (by decide) ?_
        exact Wp.fewer (L' := [some (.ref 82), some (.int x1), some (.int (x2 + 0)), some (.int (x3 + 1)), none, none, none]) (show ab_leL _ _ from ⟨rfl, ⟨rfl, ⟨rfl, ⟨rfl, trivial⟩⟩⟩⟩) ht
      · have ht := ht.2 c8
        refine ab_iconst (v := 1) dX12_staggers_47 (by decide) ?_
        refine ab_goto (tgt := 52) dX12_staggers_48 (by decide) ?_
        refine ab_iadd dX12_staggers_52 ?_
        refine ab_istore_n (i := 2) (L' := [some (.ref 82), some (.int x1), some (.int (x2 + 1)), some (.int x3), none, none, none]) dX12_staggers_53 rfl (by exact (Nat.le_of_ble_eq_true rfl)) rfl rfl ?_
        refine ab_iinc (i := 3) (x := x3) (v := (x3 + 1)) (L' := [some (.ref 82), some (.int x1), some (.int (x2 + 1)), some (.int (x3 + 1)), none, none, none]) dX12_staggers_54 rfl rfl (by exact (Nat.le_of_ble_eq_true rfl)) rfl rfl ?_
        refine ab_goto (tgt := 4) dX12_staggers_57 (by decide) ?_
        exact Wp.fewer (L' := [some (.ref 82), some (.int x1), some (.int (x2 + 1)), some (.int (x3 + 1)), none, none, none]) (show ab_leL _ _ from ⟨rfl, ⟨rfl, ⟨rfl, ⟨rfl, trivial⟩⟩⟩⟩) ht
set_option maxRecDepth 20000 in
theorem T_X12_staggers_71 {Q : Option Value → ah_T → Prop} {h : ah_T} (hs : Sh h) (x1 : Int32) (x3 : Int32) (x4 : Int32) (ht : (((ah_i h 84 (Int32.toNatClampNeg 245)) ≤ x4 → Q (some (.int x1)) h) ∧ (¬ (ah_i h 84 (Int32.toNatClampNeg 245)) ≤ x4 → ((x3 ≤ 0 → Q (some (.int x1)) h) ∧ (¬ x3 ≤ 0 → (vp_in (0 + (3 * x4)) (ah_n h 84)) ∧ (vp_in ((0 + (3 * x4)) + 1) (ah_n h 84)) ∧ (((ah_i h 84 (Int32.toNatClampNeg (0 + (3 * x4)))) = x1 → ((¬ (x3 + (-1)) = 0 → Wp mX12_staggers Q 0 0 71 [some (.ref 82), some (.int x1), none, some (.int (x3 + (-1))), some (.int (x4 + 1)), none, none] [] h) ∧ ((x3 + (-1)) = 0 → ((¬ (ah_i h 84 (Int32.toNatClampNeg (0 + (3 * x4)))) = x1 → Q (some (.int (ah_i h 84 (Int32.toNatClampNeg (0 + (3 * x4)))))) h) ∧ ((ah_i h 84 (Int32.toNatClampNeg (0 + (3 * x4)))) = x1 → Q (some (.int (ah_i h 84 (Int32.toNatClampNeg ((0 + (3 * x4)) + 1))))) h))))) ∧ (¬ (ah_i h 84 (Int32.toNatClampNeg (0 + (3 * x4)))) = x1 → (((ah_i h 84 (Int32.toNatClampNeg ((0 + (3 * x4)) + 1))) = x1 → ((¬ (x3 + (-1)) = 0 → Wp mX12_staggers Q 0 0 71 [some (.ref 82), some (.int x1), none, some (.int (x3 + (-1))), some (.int (x4 + 1)), none, none] [] h) ∧ ((x3 + (-1)) = 0 → ((¬ (ah_i h 84 (Int32.toNatClampNeg (0 + (3 * x4)))) = x1 → Q (some (.int (ah_i h 84 (Int32.toNatClampNeg (0 + (3 * x4)))))) h) ∧ ((ah_i h 84 (Int32.toNatClampNeg (0 + (3 * x4)))) = x1 → Q (some (.int (ah_i h 84 (Int32.toNatClampNeg ((0 + (3 * x4)) + 1))))) h))))) ∧ (¬ (ah_i h 84 (Int32.toNatClampNeg ((0 + (3 * x4)) + 1))) = x1 → Wp mX12_staggers Q 0 0 71 [some (.ref 82), some (.int x1), none, some (.int x3), some (.int (x4 + 1)), none, none] [] h))))))))) : Wp mX12_staggers Q 0 0 71 [some (.ref 82), some (.int x1), none, some (.int x3), some (.int x4), none, none] [] h := by
  refine ab_iload (i := 4) dX12_staggers_71 rfl ?_
  refine ab_aload_n (i := 0) dX12_staggers_73 rfl rfl ?_
  refine ab_getR (b := 84) f_X12_20 rfl (sh_k hs 82 12 (by decide) rfl) (sh_r hs 100 rfl) dX12_staggers_74 ?_
  refine ab_sipush (v := 245) dX12_staggers_77 (by decide) ?_
  refine ab_iald (sh_k hs 84 14 (by decide) rfl) (sh_in hs 84 5860 (by decide) (by decide) rfl (by unfold vp_in; decide)) dX12_staggers_80 ?_
  refine ab_icmp_ge (tgt := 158) dX12_staggers_81 (by decide) (fun c9 => ?_) (fun c9 => ?_)
  · have ht := ht.1 c9
    refine ab_iload_n (i := 1) dX12_staggers_158 rfl rfl ?_
    exact ab_iret rfl dX12_staggers_159 (Nat.le_of_ble_eq_true rfl) (Nat.le_of_ble_eq_true rfl) ht
  · have ht := ht.2 c9
    refine ab_iload_n (i := 3) dX12_staggers_84 rfl rfl ?_
    refine ab_if_le (tgt := 158) dX12_staggers_85 (by decide) (fun c10 => ?_) (fun c10 => ?_)
    · have ht := ht.1 c10
      refine ab_iload_n (i := 1) dX12_staggers_158 rfl rfl ?_
      exact ab_iret rfl dX12_staggers_159 (Nat.le_of_ble_eq_true rfl) (Nat.le_of_ble_eq_true rfl) ht
    · have ht := ht.2 c10
      refine ab_aload_n (i := 0) dX12_staggers_88 rfl rfl ?_
      refine ab_getR (b := 84) f_X12_20 rfl (sh_k hs 82 12 (by decide) rfl) (sh_r hs 100 rfl) dX12_staggers_89 ?_
      refine ab_iconst (v := 0) dX12_staggers_92 (by decide) ?_
      refine ab_iconst (v := 3) dX12_staggers_93 (by decide) ?_
      refine ab_iload (i := 4) dX12_staggers_94 rfl ?_
      refine ab_imul dX12_staggers_96 ?_
      refine ab_iadd dX12_staggers_97 ?_
      obtain ⟨hc11, ht⟩ := ht
      refine ab_iald (sh_k hs 84 14 (by decide) rfl) hc11 dX12_staggers_98 ?_
      refine ab_istore (i := 5) (L' := [some (.ref 82), some (.int x1), none, some (.int x3), some (.int x4), some (.int (ah_i h 84 (Int32.toNatClampNeg (0 + (3 * x4))))), none]) dX12_staggers_99 (by exact (Nat.le_of_ble_eq_true rfl)) rfl rfl ?_
      refine ab_aload_n (i := 0) dX12_staggers_101 rfl rfl ?_
      refine ab_getR (b := 84) f_X12_20 rfl (sh_k hs 82 12 (by decide) rfl) (sh_r hs 100 rfl) dX12_staggers_102 ?_
      refine ab_iconst (v := 0) dX12_staggers_105 (by decide) ?_
      refine ab_iconst (v := 3) dX12_staggers_106 (by decide) ?_
      refine ab_iload (i := 4) dX12_staggers_107 rfl ?_
      refine ab_imul dX12_staggers_109 ?_
      refine ab_iadd dX12_staggers_110 ?_
      refine ab_iconst (v := 1) dX12_staggers_111 (by decide) ?_
      refine ab_iadd dX12_staggers_112 ?_
      obtain ⟨hc12, ht⟩ := ht
      refine ab_iald (sh_k hs 84 14 (by decide) rfl) hc12 dX12_staggers_113 ?_
      refine ab_istore (i := 6) (L' := [some (.ref 82), some (.int x1), none, some (.int x3), some (.int x4), some (.int (ah_i h 84 (Int32.toNatClampNeg (0 + (3 * x4))))), some (.int (ah_i h 84 (Int32.toNatClampNeg ((0 + (3 * x4)) + 1))))]) dX12_staggers_114 (by exact (Nat.le_of_ble_eq_true rfl)) rfl rfl ?_
      refine ab_iload (i := 5) dX12_staggers_116 rfl ?_
      refine ab_iload_n (i := 1) dX12_staggers_118 rfl rfl ?_
      refine ab_icmp_eq (tgt := 131) dX12_staggers_119 (by decide) (fun c13 => ?_) (fun c13 => ?_)
      · have ht := ht.1 c13
        refine ab_iinc (i := 3) (x := x3) (v := (x3 + (-1))) (L' := [some (.ref 82), some (.int x1), none, some (.int (x3 + (-1))), some (.int x4), some (.int (ah_i h 84 (Int32.toNatClampNeg (0 + (3 * x4))))), some (.int (ah_i h 84 (Int32.toNatClampNeg ((0 + (3 * x4)) + 1))))]) dX12_staggers_131 rfl rfl (by exact (Nat.le_of_ble_eq_true rfl)) rfl rfl ?_
        refine ab_iload_n (i := 3) dX12_staggers_134 rfl rfl ?_
        refine ab_if_ne (tgt := 152) dX12_staggers_135 (by decide) (fun c14 => ?_) (fun c14 => ?_)
        · have ht := ht.1 c14
          refine ab_iinc (i := 4) (x := x4) (v := (x4 + 1)) (L' := [some (.ref 82), some (.int x1), none, some (.int (x3 + (-1))), some (.int (x4 + 1)), some (.int (ah_i h 84 (Int32.toNatClampNeg (0 + (3 * x4))))), some (.int (ah_i h 84 (Int32.toNatClampNeg ((0 + (3 * x4)) + 1))))]) dX12_staggers_152 rfl rfl (by exact (Nat.le_of_ble_eq_true rfl)) rfl rfl ?_
          refine ab_goto (tgt := 71) dX12_staggers_155 (by decide) ?_
          exact Wp.fewer (L' := [some (.ref 82), some (.int x1), none, some (.int (x3 + (-1))), some (.int (x4 + 1)), none, none]) (show ab_leL _ _ from ⟨rfl, ⟨rfl, ⟨rfl, ⟨rfl, trivial⟩⟩⟩⟩) ht
        · have ht := ht.2 c14
          refine ab_iload (i := 5) dX12_staggers_138 rfl ?_
          refine ab_iload_n (i := 1) dX12_staggers_140 rfl rfl ?_
          refine ab_icmp_ne (tgt := 149) dX12_staggers_141 (by decide) (fun c15 => ?_) (fun c15 => ?_)
          · have ht := ht.1 c15
            refine ab_iload (i := 5) dX12_staggers_149 rfl ?_
            exact ab_iret rfl dX12_staggers_151 (Nat.le_of_ble_eq_true rfl) (Nat.le_of_ble_eq_true rfl) ht
          · have ht := ht.2 c15
            refine ab_iload (i := 6) dX12_staggers_144 rfl ?_
            refine ab_goto (tgt := 151) dX12_staggers_146 (by decide) ?_
            exact ab_iret rfl dX12_staggers_151 (Nat.le_of_ble_eq_true rfl) (Nat.le_of_ble_eq_true rfl) ht
      · have ht := ht.2 c13
        refine ab_iload (i := 6) dX12_staggers_122 rfl ?_
        refine ab_iload_n (i := 1) dX12_staggers_124 rfl rfl ?_
        refine ab_icmp_eq (tgt := 131) dX12_staggers_125 (by decide) (fun c16 => ?_) (fun c16 => ?_)
        · have ht := ht.1 c16
          refine ab_iinc (i := 3) (x := x3) (v := (x3 + (-1))) (L' := [some (.ref 82), some (.int x1), none, some (.int (x3 + (-1))), some (.int x4), some (.int (ah_i h 84 (Int32.toNatClampNeg (0 + (3 * x4))))), some (.int (ah_i h 84 (Int32.toNatClampNeg ((0 + (3 * x4)) + 1))))]) dX12_staggers_131 rfl rfl (by exact (Nat.le_of_ble_eq_true rfl)) rfl rfl ?_
          refine ab_iload_n (i := 3) dX12_staggers_134 rfl rfl ?_
          refine ab_if_ne (tgt := 152) dX12_staggers_135 (by decide) (fun c17 => ?_) (fun c17 => ?_)
          · have ht := ht.1 c17
            refine ab_iinc (i := 4) (x := x4) (v := (x4 + 1)) (L' := [some (.ref 82), some (.int x1), none, some (.int (x3 + (-1))), some (.int (x4 + 1)), some (.int (ah_i h 84 (Int32.toNatClampNeg (0 + (3 * x4))))), some (.int (ah_i h 84 (Int32.toNatClampNeg ((0 + (3 * x4)) + 1))))]) dX12_staggers_152 rfl rfl (by exact (Nat.le_of_ble_eq_true rfl)) rfl rfl ?_
            refine ab_goto (tgt := 71) dX12_staggers_155 (by decide) ?_
            exact Wp.fewer (L' := [some (.ref 82), some (.int x1), none, some (.int (x3 + (-1))), some (.int (x4 + 1)), none, none]) (show ab_leL _ _ from ⟨rfl, ⟨rfl, ⟨rfl, ⟨rfl, trivial⟩⟩⟩⟩) ht
          · have ht := ht.2 c17
            refine ab_iload (i := 5) dX12_staggers_138 rfl ?_
            refine ab_iload_n (i := 1) dX12_staggers_140 rfl rfl ?_
            refine ab_icmp_ne (tgt := 149) dX12_staggers_141 (by decide) (fun c18 => ?_) (fun c18 => ?_)
            · have ht := ht.1 c18
              refine ab_iload (i := 5) dX12_staggers_149 rfl ?_
              exact ab_iret rfl dX12_staggers_151 (Nat.le_of_ble_eq_true rfl) (Nat.le_of_ble_eq_true rfl) ht
            · have ht := ht.2 c18
              refine ab_iload (i := 6) dX12_staggers_144 rfl ?_
              refine ab_goto (tgt := 151) dX12_staggers_146 (by decide) ?_
              exact ab_iret rfl dX12_staggers_151 (Nat.le_of_ble_eq_true rfl) (Nat.le_of_ble_eq_true rfl) ht
        · have ht := ht.2 c16
          refine ab_goto (tgt := 152) dX12_staggers_128 (by decide) ?_
          refine ab_iinc (i := 4) (x := x4) (v := (x4 + 1)) (L' := [some (.ref 82), some (.int x1), none, some (.int x3), some (.int (x4 + 1)), some (.int (ah_i h 84 (Int32.toNatClampNeg (0 + (3 * x4))))), some (.int (ah_i h 84 (Int32.toNatClampNeg ((0 + (3 * x4)) + 1))))]) dX12_staggers_152 rfl rfl (by exact (Nat.le_of_ble_eq_true rfl)) rfl rfl ?_
          refine ab_goto (tgt := 71) dX12_staggers_155 (by decide) ?_
          exact Wp.fewer (L' := [some (.ref 82), some (.int x1), none, some (.int x3), some (.int (x4 + 1)), none, none]) (show ab_leL _ _ from ⟨rfl, ⟨rfl, ⟨rfl, ⟨rfl, trivial⟩⟩⟩⟩) ht
set_option maxRecDepth 20000 in
theorem T_X12_staggers {Q : Option Value → ah_T → Prop} {h : ah_T} (hs : Sh h) (x1 : Int32) (ht : Wp mX12_staggers Q 0 0 4 [some (.ref 82), some (.int x1), some (.int 0), some (.int 0), none, none, none] [] h) : Mt mX12_staggers [.ref 82, .int x1] h Q := by
  refine Mt.ofWp rfl (by exact (Nat.le_of_ble_eq_true rfl)) (Wp.fewer (L' := [some (.ref 82), some (.int x1), none, none, none, none, none]) (show ab_leL _ _ from ⟨rfl, ⟨rfl, trivial⟩⟩) ?_)
  refine ab_iconst (v := 0) dX12_staggers_0 (by decide) ?_
  refine ab_istore_n (i := 2) (L' := [some (.ref 82), some (.int x1), some (.int 0), none, none, none, none]) dX12_staggers_1 rfl (by exact (Nat.le_of_ble_eq_true rfl)) rfl rfl ?_
  refine ab_iconst (v := 0) dX12_staggers_2 (by decide) ?_
  refine ab_istore_n (i := 3) (L' := [some (.ref 82), some (.int x1), some (.int 0), some (.int 0), none, none, none]) dX12_staggers_3 rfl (by exact (Nat.le_of_ble_eq_true rfl)) rfl rfl ?_
  exact Wp.fewer (L' := [some (.ref 82), some (.int x1), some (.int 0), some (.int 0), none, none, none]) (show ab_leL _ _ from ⟨rfl, ⟨rfl, ⟨rfl, ⟨rfl, trivial⟩⟩⟩⟩) ht
theorem dX12_drunk_0 : decode cX12_drunk 0 = .ok (.iload_n 1, 1) := by decide +kernel
theorem dX12_drunk_1 : decode cX12_drunk 1 = .ok (.iconst 0, 1) := by decide +kernel
theorem dX12_drunk_2 : decode cX12_drunk 2 = .ok (.ldc 232, 2) := by decide +kernel
theorem dX12_drunk_4 : decode cX12_drunk 4 = .ok (.invokestatic 156, 3) := by decide +kernel
theorem dX12_drunk_7 : decode cX12_drunk 7 = .ok (.ifCond .eq 28, 3) := by decide +kernel
theorem dX12_drunk_10 : decode cX12_drunk 10 = .ok (.iload_n 2, 1) := by decide +kernel
theorem dX12_drunk_11 : decode cX12_drunk 11 = .ok (.invokestatic 192, 3) := by decide +kernel
theorem dX12_drunk_14 : decode cX12_drunk 14 = .ok (.ifCond .eq 21, 3) := by decide +kernel
theorem dX12_drunk_17 : decode cX12_drunk 17 = .ok (.iload_n 3, 1) := by decide +kernel
theorem dX12_drunk_18 : decode cX12_drunk 18 = .ok (.invokestatic 174, 3) := by decide +kernel
theorem dX12_drunk_21 : decode cX12_drunk 21 = .ok (.ifCond .eq 14, 3) := by decide +kernel
theorem dX12_drunk_24 : decode cX12_drunk 24 = .ok (.iload 4, 2) := by decide +kernel
theorem dX12_drunk_26 : decode cX12_drunk 26 = .ok (.iconst 1, 1) := by decide +kernel
theorem dX12_drunk_27 : decode cX12_drunk 27 = .ok (.bipush 60, 2) := by decide +kernel
theorem dX12_drunk_29 : decode cX12_drunk 29 = .ok (.invokestatic 156, 3) := by decide +kernel
theorem dX12_drunk_32 : decode cX12_drunk 32 = .ok (.ifCond .ne 9, 3) := by decide +kernel
theorem dX12_drunk_35 : decode cX12_drunk 35 = .ok (.aload_n 0, 1) := by decide +kernel
theorem dX12_drunk_36 : decode cX12_drunk 36 = .ok (.iconst (-1), 1) := by decide +kernel
theorem dX12_drunk_37 : decode cX12_drunk 37 = .ok (.invokevirtual 160, 3) := by decide +kernel
theorem dX12_drunk_40 : decode cX12_drunk 40 = .ok (.ireturn, 1) := by decide +kernel
theorem dX12_drunk_41 : decode cX12_drunk 41 = .ok (.aload_n 0, 1) := by decide +kernel
theorem dX12_drunk_42 : decode cX12_drunk 42 = .ok (.iload_n 1, 1) := by decide +kernel
theorem dX12_drunk_43 : decode cX12_drunk 43 = .ok (.putfield 544, 3) := by decide +kernel
theorem dX12_drunk_46 : decode cX12_drunk 46 = .ok (.aload_n 0, 1) := by decide +kernel
theorem dX12_drunk_47 : decode cX12_drunk 47 = .ok (.iconst 1, 1) := by decide +kernel
theorem dX12_drunk_48 : decode cX12_drunk 48 = .ok (.putfield 554, 3) := by decide +kernel
theorem dX12_drunk_51 : decode cX12_drunk 51 = .ok (.aload_n 0, 1) := by decide +kernel
theorem dX12_drunk_52 : decode cX12_drunk 52 = .ok (.getfield 153, 3) := by decide +kernel
theorem dX12_drunk_55 : decode cX12_drunk 55 = .ok (.iconst 0, 1) := by decide +kernel
theorem dX12_drunk_56 : decode cX12_drunk 56 = .ok (.iload_n 3, 1) := by decide +kernel
theorem dX12_drunk_57 : decode cX12_drunk 57 = .ok (.iastore, 1) := by decide +kernel
theorem dX12_drunk_58 : decode cX12_drunk 58 = .ok (.iconst 1, 1) := by decide +kernel
theorem dX12_drunk_59 : decode cX12_drunk 59 = .ok (.istore 5, 2) := by decide +kernel
theorem dX12_drunk_61 : decode cX12_drunk 61 = .ok (.iload 5, 2) := by decide +kernel
theorem dX12_drunk_63 : decode cX12_drunk 63 = .ok (.bipush 120, 2) := by decide +kernel
theorem dX12_drunk_65 : decode cX12_drunk 65 = .ok (.if_icmp .ge 48, 3) := by decide +kernel
theorem dX12_drunk_68 : decode cX12_drunk 68 = .ok (.aload_n 0, 1) := by decide +kernel
theorem dX12_drunk_69 : decode cX12_drunk 69 = .ok (.getfield 153, 3) := by decide +kernel
theorem dX12_drunk_72 : decode cX12_drunk 72 = .ok (.iload 5, 2) := by decide +kernel
theorem dX12_drunk_74 : decode cX12_drunk 74 = .ok (.iload 5, 2) := by decide +kernel
theorem dX12_drunk_76 : decode cX12_drunk 76 = .ok (.iload 4, 2) := by decide +kernel
theorem dX12_drunk_78 : decode cX12_drunk 78 = .ok (.if_icmp .gt 19, 3) := by decide +kernel
theorem dX12_drunk_81 : decode cX12_drunk 81 = .ok (.aload_n 0, 1) := by decide +kernel
theorem dX12_drunk_82 : decode cX12_drunk 82 = .ok (.aload_n 0, 1) := by decide +kernel
theorem dX12_drunk_83 : decode cX12_drunk 83 = .ok (.getfield 153, 3) := by decide +kernel
theorem dX12_drunk_86 : decode cX12_drunk 86 = .ok (.iload 5, 2) := by decide +kernel
theorem dX12_drunk_88 : decode cX12_drunk 88 = .ok (.iconst 1, 1) := by decide +kernel
theorem dX12_drunk_89 : decode cX12_drunk 89 = .ok (.isub, 1) := by decide +kernel
theorem dX12_drunk_90 : decode cX12_drunk 90 = .ok (.iaload, 1) := by decide +kernel
theorem dX12_drunk_91 : decode cX12_drunk 91 = .ok (.invokevirtual 557, 3) := by decide +kernel
theorem dX12_drunk_94 : decode cX12_drunk 94 = .ok (.goto 12, 3) := by decide +kernel
theorem dX12_drunk_97 : decode cX12_drunk 97 = .ok (.aload_n 0, 1) := by decide +kernel
theorem dX12_drunk_98 : decode cX12_drunk 98 = .ok (.getfield 153, 3) := by decide +kernel
theorem dX12_drunk_101 : decode cX12_drunk 101 = .ok (.iload 5, 2) := by decide +kernel
theorem dX12_drunk_103 : decode cX12_drunk 103 = .ok (.iconst 1, 1) := by decide +kernel
theorem dX12_drunk_104 : decode cX12_drunk 104 = .ok (.isub, 1) := by decide +kernel
theorem dX12_drunk_105 : decode cX12_drunk 105 = .ok (.iaload, 1) := by decide +kernel
theorem dX12_drunk_106 : decode cX12_drunk 106 = .ok (.iastore, 1) := by decide +kernel
theorem dX12_drunk_107 : decode cX12_drunk 107 = .ok (.iinc 5 1, 3) := by decide +kernel
theorem dX12_drunk_110 : decode cX12_drunk 110 = .ok (.goto (-49), 3) := by decide +kernel
theorem dX12_drunk_113 : decode cX12_drunk 113 = .ok (.aload_n 0, 1) := by decide +kernel
theorem dX12_drunk_114 : decode cX12_drunk 114 = .ok (.invokevirtual 416, 3) := by decide +kernel
theorem dX12_drunk_117 : decode cX12_drunk 117 = .ok (.aload_n 0, 1) := by decide +kernel
theorem dX12_drunk_118 : decode cX12_drunk 118 = .ok (.getfield 101, 3) := by decide +kernel
theorem dX12_drunk_121 : decode cX12_drunk 121 = .ok (.aload_n 0, 1) := by decide +kernel
theorem dX12_drunk_122 : decode cX12_drunk 122 = .ok (.getfield 381, 3) := by decide +kernel
theorem dX12_drunk_125 : decode cX12_drunk 125 = .ok (.iload_n 2, 1) := by decide +kernel
theorem dX12_drunk_126 : decode cX12_drunk 126 = .ok (.iastore, 1) := by decide +kernel
theorem dX12_drunk_127 : decode cX12_drunk 127 = .ok (.iconst 0, 1) := by decide +kernel
theorem dX12_drunk_128 : decode cX12_drunk 128 = .ok (.istore 5, 2) := by decide +kernel
theorem dX12_drunk_130 : decode cX12_drunk 130 = .ok (.iload 5, 2) := by decide +kernel
theorem dX12_drunk_132 : decode cX12_drunk 132 = .ok (.bipush 120, 2) := by decide +kernel
theorem dX12_drunk_134 : decode cX12_drunk 134 = .ok (.if_icmp .ge 31, 3) := by decide +kernel
theorem dX12_drunk_137 : decode cX12_drunk 137 = .ok (.aload_n 0, 1) := by decide +kernel
theorem dX12_drunk_138 : decode cX12_drunk 138 = .ok (.getfield 98, 3) := by decide +kernel
theorem dX12_drunk_141 : decode cX12_drunk 141 = .ok (.bipush 120, 2) := by decide +kernel
theorem dX12_drunk_143 : decode cX12_drunk 143 = .ok (.aload_n 0, 1) := by decide +kernel
theorem dX12_drunk_144 : decode cX12_drunk 144 = .ok (.getfield 381, 3) := by decide +kernel
theorem dX12_drunk_147 : decode cX12_drunk 147 = .ok (.imul, 1) := by decide +kernel
theorem dX12_drunk_148 : decode cX12_drunk 148 = .ok (.iload 5, 2) := by decide +kernel
theorem dX12_drunk_150 : decode cX12_drunk 150 = .ok (.iadd, 1) := by decide +kernel
theorem dX12_drunk_151 : decode cX12_drunk 151 = .ok (.aload_n 0, 1) := by decide +kernel
theorem dX12_drunk_152 : decode cX12_drunk 152 = .ok (.getfield 153, 3) := by decide +kernel
theorem dX12_drunk_155 : decode cX12_drunk 155 = .ok (.iload 5, 2) := by decide +kernel
theorem dX12_drunk_157 : decode cX12_drunk 157 = .ok (.iaload, 1) := by decide +kernel
theorem dX12_drunk_158 : decode cX12_drunk 158 = .ok (.iastore, 1) := by decide +kernel
theorem dX12_drunk_159 : decode cX12_drunk 159 = .ok (.iinc 5 1, 3) := by decide +kernel
theorem dX12_drunk_162 : decode cX12_drunk 162 = .ok (.goto (-32), 3) := by decide +kernel
theorem dX12_drunk_165 : decode cX12_drunk 165 = .ok (.aload_n 0, 1) := by decide +kernel
theorem dX12_drunk_166 : decode cX12_drunk 166 = .ok (.dup, 1) := by decide +kernel
theorem dX12_drunk_167 : decode cX12_drunk 167 = .ok (.getfield 381, 3) := by decide +kernel
theorem dX12_drunk_170 : decode cX12_drunk 170 = .ok (.iconst 1, 1) := by decide +kernel
theorem dX12_drunk_171 : decode cX12_drunk 171 = .ok (.iadd, 1) := by decide +kernel
theorem dX12_drunk_172 : decode cX12_drunk 172 = .ok (.putfield 381, 3) := by decide +kernel
theorem dX12_drunk_175 : decode cX12_drunk 175 = .ok (.aload_n 0, 1) := by decide +kernel
theorem dX12_drunk_176 : decode cX12_drunk 176 = .ok (.iconst 0, 1) := by decide +kernel
theorem dX12_drunk_177 : decode cX12_drunk 177 = .ok (.invokevirtual 455, 3) := by decide +kernel
theorem dX12_drunk_180 : decode cX12_drunk 180 = .ok (.aload_n 0, 1) := by decide +kernel
theorem dX12_drunk_181 : decode cX12_drunk 181 = .ok (.aload_n 0, 1) := by decide +kernel
theorem dX12_drunk_182 : decode cX12_drunk 182 = .ok (.getfield 387, 3) := by decide +kernel
theorem dX12_drunk_185 : decode cX12_drunk 185 = .ok (.invokevirtual 164, 3) := by decide +kernel
theorem dX12_drunk_188 : decode cX12_drunk 188 = .ok (.ireturn, 1) := by decide +kernel
set_option maxRecDepth 20000 in
theorem T_X12_drunk_61 {Q : Option Value → ah_T → Prop} {h : ah_T} (hs : Sh h) (x2 : Int32) (x4 : Int32) (x5 : Int32) (ht : ((120 ≤ x5 → (Mt mX12_looks [.ref 82] h (ab_qv fun h27 => Sh h27 ∧ (vp_in (ah_i h27 82 42) (ah_n h27 108)) ∧ (∀ h31, h31 = ah_si h27 108 (Int32.toNatClampNeg (ah_i h27 82 42)) x2 → Wp mX12_drunk Q 0 0 130 [some (.ref 82), none, none, none, none, some (.int 0)] [] h31)))) ∧ (¬ 120 ≤ x5 → ((x4 < x5 → (vp_in (x5 - 1) (ah_n h 122)) ∧ (vp_in x5 (ah_n h 122)) ∧ (∀ h37, h37 = ah_si h 122 (Int32.toNatClampNeg x5) (ah_i h 122 (Int32.toNatClampNeg (x5 - 1))) → Wp mX12_drunk Q 0 0 61 [some (.ref 82), none, some (.int x2), none, some (.int x4), some (.int (x5 + 1))] [] h37)) ∧ (¬ x4 < x5 → (vp_in (x5 - 1) (ah_n h 122)) ∧ (Mt mX12_staggers [.ref 82, .int (ah_i h 122 (Int32.toNatClampNeg (x5 - 1)))] h (ab_qi fun v43 h41 => Sh h41 ∧ (vp_in x5 (ah_n h41 122)) ∧ (∀ h45, h45 = ah_si h41 122 (Int32.toNatClampNeg x5) v43 → Wp mX12_drunk Q 0 0 61 [some (.ref 82), none, some (.int x2), none, some (.int x4), some (.int (x5 + 1))] [] h45)))))))) : Wp mX12_drunk Q 0 0 61 [some (.ref 82), none, some (.int x2), none, some (.int x4), some (.int x5)] [] h := by
  refine ab_iload (i := 5) dX12_drunk_61 rfl ?_
  refine ab_bipush (v := 120) dX12_drunk_63 (by decide) ?_
  refine ab_icmp_ge (tgt := 113) dX12_drunk_65 (by decide) (fun c26 => ?_) (fun c26 => ?_)
  · have ht := ht.1 c26
    refine ab_aload_n (i := 0) dX12_drunk_113 rfl rfl ?_
    refine ab_callV (b := 82) (As := []) ht (Y_X12_looks) l_X12_416 in_X12_looks se_X12_looks (sh_k hs 82 12 (by decide) rfl) (by decide) rfl rfl ⟨(Nat.le_of_ble_eq_true rfl), (Nat.le_of_ble_eq_true rfl), (Nat.le_of_ble_eq_true rfl), (Nat.le_of_ble_eq_true rfl)⟩ dX12_drunk_114 ?_
    rintro _ h27 ⟨rfl, hs28, ht⟩
    refine ab_aload_n (i := 0) dX12_drunk_117 rfl rfl ?_
    refine ab_getR (b := 108) f_X12_101 rfl (sh_k hs28 82 12 (by decide) rfl) (sh_r hs28 124 rfl) dX12_drunk_118 ?_
    refine ab_aload_n (i := 0) dX12_drunk_121 rfl rfl ?_
    refine ab_getI f_X12_381 rfl (sh_k hs28 82 12 (by decide) rfl) dX12_drunk_122 ?_
    refine ab_iload_n (i := 2) dX12_drunk_125 rfl rfl ?_
    obtain ⟨hc30, ht⟩ := ht
    refine ab_iast (sh_k hs28 108 14 (by decide) rfl) hc30 dX12_drunk_126 ?_
    refine Wp.nm fun h31 e32 => ?_
    have ht := ht h31 e32
    have hs33 : Sh h31 := by rw [e32]; exact sh_si hs28
    refine ab_iconst (v := 0) dX12_drunk_127 (by decide) ?_
    refine ab_istore (i := 5) (L' := [some (.ref 82), none, some (.int x2), none, some (.int x4), some (.int 0)]) dX12_drunk_128 (by exact (Nat.le_of_ble_eq_true rfl)) rfl rfl ?_
    exact Wp.fewer (L' := [some (.ref 82), none, none, none, none, some (.int 0)]) (show ab_leL _ _ from ⟨rfl, ⟨rfl, trivial⟩⟩) ht
  · have ht := ht.2 c26
    refine ab_aload_n (i := 0) dX12_drunk_68 rfl rfl ?_
    refine ab_getR (b := 122) f_X12_153 rfl (sh_k hs 82 12 (by decide) rfl) (sh_r hs 138 rfl) dX12_drunk_69 ?_
    refine ab_iload (i := 5) dX12_drunk_72 rfl ?_
    refine ab_iload (i := 5) dX12_drunk_74 rfl ?_
    refine ab_iload (i := 4) dX12_drunk_76 rfl ?_
    refine ab_icmp_gt (tgt := 97) dX12_drunk_78 (by decide) (fun c34 => ?_) (fun c34 => ?_)
    · have ht := ht.1 c34
      refine ab_aload_n (i := 0) dX12_drunk_97 rfl rfl ?_
      refine ab_getR (b := 122) f_X12_153 rfl (sh_k hs 82 12 (by decide) rfl) (sh_r hs 138 rfl) dX12_drunk_98 ?_
      refine ab_iload (i := 5) dX12_drunk_101 rfl ?_
      refine ab_iconst (v := 1) dX12_drunk_103 (by decide) ?_
      refine ab_isub dX12_drunk_104 ?_
      obtain ⟨hc35, ht⟩ := ht
      refine ab_iald (sh_k hs 122 14 (by decide) rfl) hc35 dX12_drunk_105 ?_
      obtain ⟨hc36, ht⟩ := ht
      refine ab_iast (sh_k hs 122 14 (by decide) rfl) hc36 dX12_drunk_106 ?_
      refine Wp.nm fun h37 e38 => ?_
      have ht := ht h37 e38
      have hs39 : Sh h37 := by rw [e38]; exact sh_si hs
      refine ab_iinc (i := 5) (x := x5) (v := (x5 + 1)) (L' := [some (.ref 82), none, some (.int x2), none, some (.int x4), some (.int (x5 + 1))]) dX12_drunk_107 rfl rfl (by exact (Nat.le_of_ble_eq_true rfl)) rfl rfl ?_
      refine ab_goto (tgt := 61) dX12_drunk_110 (by decide) ?_
      exact Wp.fewer (L' := [some (.ref 82), none, some (.int x2), none, some (.int x4), some (.int (x5 + 1))]) (show ab_leL _ _ from ⟨rfl, ⟨rfl, ⟨rfl, ⟨rfl, trivial⟩⟩⟩⟩) ht
    · have ht := ht.2 c34
      refine ab_aload_n (i := 0) dX12_drunk_81 rfl rfl ?_
      refine ab_aload_n (i := 0) dX12_drunk_82 rfl rfl ?_
      refine ab_getR (b := 122) f_X12_153 rfl (sh_k hs 82 12 (by decide) rfl) (sh_r hs 138 rfl) dX12_drunk_83 ?_
      refine ab_iload (i := 5) dX12_drunk_86 rfl ?_
      refine ab_iconst (v := 1) dX12_drunk_88 (by decide) ?_
      refine ab_isub dX12_drunk_89 ?_
      obtain ⟨hc40, ht⟩ := ht
      refine ab_iald (sh_k hs 122 14 (by decide) rfl) hc40 dX12_drunk_90 ?_
      refine ab_callV (b := 82) (As := [.int (ah_i h 122 (Int32.toNatClampNeg (x5 - 1)))]) ht (Y_X12_staggers) l_X12_557 in_X12_staggers se_X12_staggers (sh_k hs 82 12 (by decide) rfl) (by decide) rfl rfl ⟨(Nat.le_of_ble_eq_true rfl), (Nat.le_of_ble_eq_true rfl), (Nat.le_of_ble_eq_true rfl), (Nat.le_of_ble_eq_true rfl)⟩ dX12_drunk_91 ?_
      rintro _ h41 ⟨v43, rfl, hs42, ht⟩
      refine ab_goto (tgt := 106) dX12_drunk_94 (by decide) ?_
      obtain ⟨hc44, ht⟩ := ht
      refine ab_iast (sh_k hs42 122 14 (by decide) rfl) hc44 dX12_drunk_106 ?_
      refine Wp.nm fun h45 e46 => ?_
      have ht := ht h45 e46
      have hs47 : Sh h45 := by rw [e46]; exact sh_si hs42
      refine ab_iinc (i := 5) (x := x5) (v := (x5 + 1)) (L' := [some (.ref 82), none, some (.int x2), none, some (.int x4), some (.int (x5 + 1))]) dX12_drunk_107 rfl rfl (by exact (Nat.le_of_ble_eq_true rfl)) rfl rfl ?_
      refine ab_goto (tgt := 61) dX12_drunk_110 (by decide) ?_
      exact Wp.fewer (L' := [some (.ref 82), none, some (.int x2), none, some (.int x4), some (.int (x5 + 1))]) (show ab_leL _ _ from ⟨rfl, ⟨rfl, ⟨rfl, ⟨rfl, trivial⟩⟩⟩⟩) ht
set_option maxRecDepth 20000 in
theorem T_X12_drunk_130 {Q : Option Value → ah_T → Prop} {h : ah_T} (hs : Sh h) (x5 : Int32) (ht : ((120 ≤ x5 → (∀ h49, h49 = ah_si h 82 42 ((ah_i h 82 42) + 1) → (Mt mX12_tries [.ref 82, .int 0] h49 (ab_qv fun h52 => Sh h52 ∧ (Mt mX12_good [.ref 82, .int (ah_i h52 82 47)] h52 (ab_qi fun v57 h55 => Sh h55 ∧ Q (some (.int v57)) h55)))))) ∧ (¬ 120 ≤ x5 → (vp_in x5 (ah_n h 122)) ∧ (vp_in ((120 * (ah_i h 82 42)) + x5) (ah_n h 107)) ∧ (∀ h60, h60 = ah_si h 107 (Int32.toNatClampNeg ((120 * (ah_i h 82 42)) + x5)) (ah_i h 122 (Int32.toNatClampNeg x5)) → Wp mX12_drunk Q 0 0 130 [some (.ref 82), none, none, none, none, some (.int (x5 + 1))] [] h60)))) : Wp mX12_drunk Q 0 0 130 [some (.ref 82), none, none, none, none, some (.int x5)] [] h := by
  refine ab_iload (i := 5) dX12_drunk_130 rfl ?_
  refine ab_bipush (v := 120) dX12_drunk_132 (by decide) ?_
  refine ab_icmp_ge (tgt := 165) dX12_drunk_134 (by decide) (fun c48 => ?_) (fun c48 => ?_)
  · have ht := ht.1 c48
    refine ab_aload_n (i := 0) dX12_drunk_165 rfl rfl ?_
    refine ab_dup dX12_drunk_166 rfl ?_
    refine ab_getI f_X12_381 rfl (sh_k hs 82 12 (by decide) rfl) dX12_drunk_167 ?_
    refine ab_iconst (v := 1) dX12_drunk_170 (by decide) ?_
    refine ab_iadd dX12_drunk_171 ?_
    refine ab_putI f_X12_381 (Or.inl rfl) rfl (sh_k hs 82 12 (by decide) rfl) rfl rfl dX12_drunk_172 ?_
    refine Wp.nm fun h49 e50 => ?_
    have ht := ht h49 e50
    have hs51 : Sh h49 := by rw [e50]; exact sh_si hs
    refine ab_aload_n (i := 0) dX12_drunk_175 rfl rfl ?_
    refine ab_iconst (v := 0) dX12_drunk_176 (by decide) ?_
    refine ab_callV (b := 82) (As := [.int 0]) ht (Y_X12_tries) l_X12_455 in_X12_tries se_X12_tries (sh_k hs51 82 12 (by decide) rfl) (by decide) rfl rfl ⟨(Nat.le_of_ble_eq_true rfl), (Nat.le_of_ble_eq_true rfl), (Nat.le_of_ble_eq_true rfl), (Nat.le_of_ble_eq_true rfl)⟩ dX12_drunk_177 ?_
    rintro _ h52 ⟨rfl, hs53, ht⟩
    refine ab_aload_n (i := 0) dX12_drunk_180 rfl rfl ?_
    refine ab_aload_n (i := 0) dX12_drunk_181 rfl rfl ?_
    refine ab_getI f_X12_387 rfl (sh_k hs53 82 12 (by decide) rfl) dX12_drunk_182 ?_
    refine ab_callV (b := 82) (As := [.int (ah_i h52 82 47)]) ht (Y_X12_good) l_X12_164 in_X12_good se_X12_good (sh_k hs53 82 12 (by decide) rfl) (by decide) rfl rfl ⟨(Nat.le_of_ble_eq_true rfl), (Nat.le_of_ble_eq_true rfl), (Nat.le_of_ble_eq_true rfl), (Nat.le_of_ble_eq_true rfl)⟩ dX12_drunk_185 ?_
    rintro _ h55 ⟨v57, rfl, hs56, ht⟩
    exact ab_iret rfl dX12_drunk_188 (Nat.le_of_ble_eq_true rfl) (Nat.le_of_ble_eq_true rfl) ht
  · have ht := ht.2 c48
    refine ab_aload_n (i := 0) dX12_drunk_137 rfl rfl ?_
    refine ab_getR (b := 107) f_X12_98 rfl (sh_k hs 82 12 (by decide) rfl) (sh_r hs 123 rfl) dX12_drunk_138 ?_
    refine ab_bipush (v := 120) dX12_drunk_141 (by decide) ?_
    refine ab_aload_n (i := 0) dX12_drunk_143 rfl rfl ?_
    refine ab_getI f_X12_381 rfl (sh_k hs 82 12 (by decide) rfl) dX12_drunk_144 ?_
    refine ab_imul dX12_drunk_147 ?_
    refine ab_iload (i := 5) dX12_drunk_148 rfl ?_
    refine ab_iadd dX12_drunk_150 ?_
    refine ab_aload_n (i := 0) dX12_drunk_151 rfl rfl ?_
    refine ab_getR (b := 122) f_X12_153 rfl (sh_k hs 82 12 (by decide) rfl) (sh_r hs 138 rfl) dX12_drunk_152 ?_
    refine ab_iload (i := 5) dX12_drunk_155 rfl ?_
    obtain ⟨hc58, ht⟩ := ht
    refine ab_iald (sh_k hs 122 14 (by decide) rfl) hc58 dX12_drunk_157 ?_
    obtain ⟨hc59, ht⟩ := ht
    refine ab_iast (sh_k hs 107 14 (by decide) rfl) hc59 dX12_drunk_158 ?_
    refine Wp.nm fun h60 e61 => ?_
    have ht := ht h60 e61
    have hs62 : Sh h60 := by rw [e61]; exact sh_si hs
    refine ab_iinc (i := 5) (x := x5) (v := (x5 + 1)) (L' := [some (.ref 82), none, none, none, none, some (.int (x5 + 1))]) dX12_drunk_159 rfl rfl (by exact (Nat.le_of_ble_eq_true rfl)) rfl rfl ?_
    refine ab_goto (tgt := 130) dX12_drunk_162 (by decide) ?_
    exact Wp.fewer (L' := [some (.ref 82), none, none, none, none, some (.int (x5 + 1))]) (show ab_leL _ _ from ⟨rfl, ⟨rfl, trivial⟩⟩) ht
set_option maxRecDepth 20000 in
theorem T_X12_drunk {Q : Option Value → ah_T → Prop} {h : ah_T} (hs : Sh h) (x1 : Int32) (x2 : Int32) (x3 : Int32) (x4 : Int32) (ht : (((f_X12_lies x1 0 1000000) = 0 → (Mt mX12_refuses [.ref 82, .int (-1)] h (ab_qi fun v4 h2 => Sh h2 ∧ Q (some (.int v4)) h2))) ∧ (¬ (f_X12_lies x1 0 1000000) = 0 → (((f_X12_isKind x2) = 0 → (Mt mX12_refuses [.ref 82, .int (-1)] h (ab_qi fun v8 h6 => Sh h6 ∧ Q (some (.int v8)) h6))) ∧ (¬ (f_X12_isKind x2) = 0 → (((f_X12_isCorner x3) = 0 → (Mt mX12_refuses [.ref 82, .int (-1)] h (ab_qi fun v12 h10 => Sh h10 ∧ Q (some (.int v12)) h10))) ∧ (¬ (f_X12_isCorner x3) = 0 → ((¬ (f_X12_lies x4 1 60) = 0 → (∀ h14, h14 = ah_si h 82 78 x1 → (∀ h17, h17 = ah_si h14 82 77 1 → (∀ h20, h20 = ah_si h17 122 (Int32.toNatClampNeg 0) x3 → Wp mX12_drunk Q 0 0 61 [some (.ref 82), none, some (.int x2), none, some (.int x4), some (.int 1)] [] h20)))) ∧ ((f_X12_lies x4 1 60) = 0 → (Mt mX12_refuses [.ref 82, .int (-1)] h (ab_qi fun v25 h23 => Sh h23 ∧ Q (some (.int v25)) h23))))))))))) : Mt mX12_drunk [.ref 82, .int x1, .int x2, .int x3, .int x4] h Q := by
  refine Mt.ofWp rfl (by exact (Nat.le_of_ble_eq_true rfl)) (Wp.fewer (L' := [some (.ref 82), some (.int x1), some (.int x2), some (.int x3), some (.int x4), none]) (show ab_leL _ _ from ⟨rfl, ⟨rfl, ⟨rfl, ⟨rfl, ⟨rfl, trivial⟩⟩⟩⟩⟩) ?_)
  refine ab_iload_n (i := 1) dX12_drunk_0 rfl rfl ?_
  refine ab_iconst (v := 0) dX12_drunk_1 (by decide) ?_
  refine ab_ldc (v := 1000000) (tb_8 (List.mem_of_getElem? (i := 138) (by decide +kernel)) rfl) dX12_drunk_2 ?_
  refine ab_callS (Q' := fun r h' => r = some (.int (f_X12_lies x1 0 1000000)) ∧ h = h') (As := [.int x1, .int 0, .int 1000000]) (c_X12_lies hs x1 0 1000000 ⟨rfl, rfl⟩) (Y_X12_lies) l_X12_156 st_X12_lies rfl ⟨(Nat.le_of_ble_eq_true rfl), (Nat.le_of_ble_eq_true rfl), (Nat.le_of_ble_eq_true rfl), (Nat.le_of_ble_eq_true rfl)⟩ dX12_drunk_4 ?_
  rintro _ _ ⟨rfl, rfl⟩
  refine ab_if_eq (tgt := 35) dX12_drunk_7 (by decide) (fun c1 => ?_) (fun c1 => ?_)
  · have ht := ht.1 c1
    refine ab_aload_n (i := 0) dX12_drunk_35 rfl rfl ?_
    refine ab_iconst (v := (-1)) dX12_drunk_36 (by decide) ?_
    refine ab_callV (b := 82) (As := [.int (-1)]) ht (Y_X12_refuses) l_X12_160 in_X12_refuses se_X12_refuses (sh_k hs 82 12 (by decide) rfl) (by decide) rfl rfl ⟨(Nat.le_of_ble_eq_true rfl), (Nat.le_of_ble_eq_true rfl), (Nat.le_of_ble_eq_true rfl), (Nat.le_of_ble_eq_true rfl)⟩ dX12_drunk_37 ?_
    rintro _ h2 ⟨v4, rfl, hs3, ht⟩
    exact ab_iret rfl dX12_drunk_40 (Nat.le_of_ble_eq_true rfl) (Nat.le_of_ble_eq_true rfl) ht
  · have ht := ht.2 c1
    refine ab_iload_n (i := 2) dX12_drunk_10 rfl rfl ?_
    refine ab_callS (Q' := fun r h' => r = some (.int (f_X12_isKind x2)) ∧ h = h') (As := [.int x2]) (c_X12_isKind hs x2 ⟨rfl, rfl⟩) (Y_X12_isKind) l_X12_192 st_X12_isKind rfl ⟨(Nat.le_of_ble_eq_true rfl), (Nat.le_of_ble_eq_true rfl), (Nat.le_of_ble_eq_true rfl), (Nat.le_of_ble_eq_true rfl)⟩ dX12_drunk_11 ?_
    rintro _ _ ⟨rfl, rfl⟩
    refine ab_if_eq (tgt := 35) dX12_drunk_14 (by decide) (fun c5 => ?_) (fun c5 => ?_)
    · have ht := ht.1 c5
      refine ab_aload_n (i := 0) dX12_drunk_35 rfl rfl ?_
      refine ab_iconst (v := (-1)) dX12_drunk_36 (by decide) ?_
      refine ab_callV (b := 82) (As := [.int (-1)]) ht (Y_X12_refuses) l_X12_160 in_X12_refuses se_X12_refuses (sh_k hs 82 12 (by decide) rfl) (by decide) rfl rfl ⟨(Nat.le_of_ble_eq_true rfl), (Nat.le_of_ble_eq_true rfl), (Nat.le_of_ble_eq_true rfl), (Nat.le_of_ble_eq_true rfl)⟩ dX12_drunk_37 ?_
      rintro _ h6 ⟨v8, rfl, hs7, ht⟩
      exact ab_iret rfl dX12_drunk_40 (Nat.le_of_ble_eq_true rfl) (Nat.le_of_ble_eq_true rfl) ht
    · have ht := ht.2 c5
      refine ab_iload_n (i := 3) dX12_drunk_17 rfl rfl ?_
      refine ab_callS (Q' := fun r h' => r = some (.int (f_X12_isCorner x3)) ∧ h = h') (As := [.int x3]) (c_X12_isCorner hs x3 ⟨rfl, rfl⟩) (Y_X12_isCorner) l_X12_174 st_X12_isCorner rfl ⟨(Nat.le_of_ble_eq_true rfl), (Nat.le_of_ble_eq_true rfl), (Nat.le_of_ble_eq_true rfl), (Nat.le_of_ble_eq_true rfl)⟩ dX12_drunk_18 ?_
      rintro _ _ ⟨rfl, rfl⟩
      refine ab_if_eq (tgt := 35) dX12_drunk_21 (by decide) (fun c9 => ?_) (fun c9 => ?_)
      · have ht := ht.1 c9
        refine ab_aload_n (i := 0) dX12_drunk_35 rfl rfl ?_
        refine ab_iconst (v := (-1)) dX12_drunk_36 (by decide) ?_
        refine ab_callV (b := 82) (As := [.int (-1)]) ht (Y_X12_refuses) l_X12_160 in_X12_refuses se_X12_refuses (sh_k hs 82 12 (by decide) rfl) (by decide) rfl rfl ⟨(Nat.le_of_ble_eq_true rfl), (Nat.le_of_ble_eq_true rfl), (Nat.le_of_ble_eq_true rfl), (Nat.le_of_ble_eq_true rfl)⟩ dX12_drunk_37 ?_
        rintro _ h10 ⟨v12, rfl, hs11, ht⟩
        exact ab_iret rfl dX12_drunk_40 (Nat.le_of_ble_eq_true rfl) (Nat.le_of_ble_eq_true rfl) ht
      · have ht := ht.2 c9
        refine ab_iload (i := 4) dX12_drunk_24 rfl ?_
        refine ab_iconst (v := 1) dX12_drunk_26 (by decide) ?_
        refine ab_bipush (v := 60) dX12_drunk_27 (by decide) ?_
        refine ab_callS (Q' := fun r h' => r = some (.int (f_X12_lies x4 1 60)) ∧ h = h') (As := [.int x4, .int 1, .int 60]) (c_X12_lies hs x4 1 60 ⟨rfl, rfl⟩) (Y_X12_lies) l_X12_156 st_X12_lies rfl ⟨(Nat.le_of_ble_eq_true rfl), (Nat.le_of_ble_eq_true rfl), (Nat.le_of_ble_eq_true rfl), (Nat.le_of_ble_eq_true rfl)⟩ dX12_drunk_29 ?_
        rintro _ _ ⟨rfl, rfl⟩
        refine ab_if_ne (tgt := 41) dX12_drunk_32 (by decide) (fun c13 => ?_) (fun c13 => ?_)
        · have ht := ht.1 c13
          refine ab_aload_n (i := 0) dX12_drunk_41 rfl rfl ?_
          refine ab_iload_n (i := 1) dX12_drunk_42 rfl rfl ?_
          refine ab_putI f_X12_544 (Or.inl rfl) rfl (sh_k hs 82 12 (by decide) rfl) rfl rfl dX12_drunk_43 ?_
          refine Wp.nm fun h14 e15 => ?_
          have ht := ht h14 e15
          have hs16 : Sh h14 := by rw [e15]; exact sh_si hs
          refine ab_aload_n (i := 0) dX12_drunk_46 rfl rfl ?_
          refine ab_iconst (v := 1) dX12_drunk_47 (by decide) ?_
          refine ab_putI f_X12_554 (Or.inl rfl) rfl (sh_k hs16 82 12 (by decide) rfl) rfl rfl dX12_drunk_48 ?_
          refine Wp.nm fun h17 e18 => ?_
          have ht := ht h17 e18
          have hs19 : Sh h17 := by rw [e18]; exact sh_si hs16
          refine ab_aload_n (i := 0) dX12_drunk_51 rfl rfl ?_
          refine ab_getR (b := 122) f_X12_153 rfl (sh_k hs19 82 12 (by decide) rfl) (sh_r hs19 138 rfl) dX12_drunk_52 ?_
          refine ab_iconst (v := 0) dX12_drunk_55 (by decide) ?_
          refine ab_iload_n (i := 3) dX12_drunk_56 rfl rfl ?_
          refine ab_iast (sh_k hs19 122 14 (by decide) rfl) (sh_in hs19 122 120 (by decide) (by decide) rfl (by unfold vp_in; decide)) dX12_drunk_57 ?_
          refine Wp.nm fun h20 e21 => ?_
          have ht := ht h20 e21
          have hs22 : Sh h20 := by rw [e21]; exact sh_si hs19
          refine ab_iconst (v := 1) dX12_drunk_58 (by decide) ?_
          refine ab_istore (i := 5) (L' := [some (.ref 82), some (.int x1), some (.int x2), some (.int x3), some (.int x4), some (.int 1)]) dX12_drunk_59 (by exact (Nat.le_of_ble_eq_true rfl)) rfl rfl ?_
          exact Wp.fewer (L' := [some (.ref 82), none, some (.int x2), none, some (.int x4), some (.int 1)]) (show ab_leL _ _ from ⟨rfl, ⟨rfl, ⟨rfl, ⟨rfl, trivial⟩⟩⟩⟩) ht
        · have ht := ht.2 c13
          refine ab_aload_n (i := 0) dX12_drunk_35 rfl rfl ?_
          refine ab_iconst (v := (-1)) dX12_drunk_36 (by decide) ?_
          refine ab_callV (b := 82) (As := [.int (-1)]) ht (Y_X12_refuses) l_X12_160 in_X12_refuses se_X12_refuses (sh_k hs 82 12 (by decide) rfl) (by decide) rfl rfl ⟨(Nat.le_of_ble_eq_true rfl), (Nat.le_of_ble_eq_true rfl), (Nat.le_of_ble_eq_true rfl), (Nat.le_of_ble_eq_true rfl)⟩ dX12_drunk_37 ?_
          rintro _ h23 ⟨v25, rfl, hs24, ht⟩
          exact ab_iret rfl dX12_drunk_40 (Nat.le_of_ble_eq_true rfl) (Nat.le_of_ble_eq_true rfl) ht
theorem dX12_count_0 : decode cX12_count 0 = .ok (.iload_n 1, 1) := by decide +kernel
theorem dX12_count_1 : decode cX12_count 1 = .ok (.tableswitch 165 0 16 #[83, 83, 83, 83, 83, 94, 103, 112, 117, 117, 117, 127, 134, 142, 151, 151, 151], 83) := by decide +kernel
theorem dX12_count_84 : decode cX12_count 84 = .ok (.aload_n 0, 1) := by decide +kernel
theorem dX12_count_85 : decode cX12_count 85 = .ok (.getfield 20, 3) := by decide +kernel
theorem dX12_count_88 : decode cX12_count 88 = .ok (.sipush 245, 3) := by decide +kernel
theorem dX12_count_91 : decode cX12_count 91 = .ok (.iload_n 1, 1) := by decide +kernel
theorem dX12_count_92 : decode cX12_count 92 = .ok (.iadd, 1) := by decide +kernel
theorem dX12_count_93 : decode cX12_count 93 = .ok (.iaload, 1) := by decide +kernel
theorem dX12_count_94 : decode cX12_count 94 = .ok (.ireturn, 1) := by decide +kernel
theorem dX12_count_95 : decode cX12_count 95 = .ok (.aload_n 0, 1) := by decide +kernel
theorem dX12_count_96 : decode cX12_count 96 = .ok (.getfield 20, 3) := by decide +kernel
theorem dX12_count_99 : decode cX12_count 99 = .ok (.sipush 251, 3) := by decide +kernel
theorem dX12_count_102 : decode cX12_count 102 = .ok (.iaload, 1) := by decide +kernel
theorem dX12_count_103 : decode cX12_count 103 = .ok (.ireturn, 1) := by decide +kernel
theorem dX12_count_104 : decode cX12_count 104 = .ok (.aload_n 0, 1) := by decide +kernel
theorem dX12_count_105 : decode cX12_count 105 = .ok (.getfield 20, 3) := by decide +kernel
theorem dX12_count_108 : decode cX12_count 108 = .ok (.sipush 250, 3) := by decide +kernel
theorem dX12_count_111 : decode cX12_count 111 = .ok (.iaload, 1) := by decide +kernel
theorem dX12_count_112 : decode cX12_count 112 = .ok (.ireturn, 1) := by decide +kernel
theorem dX12_count_113 : decode cX12_count 113 = .ok (.aload_n 0, 1) := by decide +kernel
theorem dX12_count_114 : decode cX12_count 114 = .ok (.getfield 214, 3) := by decide +kernel
theorem dX12_count_117 : decode cX12_count 117 = .ok (.ireturn, 1) := by decide +kernel
theorem dX12_count_118 : decode cX12_count 118 = .ok (.aload_n 0, 1) := by decide +kernel
theorem dX12_count_119 : decode cX12_count 119 = .ok (.getfield 7, 3) := by decide +kernel
theorem dX12_count_122 : decode cX12_count 122 = .ok (.iload_n 1, 1) := by decide +kernel
theorem dX12_count_123 : decode cX12_count 123 = .ok (.bipush 7, 2) := by decide +kernel
theorem dX12_count_125 : decode cX12_count 125 = .ok (.isub, 1) := by decide +kernel
theorem dX12_count_126 : decode cX12_count 126 = .ok (.iaload, 1) := by decide +kernel
theorem dX12_count_127 : decode cX12_count 127 = .ok (.ireturn, 1) := by decide +kernel
theorem dX12_count_128 : decode cX12_count 128 = .ok (.aload_n 0, 1) := by decide +kernel
theorem dX12_count_129 : decode cX12_count 129 = .ok (.getfield 7, 3) := by decide +kernel
theorem dX12_count_132 : decode cX12_count 132 = .ok (.iconst 5, 1) := by decide +kernel
theorem dX12_count_133 : decode cX12_count 133 = .ok (.iaload, 1) := by decide +kernel
theorem dX12_count_134 : decode cX12_count 134 = .ok (.ireturn, 1) := by decide +kernel
theorem dX12_count_135 : decode cX12_count 135 = .ok (.aload_n 0, 1) := by decide +kernel
theorem dX12_count_136 : decode cX12_count 136 = .ok (.getfield 7, 3) := by decide +kernel
theorem dX12_count_139 : decode cX12_count 139 = .ok (.bipush 6, 2) := by decide +kernel
theorem dX12_count_141 : decode cX12_count 141 = .ok (.iaload, 1) := by decide +kernel
theorem dX12_count_142 : decode cX12_count 142 = .ok (.ireturn, 1) := by decide +kernel
theorem dX12_count_143 : decode cX12_count 143 = .ok (.aload_n 0, 1) := by decide +kernel
theorem dX12_count_144 : decode cX12_count 144 = .ok (.getfield 20, 3) := by decide +kernel
theorem dX12_count_147 : decode cX12_count 147 = .ok (.sipush 252, 3) := by decide +kernel
theorem dX12_count_150 : decode cX12_count 150 = .ok (.iaload, 1) := by decide +kernel
theorem dX12_count_151 : decode cX12_count 151 = .ok (.ireturn, 1) := by decide +kernel
theorem dX12_count_152 : decode cX12_count 152 = .ok (.aload_n 0, 1) := by decide +kernel
theorem dX12_count_153 : decode cX12_count 153 = .ok (.getfield 20, 3) := by decide +kernel
theorem dX12_count_156 : decode cX12_count 156 = .ok (.sipush 242, 3) := by decide +kernel
theorem dX12_count_159 : decode cX12_count 159 = .ok (.iload_n 1, 1) := by decide +kernel
theorem dX12_count_160 : decode cX12_count 160 = .ok (.iadd, 1) := by decide +kernel
theorem dX12_count_161 : decode cX12_count 161 = .ok (.bipush 14, 2) := by decide +kernel
theorem dX12_count_163 : decode cX12_count 163 = .ok (.isub, 1) := by decide +kernel
theorem dX12_count_164 : decode cX12_count 164 = .ok (.iaload, 1) := by decide +kernel
theorem dX12_count_165 : decode cX12_count 165 = .ok (.ireturn, 1) := by decide +kernel
theorem dX12_count_166 : decode cX12_count 166 = .ok (.iconst (-1), 1) := by decide +kernel
theorem dX12_count_167 : decode cX12_count 167 = .ok (.ireturn, 1) := by decide +kernel
set_option maxRecDepth 20000 in
theorem T_X12_count {Q : Option Value → ah_T → Prop} {h : ah_T} (hs : Sh h) (x1 : Int32) (ht : ((x1 = 0 → (vp_in (245 + x1) (ah_n h 84)) ∧ Q (some (.int (ah_i h 84 (Int32.toNatClampNeg (245 + x1))))) h) ∧ (x1 = 1 → (vp_in (245 + x1) (ah_n h 84)) ∧ Q (some (.int (ah_i h 84 (Int32.toNatClampNeg (245 + x1))))) h) ∧ (x1 = 2 → (vp_in (245 + x1) (ah_n h 84)) ∧ Q (some (.int (ah_i h 84 (Int32.toNatClampNeg (245 + x1))))) h) ∧ (x1 = 3 → (vp_in (245 + x1) (ah_n h 84)) ∧ Q (some (.int (ah_i h 84 (Int32.toNatClampNeg (245 + x1))))) h) ∧ (x1 = 4 → (vp_in (245 + x1) (ah_n h 84)) ∧ Q (some (.int (ah_i h 84 (Int32.toNatClampNeg (245 + x1))))) h) ∧ (x1 = 5 → Q (some (.int (ah_i h 84 (Int32.toNatClampNeg 251)))) h) ∧ (x1 = 6 → Q (some (.int (ah_i h 84 (Int32.toNatClampNeg 250)))) h) ∧ (x1 = 7 → Q (some (.int (ah_i h 82 11))) h) ∧ (x1 = 8 → (vp_in (x1 - 7) (ah_n h 83)) ∧ Q (some (.int (ah_i h 83 (Int32.toNatClampNeg (x1 - 7))))) h) ∧ (x1 = 9 → (vp_in (x1 - 7) (ah_n h 83)) ∧ Q (some (.int (ah_i h 83 (Int32.toNatClampNeg (x1 - 7))))) h) ∧ (x1 = 10 → (vp_in (x1 - 7) (ah_n h 83)) ∧ Q (some (.int (ah_i h 83 (Int32.toNatClampNeg (x1 - 7))))) h) ∧ (x1 = 11 → Q (some (.int (ah_i h 83 (Int32.toNatClampNeg 5)))) h) ∧ (x1 = 12 → Q (some (.int (ah_i h 83 (Int32.toNatClampNeg 6)))) h) ∧ (x1 = 13 → Q (some (.int (ah_i h 84 (Int32.toNatClampNeg 252)))) h) ∧ (x1 = 14 → (vp_in ((242 + x1) - 14) (ah_n h 84)) ∧ Q (some (.int (ah_i h 84 (Int32.toNatClampNeg ((242 + x1) - 14))))) h) ∧ (x1 = 15 → (vp_in ((242 + x1) - 14) (ah_n h 84)) ∧ Q (some (.int (ah_i h 84 (Int32.toNatClampNeg ((242 + x1) - 14))))) h) ∧ (x1 = 16 → (vp_in ((242 + x1) - 14) (ah_n h 84)) ∧ Q (some (.int (ah_i h 84 (Int32.toNatClampNeg ((242 + x1) - 14))))) h) ∧ (¬ x1 = 0 → ¬ x1 = 1 → ¬ x1 = 2 → ¬ x1 = 3 → ¬ x1 = 4 → ¬ x1 = 5 → ¬ x1 = 6 → ¬ x1 = 7 → ¬ x1 = 8 → ¬ x1 = 9 → ¬ x1 = 10 → ¬ x1 = 11 → ¬ x1 = 12 → ¬ x1 = 13 → ¬ x1 = 14 → ¬ x1 = 15 → ¬ x1 = 16 → Q (some (.int (-1))) h))) : Mt mX12_count [.ref 82, .int x1] h Q := by
  refine Mt.ofWp rfl (by exact (Nat.le_of_ble_eq_true rfl)) (Wp.fewer (L' := [some (.ref 82), some (.int x1)]) (show ab_leL _ _ from ⟨rfl, ⟨rfl, trivial⟩⟩) ?_)
  refine ab_iload_n (i := 1) dX12_count_0 rfl rfl ?_
  have ht0 := ht
  by_cases c1 : x1 = 0
  · have ht := (ht0.1) c1
    refine ab_tableIn (off := 83) (tgt := 84) dX12_count_1 (by rw [c1]; decide) (by rw [c1]; decide) (by rw [c1]; rfl) (by decide) ?_
    refine ab_aload_n (i := 0) dX12_count_84 rfl rfl ?_
    refine ab_getR (b := 84) f_X12_20 rfl (sh_k hs 82 12 (by decide) rfl) (sh_r hs 100 rfl) dX12_count_85 ?_
    refine ab_sipush (v := 245) dX12_count_88 (by decide) ?_
    refine ab_iload_n (i := 1) dX12_count_91 rfl rfl ?_
    refine ab_iadd dX12_count_92 ?_
    obtain ⟨hc2, ht⟩ := ht
    refine ab_iald (sh_k hs 84 14 (by decide) rfl) hc2 dX12_count_93 ?_
    exact ab_iret rfl dX12_count_94 (Nat.le_of_ble_eq_true rfl) (Nat.le_of_ble_eq_true rfl) ht
  by_cases c3 : x1 = 1
  · have ht := (ht0.2.1) c3
    refine ab_tableIn (off := 83) (tgt := 84) dX12_count_1 (by rw [c3]; decide) (by rw [c3]; decide) (by rw [c3]; rfl) (by decide) ?_
    refine ab_aload_n (i := 0) dX12_count_84 rfl rfl ?_
    refine ab_getR (b := 84) f_X12_20 rfl (sh_k hs 82 12 (by decide) rfl) (sh_r hs 100 rfl) dX12_count_85 ?_
    refine ab_sipush (v := 245) dX12_count_88 (by decide) ?_
    refine ab_iload_n (i := 1) dX12_count_91 rfl rfl ?_
    refine ab_iadd dX12_count_92 ?_
    obtain ⟨hc4, ht⟩ := ht
    refine ab_iald (sh_k hs 84 14 (by decide) rfl) hc4 dX12_count_93 ?_
    exact ab_iret rfl dX12_count_94 (Nat.le_of_ble_eq_true rfl) (Nat.le_of_ble_eq_true rfl) ht
  by_cases c5 : x1 = 2
  · have ht := (ht0.2.2.1) c5
    refine ab_tableIn (off := 83) (tgt := 84) dX12_count_1 (by rw [c5]; decide) (by rw [c5]; decide) (by rw [c5]; rfl) (by decide) ?_
    refine ab_aload_n (i := 0) dX12_count_84 rfl rfl ?_
    refine ab_getR (b := 84) f_X12_20 rfl (sh_k hs 82 12 (by decide) rfl) (sh_r hs 100 rfl) dX12_count_85 ?_
    refine ab_sipush (v := 245) dX12_count_88 (by decide) ?_
    refine ab_iload_n (i := 1) dX12_count_91 rfl rfl ?_
    refine ab_iadd dX12_count_92 ?_
    obtain ⟨hc6, ht⟩ := ht
    refine ab_iald (sh_k hs 84 14 (by decide) rfl) hc6 dX12_count_93 ?_
    exact ab_iret rfl dX12_count_94 (Nat.le_of_ble_eq_true rfl) (Nat.le_of_ble_eq_true rfl) ht
  by_cases c7 : x1 = 3
  · have ht := (ht0.2.2.2.1) c7
    refine ab_tableIn (off := 83) (tgt := 84) dX12_count_1 (by rw [c7]; decide) (by rw [c7]; decide) (by rw [c7]; rfl) (by decide) ?_
    refine ab_aload_n (i := 0) dX12_count_84 rfl rfl ?_
    refine ab_getR (b := 84) f_X12_20 rfl (sh_k hs 82 12 (by decide) rfl) (sh_r hs 100 rfl) dX12_count_85 ?_
    refine ab_sipush (v := 245) dX12_count_88 (by decide) ?_
    refine ab_iload_n (i := 1) dX12_count_91 rfl rfl ?_
    refine ab_iadd dX12_count_92 ?_
    obtain ⟨hc8, ht⟩ := ht
    refine ab_iald (sh_k hs 84 14 (by decide) rfl) hc8 dX12_count_93 ?_
    exact ab_iret rfl dX12_count_94 (Nat.le_of_ble_eq_true rfl) (Nat.le_of_ble_eq_true rfl) ht
  by_cases c9 : x1 = 4
  · have ht := (ht0.2.2.2.2.1) c9
    refine ab_tableIn (off := 83) (tgt := 84) dX12_count_1 (by rw [c9]; decide) (by rw [c9]; decide) (by rw [c9]; rfl) (by decide) ?_
    refine ab_aload_n (i := 0) dX12_count_84 rfl rfl ?_
    refine ab_getR (b := 84) f_X12_20 rfl (sh_k hs 82 12 (by decide) rfl) (sh_r hs 100 rfl) dX12_count_85 ?_
    refine ab_sipush (v := 245) dX12_count_88 (by decide) ?_
    refine ab_iload_n (i := 1) dX12_count_91 rfl rfl ?_
    refine ab_iadd dX12_count_92 ?_
    obtain ⟨hc10, ht⟩ := ht
    refine ab_iald (sh_k hs 84 14 (by decide) rfl) hc10 dX12_count_93 ?_
    exact ab_iret rfl dX12_count_94 (Nat.le_of_ble_eq_true rfl) (Nat.le_of_ble_eq_true rfl) ht
  by_cases c11 : x1 = 5
  · have ht := (ht0.2.2.2.2.2.1) c11
    refine ab_tableIn (off := 94) (tgt := 95) dX12_count_1 (by rw [c11]; decide) (by rw [c11]; decide) (by rw [c11]; rfl) (by decide) ?_
    refine ab_aload_n (i := 0) dX12_count_95 rfl rfl ?_
    refine ab_getR (b := 84) f_X12_20 rfl (sh_k hs 82 12 (by decide) rfl) (sh_r hs 100 rfl) dX12_count_96 ?_
    refine ab_sipush (v := 251) dX12_count_99 (by decide) ?_
    refine ab_iald (sh_k hs 84 14 (by decide) rfl) (sh_in hs 84 5860 (by decide) (by decide) rfl (by unfold vp_in; decide)) dX12_count_102 ?_
    exact ab_iret rfl dX12_count_103 (Nat.le_of_ble_eq_true rfl) (Nat.le_of_ble_eq_true rfl) ht
  by_cases c12 : x1 = 6
  · have ht := (ht0.2.2.2.2.2.2.1) c12
    refine ab_tableIn (off := 103) (tgt := 104) dX12_count_1 (by rw [c12]; decide) (by rw [c12]; decide) (by rw [c12]; rfl) (by decide) ?_
    refine ab_aload_n (i := 0) dX12_count_104 rfl rfl ?_
    refine ab_getR (b := 84) f_X12_20 rfl (sh_k hs 82 12 (by decide) rfl) (sh_r hs 100 rfl) dX12_count_105 ?_
    refine ab_sipush (v := 250) dX12_count_108 (by decide) ?_
    refine ab_iald (sh_k hs 84 14 (by decide) rfl) (sh_in hs 84 5860 (by decide) (by decide) rfl (by unfold vp_in; decide)) dX12_count_111 ?_
    exact ab_iret rfl dX12_count_112 (Nat.le_of_ble_eq_true rfl) (Nat.le_of_ble_eq_true rfl) ht
  by_cases c13 : x1 = 7
  · have ht := (ht0.2.2.2.2.2.2.2.1) c13
    refine ab_tableIn (off := 112) (tgt := 113) dX12_count_1 (by rw [c13]; decide) (by rw [c13]; decide) (by rw [c13]; rfl) (by decide) ?_
    refine ab_aload_n (i := 0) dX12_count_113 rfl rfl ?_
    refine ab_getI f_X12_214 rfl (sh_k hs 82 12 (by decide) rfl) dX12_count_114 ?_
    exact ab_iret rfl dX12_count_117 (Nat.le_of_ble_eq_true rfl) (Nat.le_of_ble_eq_true rfl) ht
  by_cases c14 : x1 = 8
  · have ht := (ht0.2.2.2.2.2.2.2.2.1) c14
    refine ab_tableIn (off := 117) (tgt := 118) dX12_count_1 (by rw [c14]; decide) (by rw [c14]; decide) (by rw [c14]; rfl) (by decide) ?_
    refine ab_aload_n (i := 0) dX12_count_118 rfl rfl ?_
    refine ab_getR (b := 83) f_X12_7 rfl (sh_k hs 82 12 (by decide) rfl) (sh_r hs 99 rfl) dX12_count_119 ?_
    refine ab_iload_n (i := 1) dX12_count_122 rfl rfl ?_
    refine ab_bipush (v := 7) dX12_count_123 (by decide) ?_
    refine ab_isub dX12_count_125 ?_
    obtain ⟨hc15, ht⟩ := ht
    refine ab_iald (sh_k hs 83 14 (by decide) rfl) hc15 dX12_count_126 ?_
    exact ab_iret rfl dX12_count_127 (Nat.le_of_ble_eq_true rfl) (Nat.le_of_ble_eq_true rfl) ht
  by_cases c16 : x1 = 9
  · have ht := (ht0.2.2.2.2.2.2.2.2.2.1) c16
    refine ab_tableIn (off := 117) (tgt := 118) dX12_count_1 (by rw [c16]; decide) (by rw [c16]; decide) (by rw [c16]; rfl) (by decide) ?_
    refine ab_aload_n (i := 0) dX12_count_118 rfl rfl ?_
    refine ab_getR (b := 83) f_X12_7 rfl (sh_k hs 82 12 (by decide) rfl) (sh_r hs 99 rfl) dX12_count_119 ?_
    refine ab_iload_n (i := 1) dX12_count_122 rfl rfl ?_
    refine ab_bipush (v := 7) dX12_count_123 (by decide) ?_
    refine ab_isub dX12_count_125 ?_
    obtain ⟨hc17, ht⟩ := ht
    refine ab_iald (sh_k hs 83 14 (by decide) rfl) hc17 dX12_count_126 ?_
    exact ab_iret rfl dX12_count_127 (Nat.le_of_ble_eq_true rfl) (Nat.le_of_ble_eq_true rfl) ht
  by_cases c18 : x1 = 10
  · have ht := (ht0.2.2.2.2.2.2.2.2.2.2.1) c18
    refine ab_tableIn (off := 117) (tgt := 118) dX12_count_1 (by rw [c18]; decide) (by rw [c18]; decide) (by rw [c18]; rfl) (by decide) ?_
    refine ab_aload_n (i := 0) dX12_count_118 rfl rfl ?_
    refine ab_getR (b := 83) f_X12_7 rfl (sh_k hs 82 12 (by decide) rfl) (sh_r hs 99 rfl) dX12_count_119 ?_
    refine ab_iload_n (i := 1) dX12_count_122 rfl rfl ?_
    refine ab_bipush (v := 7) dX12_count_123 (by decide) ?_
    refine ab_isub dX12_count_125 ?_
    obtain ⟨hc19, ht⟩ := ht
    refine ab_iald (sh_k hs 83 14 (by decide) rfl) hc19 dX12_count_126 ?_
    exact ab_iret rfl dX12_count_127 (Nat.le_of_ble_eq_true rfl) (Nat.le_of_ble_eq_true rfl) ht
  by_cases c20 : x1 = 11
  · have ht := (ht0.2.2.2.2.2.2.2.2.2.2.2.1) c20
    refine ab_tableIn (off := 127) (tgt := 128) dX12_count_1 (by rw [c20]; decide) (by rw [c20]; decide) (by rw [c20]; rfl) (by decide) ?_
    refine ab_aload_n (i := 0) dX12_count_128 rfl rfl ?_
    refine ab_getR (b := 83) f_X12_7 rfl (sh_k hs 82 12 (by decide) rfl) (sh_r hs 99 rfl) dX12_count_129 ?_
    refine ab_iconst (v := 5) dX12_count_132 (by decide) ?_
    refine ab_iald (sh_k hs 83 14 (by decide) rfl) (sh_in hs 83 7 (by decide) (by decide) rfl (by unfold vp_in; decide)) dX12_count_133 ?_
    exact ab_iret rfl dX12_count_134 (Nat.le_of_ble_eq_true rfl) (Nat.le_of_ble_eq_true rfl) ht
  by_cases c21 : x1 = 12
  · have ht := (ht0.2.2.2.2.2.2.2.2.2.2.2.2.1) c21
    refine ab_tableIn (off := 134) (tgt := 135) dX12_count_1 (by rw [c21]; decide) (by rw [c21]; decide) (by rw [c21]; rfl) (by decide) ?_
    refine ab_aload_n (i := 0) dX12_count_135 rfl rfl ?_
    refine ab_getR (b := 83) f_X12_7 rfl (sh_k hs 82 12 (by decide) rfl) (sh_r hs 99 rfl) dX12_count_136 ?_
    refine ab_bipush (v := 6) dX12_count_139 (by decide) ?_
    refine ab_iald (sh_k hs 83 14 (by decide) rfl) (sh_in hs 83 7 (by decide) (by decide) rfl (by unfold vp_in; decide)) dX12_count_141 ?_
    exact ab_iret rfl dX12_count_142 (Nat.le_of_ble_eq_true rfl) (Nat.le_of_ble_eq_true rfl) ht
  by_cases c22 : x1 = 13
  · have ht := (ht0.2.2.2.2.2.2.2.2.2.2.2.2.2.1) c22
    refine ab_tableIn (off := 142) (tgt := 143) dX12_count_1 (by rw [c22]; decide) (by rw [c22]; decide) (by rw [c22]; rfl) (by decide) ?_
    refine ab_aload_n (i := 0) dX12_count_143 rfl rfl ?_
    refine ab_getR (b := 84) f_X12_20 rfl (sh_k hs 82 12 (by decide) rfl) (sh_r hs 100 rfl) dX12_count_144 ?_
    refine ab_sipush (v := 252) dX12_count_147 (by decide) ?_
    refine ab_iald (sh_k hs 84 14 (by decide) rfl) (sh_in hs 84 5860 (by decide) (by decide) rfl (by unfold vp_in; decide)) dX12_count_150 ?_
    exact ab_iret rfl dX12_count_151 (Nat.le_of_ble_eq_true rfl) (Nat.le_of_ble_eq_true rfl) ht
  by_cases c23 : x1 = 14
  · have ht := (ht0.2.2.2.2.2.2.2.2.2.2.2.2.2.2.1) c23
    refine ab_tableIn (off := 151) (tgt := 152) dX12_count_1 (by rw [c23]; decide) (by rw [c23]; decide) (by rw [c23]; rfl) (by decide) ?_
    refine ab_aload_n (i := 0) dX12_count_152 rfl rfl ?_
    refine ab_getR (b := 84) f_X12_20 rfl (sh_k hs 82 12 (by decide) rfl) (sh_r hs 100 rfl) dX12_count_153 ?_
    refine ab_sipush (v := 242) dX12_count_156 (by decide) ?_
    refine ab_iload_n (i := 1) dX12_count_159 rfl rfl ?_
    refine ab_iadd dX12_count_160 ?_
    refine ab_bipush (v := 14) dX12_count_161 (by decide) ?_
    refine ab_isub dX12_count_163 ?_
    obtain ⟨hc24, ht⟩ := ht
    refine ab_iald (sh_k hs 84 14 (by decide) rfl) hc24 dX12_count_164 ?_
    exact ab_iret rfl dX12_count_165 (Nat.le_of_ble_eq_true rfl) (Nat.le_of_ble_eq_true rfl) ht
  by_cases c25 : x1 = 15
  · have ht := (ht0.2.2.2.2.2.2.2.2.2.2.2.2.2.2.2.1) c25
    refine ab_tableIn (off := 151) (tgt := 152) dX12_count_1 (by rw [c25]; decide) (by rw [c25]; decide) (by rw [c25]; rfl) (by decide) ?_
    refine ab_aload_n (i := 0) dX12_count_152 rfl rfl ?_
    refine ab_getR (b := 84) f_X12_20 rfl (sh_k hs 82 12 (by decide) rfl) (sh_r hs 100 rfl) dX12_count_153 ?_
    refine ab_sipush (v := 242) dX12_count_156 (by decide) ?_
    refine ab_iload_n (i := 1) dX12_count_159 rfl rfl ?_
    refine ab_iadd dX12_count_160 ?_
    refine ab_bipush (v := 14) dX12_count_161 (by decide) ?_
    refine ab_isub dX12_count_163 ?_
    obtain ⟨hc26, ht⟩ := ht
    refine ab_iald (sh_k hs 84 14 (by decide) rfl) hc26 dX12_count_164 ?_
    exact ab_iret rfl dX12_count_165 (Nat.le_of_ble_eq_true rfl) (Nat.le_of_ble_eq_true rfl) ht
  by_cases c27 : x1 = 16
  · have ht := (ht0.2.2.2.2.2.2.2.2.2.2.2.2.2.2.2.2.1) c27
    refine ab_tableIn (off := 151) (tgt := 152) dX12_count_1 (by rw [c27]; decide) (by rw [c27]; decide) (by rw [c27]; rfl) (by decide) ?_
    refine ab_aload_n (i := 0) dX12_count_152 rfl rfl ?_
    refine ab_getR (b := 84) f_X12_20 rfl (sh_k hs 82 12 (by decide) rfl) (sh_r hs 100 rfl) dX12_count_153 ?_
    refine ab_sipush (v := 242) dX12_count_156 (by decide) ?_
    refine ab_iload_n (i := 1) dX12_count_159 rfl rfl ?_
    refine ab_iadd dX12_count_160 ?_
    refine ab_bipush (v := 14) dX12_count_161 (by decide) ?_
    refine ab_isub dX12_count_163 ?_
    obtain ⟨hc28, ht⟩ := ht
    refine ab_iald (sh_k hs 84 14 (by decide) rfl) hc28 dX12_count_164 ?_
    exact ab_iret rfl dX12_count_165 (Nat.le_of_ble_eq_true rfl) (Nat.le_of_ble_eq_true rfl) ht
  have ht := (ht0.2.2.2.2.2.2.2.2.2.2.2.2.2.2.2.2.2) c1 c3 c5 c7 c9 c11 c12 c13 c14 c16 c18 c20 c21 c22 c23 c25 c27
  refine ab_tableOut (tgt := 166) dX12_count_1 (by
      have zc1 := lv_neT (a := 0) c1 (by decide)
      have zc3 := lv_neT (a := 1) c3 (by decide)
      have zc5 := lv_neT (a := 2) c5 (by decide)
      have zc7 := lv_neT (a := 3) c7 (by decide)
      have zc9 := lv_neT (a := 4) c9 (by decide)
      have zc11 := lv_neT (a := 5) c11 (by decide)
      have zc12 := lv_neT (a := 6) c12 (by decide)
      have zc13 := lv_neT (a := 7) c13 (by decide)
      have zc14 := lv_neT (a := 8) c14 (by decide)
      have zc16 := lv_neT (a := 9) c16 (by decide)
      have zc18 := lv_neT (a := 10) c18 (by decide)
      have zc20 := lv_neT (a := 11) c20 (by decide)
      have zc21 := lv_neT (a := 12) c21 (by decide)
      have zc22 := lv_neT (a := 13) c22 (by decide)
      have zc23 := lv_neT (a := 14) c23 (by decide)
      have zc25 := lv_neT (a := 15) c25 (by decide)
      have zc27 := lv_neT (a := 16) c27 (by decide)
      omega) (by decide) ?_
  refine ab_iconst (v := (-1)) dX12_count_166 (by decide) ?_
  exact ab_iret rfl dX12_count_167 (Nat.le_of_ble_eq_true rfl) (Nat.le_of_ble_eq_true rfl) ht
