/-! ===== blocks of methods (printed by wip/whole/mkall.py) ===== -/
theorem dX8_heed_0 : decode cX8_heed 0 = .ok (.aload_n 0, 1) := by decide +kernel
theorem dX8_heed_1 : decode cX8_heed 1 = .ok (.getfield 40, 3) := by decide +kernel
theorem dX8_heed_4 : decode cX8_heed 4 = .ok (.invokevirtual 52, 3) := by decide +kernel
theorem dX8_heed_7 : decode cX8_heed 7 = .ok (.astore_n 2, 1) := by decide +kernel
theorem dX8_heed_8 : decode cX8_heed 8 = .ok (.aload_n 2, 1) := by decide +kernel
theorem dX8_heed_9 : decode cX8_heed 9 = .ok (.aload_n 0, 1) := by decide +kernel
theorem dX8_heed_10 : decode cX8_heed 10 = .ok (.getfield 9, 3) := by decide +kernel
theorem dX8_heed_13 : decode cX8_heed 13 = .ok (.if_acmp .ne 35, 3) := by decide +kernel
theorem dX8_heed_16 : decode cX8_heed 16 = .ok (.aload_n 0, 1) := by decide +kernel
theorem dX8_heed_17 : decode cX8_heed 17 = .ok (.getfield 15, 3) := by decide +kernel
theorem dX8_heed_20 : decode cX8_heed 20 = .ok (.aload_n 0, 1) := by decide +kernel
theorem dX8_heed_21 : decode cX8_heed 21 = .ok (.getfield 40, 3) := by decide +kernel
theorem dX8_heed_24 : decode cX8_heed 24 = .ok (.getfield 58, 3) := by decide +kernel
theorem dX8_heed_27 : decode cX8_heed 27 = .ok (.iconst 0, 1) := by decide +kernel
theorem dX8_heed_28 : decode cX8_heed 28 = .ok (.iaload, 1) := by decide +kernel
theorem dX8_heed_29 : decode cX8_heed 29 = .ok (.if_icmp .ne 19, 3) := by decide +kernel
theorem dX8_heed_32 : decode cX8_heed 32 = .ok (.aload_n 0, 1) := by decide +kernel
theorem dX8_heed_33 : decode cX8_heed 33 = .ok (.getfield 19, 3) := by decide +kernel
theorem dX8_heed_36 : decode cX8_heed 36 = .ok (.aload_n 0, 1) := by decide +kernel
theorem dX8_heed_37 : decode cX8_heed 37 = .ok (.getfield 40, 3) := by decide +kernel
theorem dX8_heed_40 : decode cX8_heed 40 = .ok (.getfield 58, 3) := by decide +kernel
theorem dX8_heed_43 : decode cX8_heed 43 = .ok (.iconst 2, 1) := by decide +kernel
theorem dX8_heed_44 : decode cX8_heed 44 = .ok (.iaload, 1) := by decide +kernel
theorem dX8_heed_45 : decode cX8_heed 45 = .ok (.if_icmp .eq 7, 3) := by decide +kernel
theorem dX8_heed_48 : decode cX8_heed 48 = .ok (.iconst 1, 1) := by decide +kernel
theorem dX8_heed_49 : decode cX8_heed 49 = .ok (.goto 4, 3) := by decide +kernel
theorem dX8_heed_52 : decode cX8_heed 52 = .ok (.iconst 0, 1) := by decide +kernel
theorem dX8_heed_53 : decode cX8_heed 53 = .ok (.istore_n 3, 1) := by decide +kernel
theorem dX8_heed_54 : decode cX8_heed 54 = .ok (.iload_n 3, 1) := by decide +kernel
theorem dX8_heed_55 : decode cX8_heed 55 = .ok (.ifCond .eq 44, 3) := by decide +kernel
theorem dX8_heed_58 : decode cX8_heed 58 = .ok (.aload_n 0, 1) := by decide +kernel
theorem dX8_heed_59 : decode cX8_heed 59 = .ok (.aload_n 2, 1) := by decide +kernel
theorem dX8_heed_60 : decode cX8_heed 60 = .ok (.putfield 9, 3) := by decide +kernel
theorem dX8_heed_63 : decode cX8_heed 63 = .ok (.aload_n 0, 1) := by decide +kernel
theorem dX8_heed_64 : decode cX8_heed 64 = .ok (.aload_n 0, 1) := by decide +kernel
theorem dX8_heed_65 : decode cX8_heed 65 = .ok (.getfield 40, 3) := by decide +kernel
theorem dX8_heed_68 : decode cX8_heed 68 = .ok (.getfield 58, 3) := by decide +kernel
theorem dX8_heed_71 : decode cX8_heed 71 = .ok (.iconst 0, 1) := by decide +kernel
theorem dX8_heed_72 : decode cX8_heed 72 = .ok (.iaload, 1) := by decide +kernel
theorem dX8_heed_73 : decode cX8_heed 73 = .ok (.putfield 15, 3) := by decide +kernel
theorem dX8_heed_76 : decode cX8_heed 76 = .ok (.aload_n 0, 1) := by decide +kernel
theorem dX8_heed_77 : decode cX8_heed 77 = .ok (.aload_n 0, 1) := by decide +kernel
theorem dX8_heed_78 : decode cX8_heed 78 = .ok (.getfield 40, 3) := by decide +kernel
theorem dX8_heed_81 : decode cX8_heed 81 = .ok (.getfield 58, 3) := by decide +kernel
theorem dX8_heed_84 : decode cX8_heed 84 = .ok (.iconst 2, 1) := by decide +kernel
theorem dX8_heed_85 : decode cX8_heed 85 = .ok (.iaload, 1) := by decide +kernel
theorem dX8_heed_86 : decode cX8_heed 86 = .ok (.putfield 19, 3) := by decide +kernel
theorem dX8_heed_89 : decode cX8_heed 89 = .ok (.aload_n 0, 1) := by decide +kernel
theorem dX8_heed_90 : decode cX8_heed 90 = .ok (.dup, 1) := by decide +kernel
theorem dX8_heed_91 : decode cX8_heed 91 = .ok (.getfield 26, 3) := by decide +kernel
theorem dX8_heed_94 : decode cX8_heed 94 = .ok (.lconst 1, 1) := by decide +kernel
theorem dX8_heed_95 : decode cX8_heed 95 = .ok (.ladd, 1) := by decide +kernel
theorem dX8_heed_96 : decode cX8_heed 96 = .ok (.putfield 26, 3) := by decide +kernel
theorem dX8_heed_99 : decode cX8_heed 99 = .ok (.iload_n 3, 1) := by decide +kernel
theorem dX8_heed_100 : decode cX8_heed 100 = .ok (.ifCond .ne 7, 3) := by decide +kernel
theorem dX8_heed_103 : decode cX8_heed 103 = .ok (.iload_n 1, 1) := by decide +kernel
theorem dX8_heed_104 : decode cX8_heed 104 = .ok (.ifCond .eq 79, 3) := by decide +kernel
theorem dX8_heed_107 : decode cX8_heed 107 = .ok (.aload_n 0, 1) := by decide +kernel
theorem dX8_heed_108 : decode cX8_heed 108 = .ok (.iconst 0, 1) := by decide +kernel
theorem dX8_heed_109 : decode cX8_heed 109 = .ok (.iconst 5, 1) := by decide +kernel
theorem dX8_heed_110 : decode cX8_heed 110 = .ok (.invokevirtual 61, 3) := by decide +kernel
theorem dX8_heed_113 : decode cX8_heed 113 = .ok (.ifCond .eq 8, 3) := by decide +kernel
theorem dX8_heed_116 : decode cX8_heed 116 = .ok (.bipush 120, 2) := by decide +kernel
theorem dX8_heed_118 : decode cX8_heed 118 = .ok (.goto 4, 3) := by decide +kernel
theorem dX8_heed_121 : decode cX8_heed 121 = .ok (.iconst 1, 1) := by decide +kernel
theorem dX8_heed_122 : decode cX8_heed 122 = .ok (.istore 4, 2) := by decide +kernel
theorem dX8_heed_124 : decode cX8_heed 124 = .ok (.aload_n 0, 1) := by decide +kernel
theorem dX8_heed_125 : decode cX8_heed 125 = .ok (.getfield 30, 3) := by decide +kernel
theorem dX8_heed_128 : decode cX8_heed 128 = .ok (.iconst 0, 1) := by decide +kernel
theorem dX8_heed_129 : decode cX8_heed 129 = .ok (.iload 4, 2) := by decide +kernel
theorem dX8_heed_131 : decode cX8_heed 131 = .ok (.iconst 2, 1) := by decide +kernel
theorem dX8_heed_132 : decode cX8_heed 132 = .ok (.imul, 1) := by decide +kernel
theorem dX8_heed_133 : decode cX8_heed 133 = .ok (.bipush 10, 2) := by decide +kernel
theorem dX8_heed_135 : decode cX8_heed 135 = .ok (.imul, 1) := by decide +kernel
theorem dX8_heed_136 : decode cX8_heed 136 = .ok (.iconst (-1), 1) := by decide +kernel
theorem dX8_heed_137 : decode cX8_heed 137 = .ok (.invokestatic 65, 3) := by decide +kernel
theorem dX8_heed_140 : decode cX8_heed 140 = .ok (.aload_n 0, 1) := by decide +kernel
theorem dX8_heed_141 : decode cX8_heed 141 = .ok (.getfield 34, 3) := by decide +kernel
theorem dX8_heed_144 : decode cX8_heed 144 = .ok (.iconst 0, 1) := by decide +kernel
theorem dX8_heed_145 : decode cX8_heed 145 = .ok (.iload 4, 2) := by decide +kernel
theorem dX8_heed_147 : decode cX8_heed 147 = .ok (.bipush 6, 2) := by decide +kernel
theorem dX8_heed_149 : decode cX8_heed 149 = .ok (.imul, 1) := by decide +kernel
theorem dX8_heed_150 : decode cX8_heed 150 = .ok (.bipush 12, 2) := by decide +kernel
theorem dX8_heed_152 : decode cX8_heed 152 = .ok (.imul, 1) := by decide +kernel
theorem dX8_heed_153 : decode cX8_heed 153 = .ok (.iconst (-1), 1) := by decide +kernel
theorem dX8_heed_154 : decode cX8_heed 154 = .ok (.invokestatic 65, 3) := by decide +kernel
theorem dX8_heed_157 : decode cX8_heed 157 = .ok (.aload_n 0, 1) := by decide +kernel
theorem dX8_heed_158 : decode cX8_heed 158 = .ok (.getfield 37, 3) := by decide +kernel
theorem dX8_heed_161 : decode cX8_heed 161 = .ok (.iconst 0, 1) := by decide +kernel
theorem dX8_heed_162 : decode cX8_heed 162 = .ok (.aload_n 0, 1) := by decide +kernel
theorem dX8_heed_163 : decode cX8_heed 163 = .ok (.iconst 2, 1) := by decide +kernel
theorem dX8_heed_164 : decode cX8_heed 164 = .ok (.iconst 5, 1) := by decide +kernel
theorem dX8_heed_165 : decode cX8_heed 165 = .ok (.invokevirtual 61, 3) := by decide +kernel
theorem dX8_heed_168 : decode cX8_heed 168 = .ok (.ifCond .eq 9, 3) := by decide +kernel
theorem dX8_heed_171 : decode cX8_heed 171 = .ok (.sipush 1200, 3) := by decide +kernel
theorem dX8_heed_174 : decode cX8_heed 174 = .ok (.goto 5, 3) := by decide +kernel
theorem dX8_heed_177 : decode cX8_heed 177 = .ok (.bipush 10, 2) := by decide +kernel
theorem dX8_heed_179 : decode cX8_heed 179 = .ok (.iconst (-1), 1) := by decide +kernel
theorem dX8_heed_180 : decode cX8_heed 180 = .ok (.invokestatic 65, 3) := by decide +kernel
theorem dX8_heed_183 : decode cX8_heed 183 = .ok (.return_, 1) := by decide +kernel
set_option maxRecDepth 20000 in
theorem T_X8_heed_48 {Q : Option Value → ah_T → Prop} {h : ah_T} (hs : Sh h) (x1 : Int32) (x2 : Int64) (ht : (∀ h24, h24 = ah_sr h 38 3 none → (∀ h27, h27 = ah_si h24 38 4 (ah_i h24 14 (Int32.toNatClampNeg 0)) → (∀ h30, h30 = ah_si h27 38 5 (ah_i h27 14 (Int32.toNatClampNeg 2)) → (∀ h33, h33 = ah_sl h30 38 7 ((ah_l h30 38 7) + (1 : Int64)) → Wp mX8_heed Q 0 0 99 [some (.ref 38), some (.int x1), none, some (.int 1), none] [] h33))))) : Wp mX8_heed Q 0 0 48 [some (.ref 38), some (.int x1), some (.null), none, none] [] h := by
  refine ab_iconst (v := 1) dX8_heed_48 (by decide) ?_
  refine ab_goto (tgt := 53) dX8_heed_49 (by decide) ?_
  refine ab_istore_n (i := 3) (L' := [some (.ref 38), some (.int x1), some (.null), some (.int 1), none]) dX8_heed_53 rfl (by exact (Nat.le_of_ble_eq_true rfl)) rfl rfl ?_
  refine ab_iload_n (i := 3) dX8_heed_54 rfl rfl ?_
  refine ab_if_eq (tgt := 99) dX8_heed_55 (by decide) (fun q => absurd q (by decide)) (fun _ => ?_)
  refine ab_aload_n (i := 0) dX8_heed_58 rfl rfl ?_
  refine ab_aload_nN (i := 2) dX8_heed_59 rfl rfl ?_
  refine ab_putR (r := none) f_X8_9 (Or.inl rfl) rfl (sh_k hs 38 8 (by decide) rfl) (fun x => by cases x <;> rfl) (fun x => by cases x <;> rfl) dX8_heed_60 ?_
  refine Wp.nm fun h24 e25 => ?_
  have ht := ht h24 e25
  have hs26 : Sh h24 := by rw [e25]; exact sh_sr hs (by decide +kernel)
  refine ab_aload_n (i := 0) dX8_heed_63 rfl rfl ?_
  refine ab_aload_n (i := 0) dX8_heed_64 rfl rfl ?_
  refine ab_getR (b := 1) f_X8_40 rfl (sh_k hs26 38 8 (by decide) rfl) (sh_r hs26 43 rfl) dX8_heed_65 ?_
  refine ab_getR (b := 14) f_X8_58 rfl (sh_k hs26 1 10 (by decide) rfl) (sh_r hs26 19 rfl) dX8_heed_68 ?_
  refine ab_iconst (v := 0) dX8_heed_71 (by decide) ?_
  refine ab_iald (sh_k hs26 14 14 (by decide) rfl) (sh_in hs26 14 3 (by decide) (by decide) rfl (by unfold vp_in; decide)) dX8_heed_72 ?_
  refine ab_putI f_X8_15 (Or.inl rfl) rfl (sh_k hs26 38 8 (by decide) rfl) rfl rfl dX8_heed_73 ?_
  refine Wp.nm fun h27 e28 => ?_
  have ht := ht h27 e28
  have hs29 : Sh h27 := by rw [e28]; exact sh_si hs26
  refine ab_aload_n (i := 0) dX8_heed_76 rfl rfl ?_
  refine ab_aload_n (i := 0) dX8_heed_77 rfl rfl ?_
  refine ab_getR (b := 1) f_X8_40 rfl (sh_k hs29 38 8 (by decide) rfl) (sh_r hs29 43 rfl) dX8_heed_78 ?_
  refine ab_getR (b := 14) f_X8_58 rfl (sh_k hs29 1 10 (by decide) rfl) (sh_r hs29 19 rfl) dX8_heed_81 ?_
  refine ab_iconst (v := 2) dX8_heed_84 (by decide) ?_
  refine ab_iald (sh_k hs29 14 14 (by decide) rfl) (sh_in hs29 14 3 (by decide) (by decide) rfl (by unfold vp_in; decide)) dX8_heed_85 ?_
  refine ab_putI f_X8_19 (Or.inl rfl) rfl (sh_k hs29 38 8 (by decide) rfl) rfl rfl dX8_heed_86 ?_
  refine Wp.nm fun h30 e31 => ?_
  have ht := ht h30 e31
  have hs32 : Sh h30 := by rw [e31]; exact sh_si hs29
  refine ab_aload_n (i := 0) dX8_heed_89 rfl rfl ?_
  refine ab_dup dX8_heed_90 rfl ?_
  refine ab_getL f_X8_26 rfl (sh_k hs32 38 8 (by decide) rfl) dX8_heed_91 ?_
  refine ab_lconst (v := 1) dX8_heed_94 (by decide) ?_
  refine ab_ladd dX8_heed_95 ?_
  refine ab_putL f_X8_26 (Or.inl rfl) rfl (sh_k hs32 38 8 (by decide) rfl) dX8_heed_96 ?_
  refine Wp.nm fun h33 e34 => ?_
  have ht := ht h33 e34
  have hs35 : Sh h33 := by rw [e34]; exact sh_sl hs32
  exact Wp.fewer (L' := [some (.ref 38), some (.int x1), none, some (.int 1), none]) (show ab_leL _ _ from ⟨rfl, ⟨rfl, ⟨rfl, trivial⟩⟩⟩) ht
set_option maxRecDepth 20000 in
theorem T_X8_heed_99 {Q : Option Value → ah_T → Prop} {h : ah_T} (hs : Sh h) (x1 : Int32) (x3 : Int32) (ht : ((¬ x3 = 0 → Wp mX8_heed Q 0 0 107 [some (.ref 38), none, none, none, none] [] h) ∧ (x3 = 0 → ((x1 = 0 → Wp mX8_heed Q 0 0 183 [none, none, none, none, none] [] h) ∧ (¬ x1 = 0 → Wp mX8_heed Q 0 0 107 [some (.ref 38), none, none, none, none] [] h))))) : Wp mX8_heed Q 0 0 99 [some (.ref 38), some (.int x1), none, some (.int x3), none] [] h := by
  refine ab_iload_n (i := 3) dX8_heed_99 rfl rfl ?_
  refine ab_if_ne (tgt := 107) dX8_heed_100 (by decide) (fun c36 => ?_) (fun c36 => ?_)
  · have ht := ht.1 c36
    exact Wp.fewer (L' := [some (.ref 38), none, none, none, none]) (show ab_leL _ _ from ⟨rfl, trivial⟩) ht
  · have ht := ht.2 c36
    refine ab_iload_n (i := 1) dX8_heed_103 rfl rfl ?_
    refine ab_if_eq (tgt := 183) dX8_heed_104 (by decide) (fun c37 => ?_) (fun c37 => ?_)
    · have ht := ht.1 c37
      exact Wp.fewer (L' := [none, none, none, none, none]) (show ab_leL _ _ from trivial) ht
    · have ht := ht.2 c37
      exact Wp.fewer (L' := [some (.ref 38), none, none, none, none]) (show ab_leL _ _ from ⟨rfl, trivial⟩) ht
set_option maxRecDepth 20000 in
theorem T_X8_heed_107 {Q : Option Value → ah_T → Prop} {h : ah_T} (hs : Sh h)  (ht : (Mt mX8_heeds [.ref 38, .int 0, .int 5] h (ab_qi fun v40 h38 => Sh h38 ∧ ((v40 = 0 → (Mt mJ7_fill_fda19 [.ref 40, .int 0, .int ((1 * 2) * 10), .int (-1)] h38 (ab_qv fun h42 => Sh h42 ∧ (Mt mJ7_fill_fda19 [.ref 41, .int 0, .int ((1 * 6) * 12), .int (-1)] h42 (ab_qv fun h45 => Sh h45 ∧ (Mt mX8_heeds [.ref 38, .int 2, .int 5] h45 (ab_qi fun v50 h48 => Sh h48 ∧ ((v50 = 0 → (Mt mJ7_fill_fda19 [.ref 42, .int 0, .int 10, .int (-1)] h48 (ab_qv fun h52 => Sh h52 ∧ Wp mX8_heed Q 0 0 183 [none, none, none, none, none] [] h52))) ∧ (¬ v50 = 0 → (Mt mJ7_fill_fda19 [.ref 42, .int 0, .int 1200, .int (-1)] h48 (ab_qv fun h55 => Sh h55 ∧ Wp mX8_heed Q 0 0 183 [none, none, none, none, none] [] h55))))))))))) ∧ (¬ v40 = 0 → (Mt mJ7_fill_fda19 [.ref 40, .int 0, .int ((120 * 2) * 10), .int (-1)] h38 (ab_qv fun h58 => Sh h58 ∧ (Mt mJ7_fill_fda19 [.ref 41, .int 0, .int ((120 * 6) * 12), .int (-1)] h58 (ab_qv fun h61 => Sh h61 ∧ (Mt mX8_heeds [.ref 38, .int 2, .int 5] h61 (ab_qi fun v66 h64 => Sh h64 ∧ ((v66 = 0 → (Mt mJ7_fill_fda19 [.ref 42, .int 0, .int 10, .int (-1)] h64 (ab_qv fun h68 => Sh h68 ∧ Wp mX8_heed Q 0 0 183 [none, none, none, none, none] [] h68))) ∧ (¬ v66 = 0 → (Mt mJ7_fill_fda19 [.ref 42, .int 0, .int 1200, .int (-1)] h64 (ab_qv fun h71 => Sh h71 ∧ Wp mX8_heed Q 0 0 183 [none, none, none, none, none] [] h71))))))))))))))) : Wp mX8_heed Q 0 0 107 [some (.ref 38), none, none, none, none] [] h := by
  refine ab_aload_n (i := 0) dX8_heed_107 rfl rfl ?_
  refine ab_iconst (v := 0) dX8_heed_108 (by decide) ?_
  refine ab_iconst (v := 5) dX8_heed_109 (by decide) ?_
  refine ab_callV (b := 38) (As := [.int 0, .int 5]) ht (Y_X8_heeds) l_X8_61 in_X8_heeds se_X8_heeds (sh_k hs 38 8 (by decide) rfl) (by decide) rfl rfl ⟨(Nat.le_of_ble_eq_true rfl), (Nat.le_of_ble_eq_true rfl), (Nat.le_of_ble_eq_true rfl), (Nat.le_of_ble_eq_true rfl)⟩ dX8_heed_110 ?_
  rintro _ h38 ⟨v40, rfl, hs39, ht⟩
  refine ab_if_eq (tgt := 121) dX8_heed_113 (by decide) (fun c41 => ?_) (fun c41 => ?_)
  · have ht := ht.1 c41
    refine ab_iconst (v := 1) dX8_heed_121 (by decide) ?_
    refine ab_istore (i := 4) (L' := [some (.ref 38), none, none, none, some (.int 1)]) dX8_heed_122 (by exact (Nat.le_of_ble_eq_true rfl)) rfl rfl ?_
    refine ab_aload_n (i := 0) dX8_heed_124 rfl rfl ?_
    refine ab_getR (b := 40) f_X8_30 rfl (sh_k hs39 38 8 (by decide) rfl) (sh_r hs39 47 rfl) dX8_heed_125 ?_
    refine ab_iconst (v := 0) dX8_heed_128 (by decide) ?_
    refine ab_iload (i := 4) dX8_heed_129 rfl ?_
    refine ab_iconst (v := 2) dX8_heed_131 (by decide) ?_
    refine ab_imul dX8_heed_132 ?_
    refine ab_bipush (v := 10) dX8_heed_133 (by decide) ?_
    refine ab_imul dX8_heed_135 ?_
    refine ab_iconst (v := (-1)) dX8_heed_136 (by decide) ?_
    refine ab_callS (As := [.ref 40, .int 0, .int ((1 * 2) * 10), .int (-1)]) ht (Y_J7_fill_fda19) l_X8_65 st_J7_fill_fda19 rfl ⟨(Nat.le_of_ble_eq_true rfl), (Nat.le_of_ble_eq_true rfl), (Nat.le_of_ble_eq_true rfl), (Nat.le_of_ble_eq_true rfl)⟩ dX8_heed_137 ?_
    rintro _ h42 ⟨rfl, hs43, ht⟩
    refine ab_aload_n (i := 0) dX8_heed_140 rfl rfl ?_
    refine ab_getR (b := 41) f_X8_34 rfl (sh_k hs43 38 8 (by decide) rfl) (sh_r hs43 48 rfl) dX8_heed_141 ?_
    refine ab_iconst (v := 0) dX8_heed_144 (by decide) ?_
    refine ab_iload (i := 4) dX8_heed_145 rfl ?_
    refine ab_bipush (v := 6) dX8_heed_147 (by decide) ?_
    refine ab_imul dX8_heed_149 ?_
    refine ab_bipush (v := 12) dX8_heed_150 (by decide) ?_
    refine ab_imul dX8_heed_152 ?_
    refine ab_iconst (v := (-1)) dX8_heed_153 (by decide) ?_
    refine ab_callS (As := [.ref 41, .int 0, .int ((1 * 6) * 12), .int (-1)]) ht (Y_J7_fill_fda19) l_X8_65 st_J7_fill_fda19 rfl ⟨(Nat.le_of_ble_eq_true rfl), (Nat.le_of_ble_eq_true rfl), (Nat.le_of_ble_eq_true rfl), (Nat.le_of_ble_eq_true rfl)⟩ dX8_heed_154 ?_
    rintro _ h45 ⟨rfl, hs46, ht⟩
    refine ab_aload_n (i := 0) dX8_heed_157 rfl rfl ?_
    refine ab_getR (b := 42) f_X8_37 rfl (sh_k hs46 38 8 (by decide) rfl) (sh_r hs46 49 rfl) dX8_heed_158 ?_
    refine ab_iconst (v := 0) dX8_heed_161 (by decide) ?_
    refine ab_aload_n (i := 0) dX8_heed_162 rfl rfl ?_
    refine ab_iconst (v := 2) dX8_heed_163 (by decide) ?_
    refine ab_iconst (v := 5) dX8_heed_164 (by decide) ?_
    refine ab_callV (b := 38) (As := [.int 2, .int 5]) ht (Y_X8_heeds) l_X8_61 in_X8_heeds se_X8_heeds (sh_k hs46 38 8 (by decide) rfl) (by decide) rfl rfl ⟨(Nat.le_of_ble_eq_true rfl), (Nat.le_of_ble_eq_true rfl), (Nat.le_of_ble_eq_true rfl), (Nat.le_of_ble_eq_true rfl)⟩ dX8_heed_165 ?_
    rintro _ h48 ⟨v50, rfl, hs49, ht⟩
    refine ab_if_eq (tgt := 177) dX8_heed_168 (by decide) (fun c51 => ?_) (fun c51 => ?_)
    · have ht := ht.1 c51
      refine ab_bipush (v := 10) dX8_heed_177 (by decide) ?_
      refine ab_iconst (v := (-1)) dX8_heed_179 (by decide) ?_
      refine ab_callS (As := [.ref 42, .int 0, .int 10, .int (-1)]) ht (Y_J7_fill_fda19) l_X8_65 st_J7_fill_fda19 rfl ⟨(Nat.le_of_ble_eq_true rfl), (Nat.le_of_ble_eq_true rfl), (Nat.le_of_ble_eq_true rfl), (Nat.le_of_ble_eq_true rfl)⟩ dX8_heed_180 ?_
      rintro _ h52 ⟨rfl, hs53, ht⟩
      exact Wp.fewer (L' := [none, none, none, none, none]) (show ab_leL _ _ from trivial) ht
    · have ht := ht.2 c51
      refine ab_sipush (v := 1200) dX8_heed_171 (by decide) ?_
      refine ab_goto (tgt := 179) dX8_heed_174 (by decide) ?_
      refine ab_iconst (v := (-1)) dX8_heed_179 (by decide) ?_
      refine ab_callS (As := [.ref 42, .int 0, .int 1200, .int (-1)]) ht (Y_J7_fill_fda19) l_X8_65 st_J7_fill_fda19 rfl ⟨(Nat.le_of_ble_eq_true rfl), (Nat.le_of_ble_eq_true rfl), (Nat.le_of_ble_eq_true rfl), (Nat.le_of_ble_eq_true rfl)⟩ dX8_heed_180 ?_
      rintro _ h55 ⟨rfl, hs56, ht⟩
      exact Wp.fewer (L' := [none, none, none, none, none]) (show ab_leL _ _ from trivial) ht
  · have ht := ht.2 c41
    refine ab_bipush (v := 120) dX8_heed_116 (by decide) ?_
    refine ab_goto (tgt := 122) dX8_heed_118 (by decide) ?_
    refine ab_istore (i := 4) (L' := [some (.ref 38), none, none, none, some (.int 120)]) dX8_heed_122 (by exact (Nat.le_of_ble_eq_true rfl)) rfl rfl ?_
    refine ab_aload_n (i := 0) dX8_heed_124 rfl rfl ?_
    refine ab_getR (b := 40) f_X8_30 rfl (sh_k hs39 38 8 (by decide) rfl) (sh_r hs39 47 rfl) dX8_heed_125 ?_
    refine ab_iconst (v := 0) dX8_heed_128 (by decide) ?_
    refine ab_iload (i := 4) dX8_heed_129 rfl ?_
    refine ab_iconst (v := 2) dX8_heed_131 (by decide) ?_
    refine ab_imul dX8_heed_132 ?_
    refine ab_bipush (v := 10) dX8_heed_133 (by decide) ?_
    refine ab_imul dX8_heed_135 ?_
    refine ab_iconst (v := (-1)) dX8_heed_136 (by decide) ?_
    refine ab_callS (As := [.ref 40, .int 0, .int ((120 * 2) * 10), .int (-1)]) ht (Y_J7_fill_fda19) l_X8_65 st_J7_fill_fda19 rfl ⟨(Nat.le_of_ble_eq_true rfl), (Nat.le_of_ble_eq_true rfl), (Nat.le_of_ble_eq_true rfl), (Nat.le_of_ble_eq_true rfl)⟩ dX8_heed_137 ?_
    rintro _ h58 ⟨rfl, hs59, ht⟩
    refine ab_aload_n (i := 0) dX8_heed_140 rfl rfl ?_
    refine ab_getR (b := 41) f_X8_34 rfl (sh_k hs59 38 8 (by decide) rfl) (sh_r hs59 48 rfl) dX8_heed_141 ?_
    refine ab_iconst (v := 0) dX8_heed_144 (by decide) ?_
    refine ab_iload (i := 4) dX8_heed_145 rfl ?_
    refine ab_bipush (v := 6) dX8_heed_147 (by decide) ?_
    refine ab_imul dX8_heed_149 ?_
    refine ab_bipush (v := 12) dX8_heed_150 (by decide) ?_
    refine ab_imul dX8_heed_152 ?_
    refine ab_iconst (v := (-1)) dX8_heed_153 (by decide) ?_
    refine ab_callS (As := [.ref 41, .int 0, .int ((120 * 6) * 12), .int (-1)]) ht (Y_J7_fill_fda19) l_X8_65 st_J7_fill_fda19 rfl ⟨(Nat.le_of_ble_eq_true rfl), (Nat.le_of_ble_eq_true rfl), (Nat.le_of_ble_eq_true rfl), (Nat.le_of_ble_eq_true rfl)⟩ dX8_heed_154 ?_
    rintro _ h61 ⟨rfl, hs62, ht⟩
    refine ab_aload_n (i := 0) dX8_heed_157 rfl rfl ?_
    refine ab_getR (b := 42) f_X8_37 rfl (sh_k hs62 38 8 (by decide) rfl) (sh_r hs62 49 rfl) dX8_heed_158 ?_
    refine ab_iconst (v := 0) dX8_heed_161 (by decide) ?_
    refine ab_aload_n (i := 0) dX8_heed_162 rfl rfl ?_
    refine ab_iconst (v := 2) dX8_heed_163 (by decide) ?_
    refine ab_iconst (v := 5) dX8_heed_164 (by decide) ?_
    refine ab_callV (b := 38) (As := [.int 2, .int 5]) ht (Y_X8_heeds) l_X8_61 in_X8_heeds se_X8_heeds (sh_k hs62 38 8 (by decide) rfl) (by decide) rfl rfl ⟨(Nat.le_of_ble_eq_true rfl), (Nat.le_of_ble_eq_true rfl), (Nat.le_of_ble_eq_true rfl), (Nat.le_of_ble_eq_true rfl)⟩ dX8_heed_165 ?_
    rintro _ h64 ⟨v66, rfl, hs65, ht⟩
    refine ab_if_eq (tgt := 177) dX8_heed_168 (by decide) (fun c67 => ?_) (fun c67 => ?_)
    · have ht := ht.1 c67
      refine ab_bipush (v := 10) dX8_heed_177 (by decide) ?_
      refine ab_iconst (v := (-1)) dX8_heed_179 (by decide) ?_
      refine ab_callS (As := [.ref 42, .int 0, .int 10, .int (-1)]) ht (Y_J7_fill_fda19) l_X8_65 st_J7_fill_fda19 rfl ⟨(Nat.le_of_ble_eq_true rfl), (Nat.le_of_ble_eq_true rfl), (Nat.le_of_ble_eq_true rfl), (Nat.le_of_ble_eq_true rfl)⟩ dX8_heed_180 ?_
      rintro _ h68 ⟨rfl, hs69, ht⟩
      exact Wp.fewer (L' := [none, none, none, none, none]) (show ab_leL _ _ from trivial) ht
    · have ht := ht.2 c67
      refine ab_sipush (v := 1200) dX8_heed_171 (by decide) ?_
      refine ab_goto (tgt := 179) dX8_heed_174 (by decide) ?_
      refine ab_iconst (v := (-1)) dX8_heed_179 (by decide) ?_
      refine ab_callS (As := [.ref 42, .int 0, .int 1200, .int (-1)]) ht (Y_J7_fill_fda19) l_X8_65 st_J7_fill_fda19 rfl ⟨(Nat.le_of_ble_eq_true rfl), (Nat.le_of_ble_eq_true rfl), (Nat.le_of_ble_eq_true rfl), (Nat.le_of_ble_eq_true rfl)⟩ dX8_heed_180 ?_
      rintro _ h71 ⟨rfl, hs72, ht⟩
      exact Wp.fewer (L' := [none, none, none, none, none]) (show ab_leL _ _ from trivial) ht
set_option maxRecDepth 20000 in
theorem T_X8_heed_183 {Q : Option Value → ah_T → Prop} {h : ah_T} (hs : Sh h)  (ht : Q none h) : Wp mX8_heed Q 0 0 183 [none, none, none, none, none] [] h := by
  exact ab_vret rfl dX8_heed_183 (Nat.le_of_ble_eq_true rfl) (Nat.le_of_ble_eq_true rfl) ht
set_option maxRecDepth 20000 in
theorem T_X8_heed {Q : Option Value → ah_T → Prop} {h : ah_T} (hs : Sh h) (x1 : Int32) (ht : (Mt mX10_lawInForce [.ref 1] h (ab_qr fun v3 h1 => Sh h1 ∧ ((v3 = none → ((ah_r h1 38 3 = none → ((¬ (none : Option Nat) = none → Wp mX8_heed Q 0 0 48 [some (.ref 38), some (.int x1), some (.null), none, none] [] h1) ∧ ((none : Option Nat) = none → ((¬ (ah_i h1 38 4) = (ah_i h1 14 (Int32.toNatClampNeg 0)) → Wp mX8_heed Q 0 0 48 [some (.ref 38), some (.int x1), some (.null), none, none] [] h1) ∧ ((ah_i h1 38 4) = (ah_i h1 14 (Int32.toNatClampNeg 0)) → (((ah_i h1 38 5) = (ah_i h1 14 (Int32.toNatClampNeg 2)) → Wp mX8_heed Q 0 0 99 [some (.ref 38), some (.int x1), none, some (.int 0), none] [] h1) ∧ (¬ (ah_i h1 38 5) = (ah_i h1 14 (Int32.toNatClampNeg 2)) → Wp mX8_heed Q 0 0 48 [some (.ref 38), some (.int x1), some (.null), none, none] [] h1))))))) ∧ (∀ b7, ah_r h1 38 3 = some b7 → (ah_k h1 b7 = 9) ∧ ((¬ (none : Option Nat) = some b7 → Wp mX8_heed Q 0 0 48 [some (.ref 38), some (.int x1), some (.null), none, none] [] h1) ∧ ((none : Option Nat) = some b7 → ((¬ (ah_i h1 38 4) = (ah_i h1 14 (Int32.toNatClampNeg 0)) → Wp mX8_heed Q 0 0 48 [some (.ref 38), some (.int x1), some (.null), none, none] [] h1) ∧ ((ah_i h1 38 4) = (ah_i h1 14 (Int32.toNatClampNeg 0)) → (((ah_i h1 38 5) = (ah_i h1 14 (Int32.toNatClampNeg 2)) → Wp mX8_heed Q 0 0 99 [some (.ref 38), some (.int x1), none, some (.int 0), none] [] h1) ∧ (¬ (ah_i h1 38 5) = (ah_i h1 14 (Int32.toNatClampNeg 2)) → Wp mX8_heed Q 0 0 48 [some (.ref 38), some (.int x1), some (.null), none, none] [] h1))))))))) ∧ (∀ b4, v3 = some b4 → (ah_k h1 b4 = 9) ∧ ((ah_r h1 38 3 = none → ((¬ (some b4 : Option Nat) = none → Wp mX8_heed Q 0 0 48 [some (.ref 38), some (.int x1), some (.ref b4), none, none] [] h1) ∧ ((some b4 : Option Nat) = none → ((¬ (ah_i h1 38 4) = (ah_i h1 14 (Int32.toNatClampNeg 0)) → Wp mX8_heed Q 0 0 48 [some (.ref 38), some (.int x1), some (.ref b4), none, none] [] h1) ∧ ((ah_i h1 38 4) = (ah_i h1 14 (Int32.toNatClampNeg 0)) → (((ah_i h1 38 5) = (ah_i h1 14 (Int32.toNatClampNeg 2)) → Wp mX8_heed Q 0 0 99 [some (.ref 38), some (.int x1), none, some (.int 0), none] [] h1) ∧ (¬ (ah_i h1 38 5) = (ah_i h1 14 (Int32.toNatClampNeg 2)) → Wp mX8_heed Q 0 0 48 [some (.ref 38), some (.int x1), some (.ref b4), none, none] [] h1))))))) ∧ (∀ b16, ah_r h1 38 3 = some b16 → (ah_k h1 b16 = 9) ∧ ((¬ (some b4 : Option Nat) = some b16 → Wp mX8_heed Q 0 0 48 [some (.ref 38), some (.int x1), some (.ref b4), none, none] [] h1) ∧ ((some b4 : Option Nat) = some b16 → ((¬ (ah_i h1 38 4) = (ah_i h1 14 (Int32.toNatClampNeg 0)) → Wp mX8_heed Q 0 0 48 [some (.ref 38), some (.int x1), some (.ref b4), none, none] [] h1) ∧ ((ah_i h1 38 4) = (ah_i h1 14 (Int32.toNatClampNeg 0)) → (((ah_i h1 38 5) = (ah_i h1 14 (Int32.toNatClampNeg 2)) → Wp mX8_heed Q 0 0 99 [some (.ref 38), some (.int x1), none, some (.int 0), none] [] h1) ∧ (¬ (ah_i h1 38 5) = (ah_i h1 14 (Int32.toNatClampNeg 2)) → Wp mX8_heed Q 0 0 48 [some (.ref 38), some (.int x1), some (.ref b4), none, none] [] h1))))))))))))) : Mt mX8_heed [.ref 38, .int x1] h Q := by
  refine Mt.ofWp rfl (by exact (Nat.le_of_ble_eq_true rfl)) (Wp.fewer (L' := [some (.ref 38), some (.int x1), none, none, none]) (show ab_leL _ _ from ⟨rfl, ⟨rfl, trivial⟩⟩) ?_)
  refine ab_aload_n (i := 0) dX8_heed_0 rfl rfl ?_
  refine ab_getR (b := 1) f_X8_40 rfl (sh_k hs 38 8 (by decide) rfl) (sh_r hs 43 rfl) dX8_heed_1 ?_
  refine ab_callV (b := 1) (As := []) ht (Y_X10_lawInForce) l_X8_52 in_X10_lawInForce se_X10_lawInForce (sh_k hs 1 10 (by decide) rfl) (by decide) rfl rfl ⟨(Nat.le_of_ble_eq_true rfl), (Nat.le_of_ble_eq_true rfl), (Nat.le_of_ble_eq_true rfl), (Nat.le_of_ble_eq_true rfl)⟩ dX8_heed_4 ?_
  rintro _ h1 ⟨v3, rfl, hs2, ht⟩
  rcases v3 with _ | b4
  · have ht := ht.1 rfl
    refine ab_astore_nN (i := 2) (L' := [some (.ref 38), some (.int x1), some (.null), none, none]) dX8_heed_7 rfl (by exact (Nat.le_of_ble_eq_true rfl)) rfl rfl ?_
    refine ab_aload_nN (i := 2) dX8_heed_8 rfl rfl ?_
    refine ab_aload_n (i := 0) dX8_heed_9 rfl rfl ?_
    rcases hr6 : ah_r h1 38 3 with _ | b7
    · have ht := ht.1 hr6
      refine ab_getN f_X8_9 rfl (sh_k hs2 38 8 (by decide) rfl) hr6 dX8_heed_10 ?_
      refine ab_acmp_ne (rx := none) (ry := none) (tgt := 48) dX8_heed_13 (by decide) (fun c9 => ?_) (fun c9 => ?_)
      · have ht := ht.1 c9
        exact Wp.fewer (L' := [some (.ref 38), some (.int x1), some (.null), none, none]) (show ab_leL _ _ from ⟨rfl, ⟨rfl, ⟨rfl, trivial⟩⟩⟩) ht
      · have ht := ht.2 c9
        refine ab_aload_n (i := 0) dX8_heed_16 rfl rfl ?_
        refine ab_getI f_X8_15 rfl (sh_k hs2 38 8 (by decide) rfl) dX8_heed_17 ?_
        refine ab_aload_n (i := 0) dX8_heed_20 rfl rfl ?_
        refine ab_getR (b := 1) f_X8_40 rfl (sh_k hs2 38 8 (by decide) rfl) (sh_r hs2 43 rfl) dX8_heed_21 ?_
        refine ab_getR (b := 14) f_X8_58 rfl (sh_k hs2 1 10 (by decide) rfl) (sh_r hs2 19 rfl) dX8_heed_24 ?_
        refine ab_iconst (v := 0) dX8_heed_27 (by decide) ?_
        refine ab_iald (sh_k hs2 14 14 (by decide) rfl) (sh_in hs2 14 3 (by decide) (by decide) rfl (by unfold vp_in; decide)) dX8_heed_28 ?_
        refine ab_icmp_ne (tgt := 48) dX8_heed_29 (by decide) (fun c10 => ?_) (fun c10 => ?_)
        · have ht := ht.1 c10
          exact Wp.fewer (L' := [some (.ref 38), some (.int x1), some (.null), none, none]) (show ab_leL _ _ from ⟨rfl, ⟨rfl, ⟨rfl, trivial⟩⟩⟩) ht
        · have ht := ht.2 c10
          refine ab_aload_n (i := 0) dX8_heed_32 rfl rfl ?_
          refine ab_getI f_X8_19 rfl (sh_k hs2 38 8 (by decide) rfl) dX8_heed_33 ?_
          refine ab_aload_n (i := 0) dX8_heed_36 rfl rfl ?_
          refine ab_getR (b := 1) f_X8_40 rfl (sh_k hs2 38 8 (by decide) rfl) (sh_r hs2 43 rfl) dX8_heed_37 ?_
          refine ab_getR (b := 14) f_X8_58 rfl (sh_k hs2 1 10 (by decide) rfl) (sh_r hs2 19 rfl) dX8_heed_40 ?_
          refine ab_iconst (v := 2) dX8_heed_43 (by decide) ?_
          refine ab_iald (sh_k hs2 14 14 (by decide) rfl) (sh_in hs2 14 3 (by decide) (by decide) rfl (by unfold vp_in; decide)) dX8_heed_44 ?_
          refine ab_icmp_eq (tgt := 52) dX8_heed_45 (by decide) (fun c11 => ?_) (fun c11 => ?_)
          · have ht := ht.1 c11
            refine ab_iconst (v := 0) dX8_heed_52 (by decide) ?_
            refine ab_istore_n (i := 3) (L' := [some (.ref 38), some (.int x1), some (.null), some (.int 0), none]) dX8_heed_53 rfl (by exact (Nat.le_of_ble_eq_true rfl)) rfl rfl ?_
            refine ab_iload_n (i := 3) dX8_heed_54 rfl rfl ?_
            refine ab_if_eq (tgt := 99) dX8_heed_55 (by decide) (fun _ => ?_) (fun q => absurd (by decide) q)
            exact Wp.fewer (L' := [some (.ref 38), some (.int x1), none, some (.int 0), none]) (show ab_leL _ _ from ⟨rfl, ⟨rfl, ⟨rfl, trivial⟩⟩⟩) ht
          · have ht := ht.2 c11
            exact Wp.fewer (L' := [some (.ref 38), some (.int x1), some (.null), none, none]) (show ab_leL _ _ from ⟨rfl, ⟨rfl, ⟨rfl, trivial⟩⟩⟩) ht
    · obtain ⟨hk8, ht⟩ := ht.2 b7 hr6
      refine ab_getR (b := b7) f_X8_9 rfl (sh_k hs2 38 8 (by decide) rfl) hr6 dX8_heed_10 ?_
      refine ab_acmp_ne (rx := none) (ry := some b7) (tgt := 48) dX8_heed_13 (by decide) (fun c12 => ?_) (fun c12 => ?_)
      · have ht := ht.1 c12
        exact Wp.fewer (L' := [some (.ref 38), some (.int x1), some (.null), none, none]) (show ab_leL _ _ from ⟨rfl, ⟨rfl, ⟨rfl, trivial⟩⟩⟩) ht
      · have ht := ht.2 c12
        refine ab_aload_n (i := 0) dX8_heed_16 rfl rfl ?_
        refine ab_getI f_X8_15 rfl (sh_k hs2 38 8 (by decide) rfl) dX8_heed_17 ?_
        refine ab_aload_n (i := 0) dX8_heed_20 rfl rfl ?_
        refine ab_getR (b := 1) f_X8_40 rfl (sh_k hs2 38 8 (by decide) rfl) (sh_r hs2 43 rfl) dX8_heed_21 ?_
        refine ab_getR (b := 14) f_X8_58 rfl (sh_k hs2 1 10 (by decide) rfl) (sh_r hs2 19 rfl) dX8_heed_24 ?_
        refine ab_iconst (v := 0) dX8_heed_27 (by decide) ?_
        refine ab_iald (sh_k hs2 14 14 (by decide) rfl) (sh_in hs2 14 3 (by decide) (by decide) rfl (by unfold vp_in; decide)) dX8_heed_28 ?_
        refine ab_icmp_ne (tgt := 48) dX8_heed_29 (by decide) (fun c13 => ?_) (fun c13 => ?_)
        · have ht := ht.1 c13
          exact Wp.fewer (L' := [some (.ref 38), some (.int x1), some (.null), none, none]) (show ab_leL _ _ from ⟨rfl, ⟨rfl, ⟨rfl, trivial⟩⟩⟩) ht
        · have ht := ht.2 c13
          refine ab_aload_n (i := 0) dX8_heed_32 rfl rfl ?_
          refine ab_getI f_X8_19 rfl (sh_k hs2 38 8 (by decide) rfl) dX8_heed_33 ?_
          refine ab_aload_n (i := 0) dX8_heed_36 rfl rfl ?_
          refine ab_getR (b := 1) f_X8_40 rfl (sh_k hs2 38 8 (by decide) rfl) (sh_r hs2 43 rfl) dX8_heed_37 ?_
          refine ab_getR (b := 14) f_X8_58 rfl (sh_k hs2 1 10 (by decide) rfl) (sh_r hs2 19 rfl) dX8_heed_40 ?_
          refine ab_iconst (v := 2) dX8_heed_43 (by decide) ?_
          refine ab_iald (sh_k hs2 14 14 (by decide) rfl) (sh_in hs2 14 3 (by decide) (by decide) rfl (by unfold vp_in; decide)) dX8_heed_44 ?_
          refine ab_icmp_eq (tgt := 52) dX8_heed_45 (by decide) (fun c14 => ?_) (fun c14 => ?_)
          · have ht := ht.1 c14
            refine ab_iconst (v := 0) dX8_heed_52 (by decide) ?_
            refine ab_istore_n (i := 3) (L' := [some (.ref 38), some (.int x1), some (.null), some (.int 0), none]) dX8_heed_53 rfl (by exact (Nat.le_of_ble_eq_true rfl)) rfl rfl ?_
            refine ab_iload_n (i := 3) dX8_heed_54 rfl rfl ?_
            refine ab_if_eq (tgt := 99) dX8_heed_55 (by decide) (fun _ => ?_) (fun q => absurd (by decide) q)
            exact Wp.fewer (L' := [some (.ref 38), some (.int x1), none, some (.int 0), none]) (show ab_leL _ _ from ⟨rfl, ⟨rfl, ⟨rfl, trivial⟩⟩⟩) ht
          · have ht := ht.2 c14
            exact Wp.fewer (L' := [some (.ref 38), some (.int x1), some (.null), none, none]) (show ab_leL _ _ from ⟨rfl, ⟨rfl, ⟨rfl, trivial⟩⟩⟩) ht
  · obtain ⟨hk5, ht⟩ := ht.2 b4 rfl
    refine ab_astore_n (i := 2) (L' := [some (.ref 38), some (.int x1), some (.ref b4), none, none]) dX8_heed_7 rfl (by exact (Nat.le_of_ble_eq_true rfl)) rfl rfl ?_
    refine ab_aload_n (i := 2) dX8_heed_8 rfl rfl ?_
    refine ab_aload_n (i := 0) dX8_heed_9 rfl rfl ?_
    rcases hr15 : ah_r h1 38 3 with _ | b16
    · have ht := ht.1 hr15
      refine ab_getN f_X8_9 rfl (sh_k hs2 38 8 (by decide) rfl) hr15 dX8_heed_10 ?_
      refine ab_acmp_ne (rx := some b4) (ry := none) (tgt := 48) dX8_heed_13 (by decide) (fun c18 => ?_) (fun c18 => ?_)
      · have ht := ht.1 c18
        exact Wp.fewer (L' := [some (.ref 38), some (.int x1), some (.ref b4), none, none]) (show ab_leL _ _ from ⟨rfl, ⟨rfl, ⟨rfl, trivial⟩⟩⟩) ht
      · have ht := ht.2 c18
        refine ab_aload_n (i := 0) dX8_heed_16 rfl rfl ?_
        refine ab_getI f_X8_15 rfl (sh_k hs2 38 8 (by decide) rfl) dX8_heed_17 ?_
        refine ab_aload_n (i := 0) dX8_heed_20 rfl rfl ?_
        refine ab_getR (b := 1) f_X8_40 rfl (sh_k hs2 38 8 (by decide) rfl) (sh_r hs2 43 rfl) dX8_heed_21 ?_
        refine ab_getR (b := 14) f_X8_58 rfl (sh_k hs2 1 10 (by decide) rfl) (sh_r hs2 19 rfl) dX8_heed_24 ?_
        refine ab_iconst (v := 0) dX8_heed_27 (by decide) ?_
        refine ab_iald (sh_k hs2 14 14 (by decide) rfl) (sh_in hs2 14 3 (by decide) (by decide) rfl (by unfold vp_in; decide)) dX8_heed_28 ?_
        refine ab_icmp_ne (tgt := 48) dX8_heed_29 (by decide) (fun c19 => ?_) (fun c19 => ?_)
        · have ht := ht.1 c19
          exact Wp.fewer (L' := [some (.ref 38), some (.int x1), some (.ref b4), none, none]) (show ab_leL _ _ from ⟨rfl, ⟨rfl, ⟨rfl, trivial⟩⟩⟩) ht
        · have ht := ht.2 c19
          refine ab_aload_n (i := 0) dX8_heed_32 rfl rfl ?_
          refine ab_getI f_X8_19 rfl (sh_k hs2 38 8 (by decide) rfl) dX8_heed_33 ?_
          refine ab_aload_n (i := 0) dX8_heed_36 rfl rfl ?_
          refine ab_getR (b := 1) f_X8_40 rfl (sh_k hs2 38 8 (by decide) rfl) (sh_r hs2 43 rfl) dX8_heed_37 ?_
          refine ab_getR (b := 14) f_X8_58 rfl (sh_k hs2 1 10 (by decide) rfl) (sh_r hs2 19 rfl) dX8_heed_40 ?_
          refine ab_iconst (v := 2) dX8_heed_43 (by decide) ?_
          refine ab_iald (sh_k hs2 14 14 (by decide) rfl) (sh_in hs2 14 3 (by decide) (by decide) rfl (by unfold vp_in; decide)) dX8_heed_44 ?_
          refine ab_icmp_eq (tgt := 52) dX8_heed_45 (by decide) (fun c20 => ?_) (fun c20 => ?_)
          · have ht := ht.1 c20
            refine ab_iconst (v := 0) dX8_heed_52 (by decide) ?_
            refine ab_istore_n (i := 3) (L' := [some (.ref 38), some (.int x1), some (.ref b4), some (.int 0), none]) dX8_heed_53 rfl (by exact (Nat.le_of_ble_eq_true rfl)) rfl rfl ?_
            refine ab_iload_n (i := 3) dX8_heed_54 rfl rfl ?_
            refine ab_if_eq (tgt := 99) dX8_heed_55 (by decide) (fun _ => ?_) (fun q => absurd (by decide) q)
            exact Wp.fewer (L' := [some (.ref 38), some (.int x1), none, some (.int 0), none]) (show ab_leL _ _ from ⟨rfl, ⟨rfl, ⟨rfl, trivial⟩⟩⟩) ht
          · have ht := ht.2 c20
            exact Wp.fewer (L' := [some (.ref 38), some (.int x1), some (.ref b4), none, none]) (show ab_leL _ _ from ⟨rfl, ⟨rfl, ⟨rfl, trivial⟩⟩⟩) ht
    · obtain ⟨hk17, ht⟩ := ht.2 b16 hr15
      refine ab_getR (b := b16) f_X8_9 rfl (sh_k hs2 38 8 (by decide) rfl) hr15 dX8_heed_10 ?_
      refine ab_acmp_ne (rx := some b4) (ry := some b16) (tgt := 48) dX8_heed_13 (by decide) (fun c21 => ?_) (fun c21 => ?_)
      · have ht := ht.1 c21
        exact Wp.fewer (L' := [some (.ref 38), some (.int x1), some (.ref b4), none, none]) (show ab_leL _ _ from ⟨rfl, ⟨rfl, ⟨rfl, trivial⟩⟩⟩) ht
      · have ht := ht.2 c21
        refine ab_aload_n (i := 0) dX8_heed_16 rfl rfl ?_
        refine ab_getI f_X8_15 rfl (sh_k hs2 38 8 (by decide) rfl) dX8_heed_17 ?_
        refine ab_aload_n (i := 0) dX8_heed_20 rfl rfl ?_
        refine ab_getR (b := 1) f_X8_40 rfl (sh_k hs2 38 8 (by decide) rfl) (sh_r hs2 43 rfl) dX8_heed_21 ?_
        refine ab_getR (b := 14) f_X8_58 rfl (sh_k hs2 1 10 (by decide) rfl) (sh_r hs2 19 rfl) dX8_heed_24 ?_
        refine ab_iconst (v := 0) dX8_heed_27 (by decide) ?_
        refine ab_iald (sh_k hs2 14 14 (by decide) rfl) (sh_in hs2 14 3 (by decide) (by decide) rfl (by unfold vp_in; decide)) dX8_heed_28 ?_
        refine ab_icmp_ne (tgt := 48) dX8_heed_29 (by decide) (fun c22 => ?_) (fun c22 => ?_)
        · have ht := ht.1 c22
          exact Wp.fewer (L' := [some (.ref 38), some (.int x1), some (.ref b4), none, none]) (show ab_leL _ _ from ⟨rfl, ⟨rfl, ⟨rfl, trivial⟩⟩⟩) ht
        · have ht := ht.2 c22
          refine ab_aload_n (i := 0) dX8_heed_32 rfl rfl ?_
          refine ab_getI f_X8_19 rfl (sh_k hs2 38 8 (by decide) rfl) dX8_heed_33 ?_
          refine ab_aload_n (i := 0) dX8_heed_36 rfl rfl ?_
          refine ab_getR (b := 1) f_X8_40 rfl (sh_k hs2 38 8 (by decide) rfl) (sh_r hs2 43 rfl) dX8_heed_37 ?_
          refine ab_getR (b := 14) f_X8_58 rfl (sh_k hs2 1 10 (by decide) rfl) (sh_r hs2 19 rfl) dX8_heed_40 ?_
          refine ab_iconst (v := 2) dX8_heed_43 (by decide) ?_
          refine ab_iald (sh_k hs2 14 14 (by decide) rfl) (sh_in hs2 14 3 (by decide) (by decide) rfl (by unfold vp_in; decide)) dX8_heed_44 ?_
          refine ab_icmp_eq (tgt := 52) dX8_heed_45 (by decide) (fun c23 => ?_) (fun c23 => ?_)
          · have ht := ht.1 c23
            refine ab_iconst (v := 0) dX8_heed_52 (by decide) ?_
            refine ab_istore_n (i := 3) (L' := [some (.ref 38), some (.int x1), some (.ref b4), some (.int 0), none]) dX8_heed_53 rfl (by exact (Nat.le_of_ble_eq_true rfl)) rfl rfl ?_
            refine ab_iload_n (i := 3) dX8_heed_54 rfl rfl ?_
            refine ab_if_eq (tgt := 99) dX8_heed_55 (by decide) (fun _ => ?_) (fun q => absurd (by decide) q)
            exact Wp.fewer (L' := [some (.ref 38), some (.int x1), none, some (.int 0), none]) (show ab_leL _ _ from ⟨rfl, ⟨rfl, ⟨rfl, trivial⟩⟩⟩) ht
          · have ht := ht.2 c23
            exact Wp.fewer (L' := [some (.ref 38), some (.int x1), some (.ref b4), none, none]) (show ab_leL _ _ from ⟨rfl, ⟨rfl, ⟨rfl, trivial⟩⟩⟩) ht
theorem dX8_heeds_0 : decode cX8_heeds 0 = .ok (.aload_n 0, 1) := by decide +kernel
theorem dX8_heeds_1 : decode cX8_heeds 1 = .ok (.getfield 9, 3) := by decide +kernel
theorem dX8_heeds_4 : decode cX8_heeds 4 = .ok (.ifnull 23, 3) := by decide +kernel
theorem dX8_heeds_7 : decode cX8_heeds 7 = .ok (.aload_n 0, 1) := by decide +kernel
theorem dX8_heeds_8 : decode cX8_heeds 8 = .ok (.getfield 9, 3) := by decide +kernel
theorem dX8_heeds_11 : decode cX8_heeds 11 = .ok (.getfield 71, 3) := by decide +kernel
theorem dX8_heeds_14 : decode cX8_heeds 14 = .ok (.iload_n 1, 1) := by decide +kernel
theorem dX8_heeds_15 : decode cX8_heeds 15 = .ok (.iaload, 1) := by decide +kernel
theorem dX8_heeds_16 : decode cX8_heeds 16 = .ok (.iload_n 2, 1) := by decide +kernel
theorem dX8_heeds_17 : decode cX8_heeds 17 = .ok (.ishr, 1) := by decide +kernel
theorem dX8_heeds_18 : decode cX8_heeds 18 = .ok (.iconst 1, 1) := by decide +kernel
theorem dX8_heeds_19 : decode cX8_heeds 19 = .ok (.iand, 1) := by decide +kernel
theorem dX8_heeds_20 : decode cX8_heeds 20 = .ok (.ifCond .eq 7, 3) := by decide +kernel
theorem dX8_heeds_23 : decode cX8_heeds 23 = .ok (.iconst 1, 1) := by decide +kernel
theorem dX8_heeds_24 : decode cX8_heeds 24 = .ok (.goto 4, 3) := by decide +kernel
theorem dX8_heeds_27 : decode cX8_heeds 27 = .ok (.iconst 0, 1) := by decide +kernel
theorem dX8_heeds_28 : decode cX8_heeds 28 = .ok (.ireturn, 1) := by decide +kernel
set_option maxRecDepth 20000 in
theorem T_X8_heeds {Q : Option Value → ah_T → Prop} {h : ah_T} (hs : Sh h) (x1 : Int32) (x2 : Int32) (ht : ((ah_r h 38 3 = none → Q (some (.int 0)) h) ∧ (∀ b2, ah_r h 38 3 = some b2 → (ah_k h b2 = 9) ∧ ((ah_r h 38 3 = none → False) ∧ (∀ b5, ah_r h 38 3 = some b5 → (ah_k h b5 = 9) ∧ (∃ b7, ah_r h b5 3 = some b7 ∧ ah_k h b7 = 14 ∧ (vp_in x1 (ah_n h b7)) ∧ (((((ah_i h b7 (Int32.toNatClampNeg x1)) >>> (x2 &&& 31)) &&& 1) = 0 → Q (some (.int 0)) h) ∧ (¬ (((ah_i h b7 (Int32.toNatClampNeg x1)) >>> (x2 &&& 31)) &&& 1) = 0 → Q (some (.int 1)) h)))))))) : Mt mX8_heeds [.ref 38, .int x1, .int x2] h Q := by
  refine Mt.ofWp rfl (by exact (Nat.le_of_ble_eq_true rfl)) (Wp.fewer (L' := [some (.ref 38), some (.int x1), some (.int x2)]) (show ab_leL _ _ from ⟨rfl, ⟨rfl, ⟨rfl, trivial⟩⟩⟩) ?_)
  refine ab_aload_n (i := 0) dX8_heeds_0 rfl rfl ?_
  rcases hr1 : ah_r h 38 3 with _ | b2
  · have ht := ht.1 hr1
    refine ab_getN f_X8_9 rfl (sh_k hs 38 8 (by decide) rfl) hr1 dX8_heeds_1 ?_
    refine ab_isnullN (tgt := 27) dX8_heeds_4 (by decide) ?_
    refine ab_iconst (v := 0) dX8_heeds_27 (by decide) ?_
    exact ab_zret rfl rfl dX8_heeds_28 (Nat.le_of_ble_eq_true rfl) (Nat.le_of_ble_eq_true rfl) ht
  · obtain ⟨hk3, ht⟩ := ht.2 b2 hr1
    refine ab_getR (b := b2) f_X8_9 rfl (sh_k hs 38 8 (by decide) rfl) hr1 dX8_heeds_1 ?_
    refine ab_isnull dX8_heeds_4 ?_
    refine ab_aload_n (i := 0) dX8_heeds_7 rfl rfl ?_
    rcases hr4 : ah_r h 38 3 with _ | b5
    · have ht := ht.1 hr4
      refine ab_getN f_X8_9 rfl (sh_k hs 38 8 (by decide) rfl) hr4 dX8_heeds_8 ?_
      exact False.elim ht
    · obtain ⟨hk6, ht⟩ := ht.2 b5 hr4
      refine ab_getR (b := b5) f_X8_9 rfl (sh_k hs 38 8 (by decide) rfl) hr4 dX8_heeds_8 ?_
      obtain ⟨b7, hr8, hk9, ht⟩ := ht
      refine ab_getR (b := b7) f_X8_71 rfl hk6 hr8 dX8_heeds_11 ?_
      refine ab_iload_n (i := 1) dX8_heeds_14 rfl rfl ?_
      obtain ⟨hc10, ht⟩ := ht
      refine ab_iald hk9 hc10 dX8_heeds_15 ?_
      refine ab_iload_n (i := 2) dX8_heeds_16 rfl rfl ?_
      refine ab_ishr dX8_heeds_17 ?_
      refine ab_iconst (v := 1) dX8_heeds_18 (by decide) ?_
      refine ab_iand dX8_heeds_19 ?_
      refine ab_if_eq (tgt := 27) dX8_heeds_20 (by decide) (fun c11 => ?_) (fun c11 => ?_)
      · have ht := ht.1 c11
        refine ab_iconst (v := 0) dX8_heeds_27 (by decide) ?_
        exact ab_zret rfl rfl dX8_heeds_28 (Nat.le_of_ble_eq_true rfl) (Nat.le_of_ble_eq_true rfl) ht
      · have ht := ht.2 c11
        refine ab_iconst (v := 1) dX8_heeds_23 (by decide) ?_
        refine ab_goto (tgt := 28) dX8_heeds_24 (by decide) ?_
        exact ab_zret rfl rfl dX8_heeds_28 (Nat.le_of_ble_eq_true rfl) (Nat.le_of_ble_eq_true rfl) ht
theorem dX8_hated_0 : decode cX8_hated 0 = .ok (.aload_n 0, 1) := by decide +kernel
theorem dX8_hated_1 : decode cX8_hated 1 = .ok (.iconst 0, 1) := by decide +kernel
theorem dX8_hated_2 : decode cX8_hated 2 = .ok (.iconst 5, 1) := by decide +kernel
theorem dX8_hated_3 : decode cX8_hated 3 = .ok (.invokevirtual 61, 3) := by decide +kernel
theorem dX8_hated_6 : decode cX8_hated 6 = .ok (.ifCond .eq 7, 3) := by decide +kernel
theorem dX8_hated_9 : decode cX8_hated 9 = .ok (.iload_n 3, 1) := by decide +kernel
theorem dX8_hated_10 : decode cX8_hated 10 = .ok (.goto 4, 3) := by decide +kernel
theorem dX8_hated_13 : decode cX8_hated 13 = .ok (.iconst 0, 1) := by decide +kernel
theorem dX8_hated_14 : decode cX8_hated 14 = .ok (.iconst 2, 1) := by decide +kernel
theorem dX8_hated_15 : decode cX8_hated 15 = .ok (.imul, 1) := by decide +kernel
theorem dX8_hated_16 : decode cX8_hated 16 = .ok (.iload_n 2, 1) := by decide +kernel
theorem dX8_hated_17 : decode cX8_hated 17 = .ok (.iadd, 1) := by decide +kernel
theorem dX8_hated_18 : decode cX8_hated 18 = .ok (.bipush 10, 2) := by decide +kernel
theorem dX8_hated_20 : decode cX8_hated 20 = .ok (.imul, 1) := by decide +kernel
theorem dX8_hated_21 : decode cX8_hated 21 = .ok (.iload_n 1, 1) := by decide +kernel
theorem dX8_hated_22 : decode cX8_hated 22 = .ok (.iadd, 1) := by decide +kernel
theorem dX8_hated_23 : decode cX8_hated 23 = .ok (.istore 4, 2) := by decide +kernel
theorem dX8_hated_25 : decode cX8_hated 25 = .ok (.aload_n 0, 1) := by decide +kernel
theorem dX8_hated_26 : decode cX8_hated 26 = .ok (.getfield 30, 3) := by decide +kernel
theorem dX8_hated_29 : decode cX8_hated 29 = .ok (.iload 4, 2) := by decide +kernel
theorem dX8_hated_31 : decode cX8_hated 31 = .ok (.iaload, 1) := by decide +kernel
theorem dX8_hated_32 : decode cX8_hated 32 = .ok (.iconst (-1), 1) := by decide +kernel
theorem dX8_hated_33 : decode cX8_hated 33 = .ok (.if_icmp .ne 126, 3) := by decide +kernel
theorem dX8_hated_36 : decode cX8_hated 36 = .ok (.iconst 0, 1) := by decide +kernel
theorem dX8_hated_37 : decode cX8_hated 37 = .ok (.istore 5, 2) := by decide +kernel
theorem dX8_hated_39 : decode cX8_hated 39 = .ok (.iconst 0, 1) := by decide +kernel
theorem dX8_hated_40 : decode cX8_hated 40 = .ok (.istore 6, 2) := by decide +kernel
theorem dX8_hated_42 : decode cX8_hated 42 = .ok (.iload 6, 2) := by decide +kernel
theorem dX8_hated_44 : decode cX8_hated 44 = .ok (.aload_n 0, 1) := by decide +kernel
theorem dX8_hated_45 : decode cX8_hated 45 = .ok (.getfield 40, 3) := by decide +kernel
theorem dX8_hated_48 : decode cX8_hated 48 = .ok (.getfield 76, 3) := by decide +kernel
theorem dX8_hated_51 : decode cX8_hated 51 = .ok (.getfield 80, 3) := by decide +kernel
theorem dX8_hated_54 : decode cX8_hated 54 = .ok (.if_icmp .ge 96, 3) := by decide +kernel
theorem dX8_hated_57 : decode cX8_hated 57 = .ok (.aload_n 0, 1) := by decide +kernel
theorem dX8_hated_58 : decode cX8_hated 58 = .ok (.getfield 48, 3) := by decide +kernel
theorem dX8_hated_61 : decode cX8_hated 61 = .ok (.aload_n 0, 1) := by decide +kernel
theorem dX8_hated_62 : decode cX8_hated 62 = .ok (.getfield 40, 3) := by decide +kernel
theorem dX8_hated_65 : decode cX8_hated 65 = .ok (.getfield 76, 3) := by decide +kernel
theorem dX8_hated_68 : decode cX8_hated 68 = .ok (.iload_n 1, 1) := by decide +kernel
theorem dX8_hated_69 : decode cX8_hated 69 = .ok (.iconst 0, 1) := by decide +kernel
theorem dX8_hated_70 : decode cX8_hated 70 = .ok (.invokevirtual 85, 3) := by decide +kernel
theorem dX8_hated_73 : decode cX8_hated 73 = .ok (.aload_n 0, 1) := by decide +kernel
theorem dX8_hated_74 : decode cX8_hated 74 = .ok (.getfield 40, 3) := by decide +kernel
theorem dX8_hated_77 : decode cX8_hated 77 = .ok (.getfield 76, 3) := by decide +kernel
theorem dX8_hated_80 : decode cX8_hated 80 = .ok (.iload 6, 2) := by decide +kernel
theorem dX8_hated_82 : decode cX8_hated 82 = .ok (.iconst 0, 1) := by decide +kernel
theorem dX8_hated_83 : decode cX8_hated 83 = .ok (.invokevirtual 85, 3) := by decide +kernel
theorem dX8_hated_86 : decode cX8_hated 86 = .ok (.invokevirtual 89, 3) := by decide +kernel
theorem dX8_hated_89 : decode cX8_hated 89 = .ok (.istore 7, 2) := by decide +kernel
theorem dX8_hated_91 : decode cX8_hated 91 = .ok (.iload 6, 2) := by decide +kernel
theorem dX8_hated_93 : decode cX8_hated 93 = .ok (.iload_n 1, 1) := by decide +kernel
theorem dX8_hated_94 : decode cX8_hated 94 = .ok (.if_icmp .eq 50, 3) := by decide +kernel
theorem dX8_hated_97 : decode cX8_hated 97 = .ok (.aload_n 0, 1) := by decide +kernel
theorem dX8_hated_98 : decode cX8_hated 98 = .ok (.iconst 0, 1) := by decide +kernel
theorem dX8_hated_99 : decode cX8_hated 99 = .ok (.iload_n 1, 1) := by decide +kernel
theorem dX8_hated_100 : decode cX8_hated 100 = .ok (.aload_n 0, 1) := by decide +kernel
theorem dX8_hated_101 : decode cX8_hated 101 = .ok (.getfield 40, 3) := by decide +kernel
theorem dX8_hated_104 : decode cX8_hated 104 = .ok (.getfield 76, 3) := by decide +kernel
theorem dX8_hated_107 : decode cX8_hated 107 = .ok (.iload_n 1, 1) := by decide +kernel
theorem dX8_hated_108 : decode cX8_hated 108 = .ok (.iconst 1, 1) := by decide +kernel
theorem dX8_hated_109 : decode cX8_hated 109 = .ok (.invokevirtual 85, 3) := by decide +kernel
theorem dX8_hated_112 : decode cX8_hated 112 = .ok (.aload_n 0, 1) := by decide +kernel
theorem dX8_hated_113 : decode cX8_hated 113 = .ok (.getfield 40, 3) := by decide +kernel
theorem dX8_hated_116 : decode cX8_hated 116 = .ok (.getfield 76, 3) := by decide +kernel
theorem dX8_hated_119 : decode cX8_hated 119 = .ok (.iload 6, 2) := by decide +kernel
theorem dX8_hated_121 : decode cX8_hated 121 = .ok (.iconst 1, 1) := by decide +kernel
theorem dX8_hated_122 : decode cX8_hated 122 = .ok (.invokevirtual 85, 3) := by decide +kernel
theorem dX8_hated_125 : decode cX8_hated 125 = .ok (.iload 7, 2) := by decide +kernel
theorem dX8_hated_127 : decode cX8_hated 127 = .ok (.iload_n 2, 1) := by decide +kernel
theorem dX8_hated_128 : decode cX8_hated 128 = .ok (.iload_n 3, 1) := by decide +kernel
theorem dX8_hated_129 : decode cX8_hated 129 = .ok (.invokevirtual 94, 3) := by decide +kernel
theorem dX8_hated_132 : decode cX8_hated 132 = .ok (.ifCond .eq 12, 3) := by decide +kernel
theorem dX8_hated_135 : decode cX8_hated 135 = .ok (.iload 5, 2) := by decide +kernel
theorem dX8_hated_137 : decode cX8_hated 137 = .ok (.iconst 1, 1) := by decide +kernel
theorem dX8_hated_138 : decode cX8_hated 138 = .ok (.iload 6, 2) := by decide +kernel
theorem dX8_hated_140 : decode cX8_hated 140 = .ok (.ishl, 1) := by decide +kernel
theorem dX8_hated_141 : decode cX8_hated 141 = .ok (.ior, 1) := by decide +kernel
theorem dX8_hated_142 : decode cX8_hated 142 = .ok (.istore 5, 2) := by decide +kernel
theorem dX8_hated_144 : decode cX8_hated 144 = .ok (.iinc 6 1, 3) := by decide +kernel
theorem dX8_hated_147 : decode cX8_hated 147 = .ok (.goto (-105), 3) := by decide +kernel
theorem dX8_hated_150 : decode cX8_hated 150 = .ok (.aload_n 0, 1) := by decide +kernel
theorem dX8_hated_151 : decode cX8_hated 151 = .ok (.getfield 30, 3) := by decide +kernel
theorem dX8_hated_154 : decode cX8_hated 154 = .ok (.iload 4, 2) := by decide +kernel
theorem dX8_hated_156 : decode cX8_hated 156 = .ok (.iload 5, 2) := by decide +kernel
theorem dX8_hated_158 : decode cX8_hated 158 = .ok (.iastore, 1) := by decide +kernel
theorem dX8_hated_159 : decode cX8_hated 159 = .ok (.aload_n 0, 1) := by decide +kernel
theorem dX8_hated_160 : decode cX8_hated 160 = .ok (.getfield 30, 3) := by decide +kernel
theorem dX8_hated_163 : decode cX8_hated 163 = .ok (.iload 4, 2) := by decide +kernel
theorem dX8_hated_165 : decode cX8_hated 165 = .ok (.iaload, 1) := by decide +kernel
theorem dX8_hated_166 : decode cX8_hated 166 = .ok (.ireturn, 1) := by decide +kernel
set_option maxRecDepth 20000 in
theorem T_X8_hated_42 {Q : Option Value → ah_T → Prop} {h : ah_T} (hs : Sh h) (x1 : Int32) (x2 : Int32) (x3 : Int32) (x4 : Int32) (x5 : Int32) (x6 : Int32) (ht : (((ah_i h 4 3) ≤ x6 → (vp_in x4 (ah_n h 40)) ∧ (∀ h13, h13 = ah_si h 40 (Int32.toNatClampNeg x4) x5 → (vp_in x4 (ah_n h13 40)) ∧ Q (some (.int (ah_i h13 40 (Int32.toNatClampNeg x4)))) h13)) ∧ (¬ (ah_i h 4 3) ≤ x6 → (Mt mX7_get [.ref 4, .int x1, .int 0] h (ab_qi fun v19 h17 => Sh h17 ∧ (Mt mX7_get [.ref 4, .int x6, .int 0] h17 (ab_qi fun v22 h20 => Sh h20 ∧ ((¬ (f_X11_isIn v19 12) = 0 → (¬ (f_X11_isIn v22 12) = 0 → vp_in ((v19 * 12) + v22) (ah_n h20 34)))) ∧ ((x6 = x1 → Wp mX8_hated Q 0 0 42 [some (.ref 38), some (.int x1), some (.int x2), some (.int x3), some (.int x4), some (.int x5), some (.int (x6 + 1)), none] [] h20) ∧ (¬ x6 = x1 → (Mt mX7_get [.ref 4, .int x1, .int 1] h20 (ab_qi fun v27 h25 => Sh h25 ∧ (Mt mX7_get [.ref 4, .int x6, .int 1] h25 (ab_qi fun v30 h28 => Sh h28 ∧ (Mt mX8_ask [.ref 38, .int 0, .int x1, .int v27, .int v30, .int (f_X6_sight h20 v19 v22), .int x2, .int x3] h28 (ab_qi fun v33 h31 => Sh h31 ∧ ((v33 = 0 → Wp mX8_hated Q 0 0 42 [some (.ref 38), some (.int x1), some (.int x2), some (.int x3), some (.int x4), some (.int x5), some (.int (x6 + 1)), none] [] h31) ∧ (¬ v33 = 0 → Wp mX8_hated Q 0 0 42 [some (.ref 38), some (.int x1), some (.int x2), some (.int x3), some (.int x4), some (.int (x5 ||| ((1 : Int32) <<< (x6 &&& 31)))), some (.int (x6 + 1)), none] [] h31))))))))))))))))) : Wp mX8_hated Q 0 0 42 [some (.ref 38), some (.int x1), some (.int x2), some (.int x3), some (.int x4), some (.int x5), some (.int x6), none] [] h := by
  refine ab_iload (i := 6) dX8_hated_42 rfl ?_
  refine ab_aload_n (i := 0) dX8_hated_44 rfl rfl ?_
  refine ab_getR (b := 1) f_X8_40 rfl (sh_k hs 38 8 (by decide) rfl) (sh_r hs 43 rfl) dX8_hated_45 ?_
  refine ab_getR (b := 4) f_X8_76 rfl (sh_k hs 1 10 (by decide) rfl) (sh_r hs 14 rfl) dX8_hated_48 ?_
  refine ab_getI f_X8_80 rfl (sh_k hs 4 7 (by decide) rfl) dX8_hated_51 ?_
  refine ab_icmp_ge (tgt := 150) dX8_hated_54 (by decide) (fun c11 => ?_) (fun c11 => ?_)
  · have ht := ht.1 c11
    refine ab_aload_n (i := 0) dX8_hated_150 rfl rfl ?_
    refine ab_getR (b := 40) f_X8_30 rfl (sh_k hs 38 8 (by decide) rfl) (sh_r hs 47 rfl) dX8_hated_151 ?_
    refine ab_iload (i := 4) dX8_hated_154 rfl ?_
    refine ab_iload (i := 5) dX8_hated_156 rfl ?_
    obtain ⟨hc12, ht⟩ := ht
    refine ab_iast (sh_k hs 40 14 (by decide) rfl) hc12 dX8_hated_158 ?_
    refine Wp.nm fun h13 e14 => ?_
    have ht := ht h13 e14
    have hs15 : Sh h13 := by rw [e14]; exact sh_si hs
    refine ab_aload_n (i := 0) dX8_hated_159 rfl rfl ?_
    refine ab_getR (b := 40) f_X8_30 rfl (sh_k hs15 38 8 (by decide) rfl) (sh_r hs15 47 rfl) dX8_hated_160 ?_
    refine ab_iload (i := 4) dX8_hated_163 rfl ?_
    obtain ⟨hc16, ht⟩ := ht
    refine ab_iald (sh_k hs15 40 14 (by decide) rfl) hc16 dX8_hated_165 ?_
    exact ab_iret rfl dX8_hated_166 (Nat.le_of_ble_eq_true rfl) (Nat.le_of_ble_eq_true rfl) ht
  · have ht := ht.2 c11
    refine ab_aload_n (i := 0) dX8_hated_57 rfl rfl ?_
    refine ab_getR (b := 29) f_X8_48 rfl (sh_k hs 38 8 (by decide) rfl) (sh_r hs 45 rfl) dX8_hated_58 ?_
    refine ab_aload_n (i := 0) dX8_hated_61 rfl rfl ?_
    refine ab_getR (b := 1) f_X8_40 rfl (sh_k hs 38 8 (by decide) rfl) (sh_r hs 43 rfl) dX8_hated_62 ?_
    refine ab_getR (b := 4) f_X8_76 rfl (sh_k hs 1 10 (by decide) rfl) (sh_r hs 14 rfl) dX8_hated_65 ?_
    refine ab_iload_n (i := 1) dX8_hated_68 rfl rfl ?_
    refine ab_iconst (v := 0) dX8_hated_69 (by decide) ?_
    refine ab_callV (b := 4) (As := [.int x1, .int 0]) ht (Y_X7_get) l_X8_85 in_X7_get se_X7_get (sh_k hs 4 7 (by decide) rfl) (by decide) rfl rfl ⟨(Nat.le_of_ble_eq_true rfl), (Nat.le_of_ble_eq_true rfl), (Nat.le_of_ble_eq_true rfl), (Nat.le_of_ble_eq_true rfl)⟩ dX8_hated_70 ?_
    rintro _ h17 ⟨v19, rfl, hs18, ht⟩
    refine ab_aload_n (i := 0) dX8_hated_73 rfl rfl ?_
    refine ab_getR (b := 1) f_X8_40 rfl (sh_k hs18 38 8 (by decide) rfl) (sh_r hs18 43 rfl) dX8_hated_74 ?_
    refine ab_getR (b := 4) f_X8_76 rfl (sh_k hs18 1 10 (by decide) rfl) (sh_r hs18 14 rfl) dX8_hated_77 ?_
    refine ab_iload (i := 6) dX8_hated_80 rfl ?_
    refine ab_iconst (v := 0) dX8_hated_82 (by decide) ?_
    refine ab_callV (b := 4) (As := [.int x6, .int 0]) ht (Y_X7_get) l_X8_85 in_X7_get se_X7_get (sh_k hs18 4 7 (by decide) rfl) (by decide) rfl rfl ⟨(Nat.le_of_ble_eq_true rfl), (Nat.le_of_ble_eq_true rfl), (Nat.le_of_ble_eq_true rfl), (Nat.le_of_ble_eq_true rfl)⟩ dX8_hated_83 ?_
    rintro _ h20 ⟨v22, rfl, hs21, ht⟩
    obtain ⟨hc23, ht⟩ := ht
    refine ab_callV (b := 29) (Q' := fun r h' => r = some (.int (f_X6_sight h20 v19 v22)) ∧ h20 = h') (As := [.int v19, .int v22]) (c_X6_sight hs21 v19 v22  hc23 ⟨rfl, rfl⟩) (Y_X6_sight) l_X8_89 in_X6_sight se_X6_sight (sh_k hs21 29 6 (by decide) rfl) (by decide) rfl rfl ⟨(Nat.le_of_ble_eq_true rfl), (Nat.le_of_ble_eq_true rfl), (Nat.le_of_ble_eq_true rfl), (Nat.le_of_ble_eq_true rfl)⟩ dX8_hated_86 ?_
    rintro _ _ ⟨rfl, rfl⟩
    refine ab_istore (i := 7) (L' := [some (.ref 38), some (.int x1), some (.int x2), some (.int x3), some (.int x4), some (.int x5), some (.int x6), some (.int (f_X6_sight h20 v19 v22))]) dX8_hated_89 (by exact (Nat.le_of_ble_eq_true rfl)) rfl rfl ?_
    refine ab_iload (i := 6) dX8_hated_91 rfl ?_
    refine ab_iload_n (i := 1) dX8_hated_93 rfl rfl ?_
    refine ab_icmp_eq (tgt := 144) dX8_hated_94 (by decide) (fun c24 => ?_) (fun c24 => ?_)
    · have ht := ht.1 c24
      refine ab_iinc (i := 6) (x := x6) (v := (x6 + 1)) (L' := [some (.ref 38), some (.int x1), some (.int x2), some (.int x3), some (.int x4), some (.int x5), some (.int (x6 + 1)), some (.int (f_X6_sight h20 v19 v22))]) dX8_hated_144 rfl rfl (by exact (Nat.le_of_ble_eq_true rfl)) rfl rfl ?_
      refine ab_goto (tgt := 42) dX8_hated_147 (by decide) ?_
      exact Wp.fewer (L' := [some (.ref 38), some (.int x1), some (.int x2), some (.int x3), some (.int x4), some (.int x5), some (.int (x6 + 1)), none]) (show ab_leL _ _ from ⟨rfl, ⟨rfl, ⟨rfl, ⟨rfl, ⟨rfl, ⟨rfl, ⟨rfl, trivial⟩⟩⟩⟩⟩⟩⟩) ht
    · have ht := ht.2 c24
      refine ab_aload_n (i := 0) dX8_hated_97 rfl rfl ?_
      refine ab_iconst (v := 0) dX8_hated_98 (by decide) ?_
      refine ab_iload_n (i := 1) dX8_hated_99 rfl rfl ?_
      refine ab_aload_n (i := 0) dX8_hated_100 rfl rfl ?_
      refine ab_getR (b := 1) f_X8_40 rfl (sh_k hs21 38 8 (by decide) rfl) (sh_r hs21 43 rfl) dX8_hated_101 ?_
      refine ab_getR (b := 4) f_X8_76 rfl (sh_k hs21 1 10 (by decide) rfl) (sh_r hs21 14 rfl) dX8_hated_104 ?_
      refine ab_iload_n (i := 1) dX8_hated_107 rfl rfl ?_
      refine ab_iconst (v := 1) dX8_hated_108 (by decide) ?_
      refine ab_callV (b := 4) (As := [.int x1, .int 1]) ht (Y_X7_get) l_X8_85 in_X7_get se_X7_get (sh_k hs21 4 7 (by decide) rfl) (by decide) rfl rfl ⟨(Nat.le_of_ble_eq_true rfl), (Nat.le_of_ble_eq_true rfl), (Nat.le_of_ble_eq_true rfl), (Nat.le_of_ble_eq_true rfl)⟩ dX8_hated_109 ?_
      rintro _ h25 ⟨v27, rfl, hs26, ht⟩
      refine ab_aload_n (i := 0) dX8_hated_112 rfl rfl ?_
      refine ab_getR (b := 1) f_X8_40 rfl (sh_k hs26 38 8 (by decide) rfl) (sh_r hs26 43 rfl) dX8_hated_113 ?_
      refine ab_getR (b := 4) f_X8_76 rfl (sh_k hs26 1 10 (by decide) rfl) (sh_r hs26 14 rfl) dX8_hated_116 ?_
      refine ab_iload (i := 6) dX8_hated_119 rfl ?_
      refine ab_iconst (v := 1) dX8_hated_121 (by decide) ?_
      refine ab_callV (b := 4) (As := [.int x6, .int 1]) ht (Y_X7_get) l_X8_85 in_X7_get se_X7_get (sh_k hs26 4 7 (by decide) rfl) (by decide) rfl rfl ⟨(Nat.le_of_ble_eq_true rfl), (Nat.le_of_ble_eq_true rfl), (Nat.le_of_ble_eq_true rfl), (Nat.le_of_ble_eq_true rfl)⟩ dX8_hated_122 ?_
      rintro _ h28 ⟨v30, rfl, hs29, ht⟩
      refine ab_iload (i := 7) dX8_hated_125 rfl ?_
      refine ab_iload_n (i := 2) dX8_hated_127 rfl rfl ?_
      refine ab_iload_n (i := 3) dX8_hated_128 rfl rfl ?_
      refine ab_callV (b := 38) (As := [.int 0, .int x1, .int v27, .int v30, .int (f_X6_sight h20 v19 v22), .int x2, .int x3]) ht (Y_X8_ask) l_X8_94 in_X8_ask se_X8_ask (sh_k hs29 38 8 (by decide) rfl) (by decide) rfl rfl ⟨(Nat.le_of_ble_eq_true rfl), (Nat.le_of_ble_eq_true rfl), (Nat.le_of_ble_eq_true rfl), (Nat.le_of_ble_eq_true rfl)⟩ dX8_hated_129 ?_
      rintro _ h31 ⟨v33, rfl, hs32, ht⟩
      refine ab_if_eq (tgt := 144) dX8_hated_132 (by decide) (fun c34 => ?_) (fun c34 => ?_)
      · have ht := ht.1 c34
        refine ab_iinc (i := 6) (x := x6) (v := (x6 + 1)) (L' := [some (.ref 38), some (.int x1), some (.int x2), some (.int x3), some (.int x4), some (.int x5), some (.int (x6 + 1)), some (.int (f_X6_sight h20 v19 v22))]) dX8_hated_144 rfl rfl (by exact (Nat.le_of_ble_eq_true rfl)) rfl rfl ?_
        refine ab_goto (tgt := 42) dX8_hated_147 (by decide) ?_
        exact Wp.fewer (L' := [some (.ref 38), some (.int x1), some (.int x2), some (.int x3), some (.int x4), some (.int x5), some (.int (x6 + 1)), none]) (show ab_leL _ _ from ⟨rfl, ⟨rfl, ⟨rfl, ⟨rfl, ⟨rfl, ⟨rfl, ⟨rfl, trivial⟩⟩⟩⟩⟩⟩⟩) ht
      · have ht := ht.2 c34
        refine ab_iload (i := 5) dX8_hated_135 rfl ?_
        refine ab_iconst (v := 1) dX8_hated_137 (by decide) ?_
        refine ab_iload (i := 6) dX8_hated_138 rfl ?_
        refine ab_ishl dX8_hated_140 ?_
        refine ab_ior dX8_hated_141 ?_
        refine ab_istore (i := 5) (L' := [some (.ref 38), some (.int x1), some (.int x2), some (.int x3), some (.int x4), some (.int (x5 ||| ((1 : Int32) <<< (x6 &&& 31)))), some (.int x6), some (.int (f_X6_sight h20 v19 v22))]) dX8_hated_142 (by exact (Nat.le_of_ble_eq_true rfl)) rfl rfl ?_
        refine ab_iinc (i := 6) (x := x6) (v := (x6 + 1)) (L' := [some (.ref 38), some (.int x1), some (.int x2), some (.int x3), some (.int x4), some (.int (x5 ||| ((1 : Int32) <<< (x6 &&& 31)))), some (.int (x6 + 1)), some (.int (f_X6_sight h20 v19 v22))]) dX8_hated_144 rfl rfl (by exact (Nat.le_of_ble_eq_true rfl)) rfl rfl ?_
        refine ab_goto (tgt := 42) dX8_hated_147 (by decide) ?_
        exact Wp.fewer (L' := [some (.ref 38), some (.int x1), some (.int x2), some (.int x3), some (.int x4), some (.int (x5 ||| ((1 : Int32) <<< (x6 &&& 31)))), some (.int (x6 + 1)), none]) (show ab_leL _ _ from ⟨rfl, ⟨rfl, ⟨rfl, ⟨rfl, ⟨rfl, ⟨rfl, ⟨rfl, trivial⟩⟩⟩⟩⟩⟩⟩) ht
set_option maxRecDepth 20000 in
theorem T_X8_hated {Q : Option Value → ah_T → Prop} {h : ah_T} (hs : Sh h) (x1 : Int32) (x2 : Int32) (x3 : Int32) (ht : (Mt mX8_heeds [.ref 38, .int 0, .int 5] h (ab_qi fun v3 h1 => Sh h1 ∧ ((v3 = 0 → (vp_in ((((0 * 2) + x2) * 10) + x1) (ah_n h1 40)) ∧ ((¬ (ah_i h1 40 (Int32.toNatClampNeg ((((0 * 2) + x2) * 10) + x1))) = (-1) → (vp_in ((((0 * 2) + x2) * 10) + x1) (ah_n h1 40)) ∧ Q (some (.int (ah_i h1 40 (Int32.toNatClampNeg ((((0 * 2) + x2) * 10) + x1))))) h1) ∧ ((ah_i h1 40 (Int32.toNatClampNeg ((((0 * 2) + x2) * 10) + x1))) = (-1) → Wp mX8_hated Q 0 0 42 [some (.ref 38), some (.int x1), some (.int x2), some (.int x3), some (.int ((((0 * 2) + x2) * 10) + x1)), some (.int 0), some (.int 0), none] [] h1))) ∧ (¬ v3 = 0 → (vp_in ((((x3 * 2) + x2) * 10) + x1) (ah_n h1 40)) ∧ ((¬ (ah_i h1 40 (Int32.toNatClampNeg ((((x3 * 2) + x2) * 10) + x1))) = (-1) → (vp_in ((((x3 * 2) + x2) * 10) + x1) (ah_n h1 40)) ∧ Q (some (.int (ah_i h1 40 (Int32.toNatClampNeg ((((x3 * 2) + x2) * 10) + x1))))) h1) ∧ ((ah_i h1 40 (Int32.toNatClampNeg ((((x3 * 2) + x2) * 10) + x1))) = (-1) → Wp mX8_hated Q 0 0 42 [some (.ref 38), some (.int x1), some (.int x2), some (.int x3), some (.int ((((x3 * 2) + x2) * 10) + x1)), some (.int 0), some (.int 0), none] [] h1))))))) : Mt mX8_hated [.ref 38, .int x1, .int x2, .int x3] h Q := by
  refine Mt.ofWp rfl (by exact (Nat.le_of_ble_eq_true rfl)) (Wp.fewer (L' := [some (.ref 38), some (.int x1), some (.int x2), some (.int x3), none, none, none, none]) (show ab_leL _ _ from ⟨rfl, ⟨rfl, ⟨rfl, ⟨rfl, trivial⟩⟩⟩⟩) ?_)
  refine ab_aload_n (i := 0) dX8_hated_0 rfl rfl ?_
  refine ab_iconst (v := 0) dX8_hated_1 (by decide) ?_
  refine ab_iconst (v := 5) dX8_hated_2 (by decide) ?_
  refine ab_callV (b := 38) (As := [.int 0, .int 5]) ht (Y_X8_heeds) l_X8_61 in_X8_heeds se_X8_heeds (sh_k hs 38 8 (by decide) rfl) (by decide) rfl rfl ⟨(Nat.le_of_ble_eq_true rfl), (Nat.le_of_ble_eq_true rfl), (Nat.le_of_ble_eq_true rfl), (Nat.le_of_ble_eq_true rfl)⟩ dX8_hated_3 ?_
  rintro _ h1 ⟨v3, rfl, hs2, ht⟩
  refine ab_if_eq (tgt := 13) dX8_hated_6 (by decide) (fun c4 => ?_) (fun c4 => ?_)
  · have ht := ht.1 c4
    refine ab_iconst (v := 0) dX8_hated_13 (by decide) ?_
    refine ab_iconst (v := 2) dX8_hated_14 (by decide) ?_
    refine ab_imul dX8_hated_15 ?_
    refine ab_iload_n (i := 2) dX8_hated_16 rfl rfl ?_
    refine ab_iadd dX8_hated_17 ?_
    refine ab_bipush (v := 10) dX8_hated_18 (by decide) ?_
    refine ab_imul dX8_hated_20 ?_
    refine ab_iload_n (i := 1) dX8_hated_21 rfl rfl ?_
    refine ab_iadd dX8_hated_22 ?_
    refine ab_istore (i := 4) (L' := [some (.ref 38), some (.int x1), some (.int x2), some (.int x3), some (.int ((((0 * 2) + x2) * 10) + x1)), none, none, none]) dX8_hated_23 (by exact (Nat.le_of_ble_eq_true rfl)) rfl rfl ?_
    refine ab_aload_n (i := 0) dX8_hated_25 rfl rfl ?_
    refine ab_getR (b := 40) f_X8_30 rfl (sh_k hs2 38 8 (by decide) rfl) (sh_r hs2 47 rfl) dX8_hated_26 ?_
    refine ab_iload (i := 4) dX8_hated_29 rfl ?_
    obtain ⟨hc5, ht⟩ := ht
    refine ab_iald (sh_k hs2 40 14 (by decide) rfl) hc5 dX8_hated_31 ?_
    refine ab_iconst (v := (-1)) dX8_hated_32 (by decide) ?_
    refine ab_icmp_ne (tgt := 159) dX8_hated_33 (by decide) (fun c6 => ?_) (fun c6 => ?_)
    · have ht := ht.1 c6
      refine ab_aload_n (i := 0) dX8_hated_159 rfl rfl ?_
      refine ab_getR (b := 40) f_X8_30 rfl (sh_k hs2 38 8 (by decide) rfl) (sh_r hs2 47 rfl) dX8_hated_160 ?_
      refine ab_iload (i := 4) dX8_hated_163 rfl ?_
      obtain ⟨hc7, ht⟩ := ht
      refine ab_iald (sh_k hs2 40 14 (by decide) rfl) hc7 dX8_hated_165 ?_
      exact ab_iret rfl dX8_hated_166 (Nat.le_of_ble_eq_true rfl) (Nat.le_of_ble_eq_true rfl) ht
    · have ht := ht.2 c6
      refine ab_iconst (v := 0) dX8_hated_36 (by decide) ?_
      refine ab_istore (i := 5) (L' := [some (.ref 38), some (.int x1), some (.int x2), some (.int x3), some (.int ((((0 * 2) + x2) * 10) + x1)), some (.int 0), none, none]) dX8_hated_37 (by exact (Nat.le_of_ble_eq_true rfl)) rfl rfl ?_
      refine ab_iconst (v := 0) dX8_hated_39 (by decide) ?_
      refine ab_istore (i := 6) (L' := [some (.ref 38), some (.int x1), some (.int x2), some (.int x3), some (.int ((((0 * 2) + x2) * 10) + x1)), some (.int 0), some (.int 0), none]) dX8_hated_40 (by exact (Nat.le_of_ble_eq_true rfl)) rfl rfl ?_
      exact Wp.fewer (L' := [some (.ref 38), some (.int x1), some (.int x2), some (.int x3), some (.int ((((0 * 2) + x2) * 10) + x1)), some (.int 0), some (.int 0), none]) (show ab_leL _ _ from ⟨rfl, ⟨rfl, ⟨rfl, ⟨rfl, ⟨rfl, ⟨rfl, ⟨rfl, trivial⟩⟩⟩⟩⟩⟩⟩) ht
  · have ht := ht.2 c4
    refine ab_iload_n (i := 3) dX8_hated_9 rfl rfl ?_
    refine ab_goto (tgt := 14) dX8_hated_10 (by decide) ?_
    refine ab_iconst (v := 2) dX8_hated_14 (by decide) ?_
    refine ab_imul dX8_hated_15 ?_
    refine ab_iload_n (i := 2) dX8_hated_16 rfl rfl ?_
    refine ab_iadd dX8_hated_17 ?_
    refine ab_bipush (v := 10) dX8_hated_18 (by decide) ?_
    refine ab_imul dX8_hated_20 ?_
    refine ab_iload_n (i := 1) dX8_hated_21 rfl rfl ?_
    refine ab_iadd dX8_hated_22 ?_
    refine ab_istore (i := 4) (L' := [some (.ref 38), some (.int x1), some (.int x2), some (.int x3), some (.int ((((x3 * 2) + x2) * 10) + x1)), none, none, none]) dX8_hated_23 (by exact (Nat.le_of_ble_eq_true rfl)) rfl rfl ?_
    refine ab_aload_n (i := 0) dX8_hated_25 rfl rfl ?_
    refine ab_getR (b := 40) f_X8_30 rfl (sh_k hs2 38 8 (by decide) rfl) (sh_r hs2 47 rfl) dX8_hated_26 ?_
    refine ab_iload (i := 4) dX8_hated_29 rfl ?_
    obtain ⟨hc8, ht⟩ := ht
    refine ab_iald (sh_k hs2 40 14 (by decide) rfl) hc8 dX8_hated_31 ?_
    refine ab_iconst (v := (-1)) dX8_hated_32 (by decide) ?_
    refine ab_icmp_ne (tgt := 159) dX8_hated_33 (by decide) (fun c9 => ?_) (fun c9 => ?_)
    · have ht := ht.1 c9
      refine ab_aload_n (i := 0) dX8_hated_159 rfl rfl ?_
      refine ab_getR (b := 40) f_X8_30 rfl (sh_k hs2 38 8 (by decide) rfl) (sh_r hs2 47 rfl) dX8_hated_160 ?_
      refine ab_iload (i := 4) dX8_hated_163 rfl ?_
      obtain ⟨hc10, ht⟩ := ht
      refine ab_iald (sh_k hs2 40 14 (by decide) rfl) hc10 dX8_hated_165 ?_
      exact ab_iret rfl dX8_hated_166 (Nat.le_of_ble_eq_true rfl) (Nat.le_of_ble_eq_true rfl) ht
    · have ht := ht.2 c9
      refine ab_iconst (v := 0) dX8_hated_36 (by decide) ?_
      refine ab_istore (i := 5) (L' := [some (.ref 38), some (.int x1), some (.int x2), some (.int x3), some (.int ((((x3 * 2) + x2) * 10) + x1)), some (.int 0), none, none]) dX8_hated_37 (by exact (Nat.le_of_ble_eq_true rfl)) rfl rfl ?_
      refine ab_iconst (v := 0) dX8_hated_39 (by decide) ?_
      refine ab_istore (i := 6) (L' := [some (.ref 38), some (.int x1), some (.int x2), some (.int x3), some (.int ((((x3 * 2) + x2) * 10) + x1)), some (.int 0), some (.int 0), none]) dX8_hated_40 (by exact (Nat.le_of_ble_eq_true rfl)) rfl rfl ?_
      exact Wp.fewer (L' := [some (.ref 38), some (.int x1), some (.int x2), some (.int x3), some (.int ((((x3 * 2) + x2) * 10) + x1)), some (.int 0), some (.int 0), none]) (show ab_leL _ _ from ⟨rfl, ⟨rfl, ⟨rfl, ⟨rfl, ⟨rfl, ⟨rfl, ⟨rfl, trivial⟩⟩⟩⟩⟩⟩⟩) ht
theorem dX8_fearful_0 : decode cX8_fearful 0 = .ok (.aload_n 0, 1) := by decide +kernel
theorem dX8_fearful_1 : decode cX8_fearful 1 = .ok (.iconst 0, 1) := by decide +kernel
theorem dX8_fearful_2 : decode cX8_fearful 2 = .ok (.iconst 5, 1) := by decide +kernel
theorem dX8_fearful_3 : decode cX8_fearful 3 = .ok (.invokevirtual 61, 3) := by decide +kernel
theorem dX8_fearful_6 : decode cX8_fearful 6 = .ok (.ifCond .eq 7, 3) := by decide +kernel
theorem dX8_fearful_9 : decode cX8_fearful 9 = .ok (.iload_n 3, 1) := by decide +kernel
theorem dX8_fearful_10 : decode cX8_fearful 10 = .ok (.goto 4, 3) := by decide +kernel
theorem dX8_fearful_13 : decode cX8_fearful 13 = .ok (.iconst 0, 1) := by decide +kernel
theorem dX8_fearful_14 : decode cX8_fearful 14 = .ok (.bipush 6, 2) := by decide +kernel
theorem dX8_fearful_16 : decode cX8_fearful 16 = .ok (.imul, 1) := by decide +kernel
theorem dX8_fearful_17 : decode cX8_fearful 17 = .ok (.iload_n 1, 1) := by decide +kernel
theorem dX8_fearful_18 : decode cX8_fearful 18 = .ok (.iadd, 1) := by decide +kernel
theorem dX8_fearful_19 : decode cX8_fearful 19 = .ok (.bipush 12, 2) := by decide +kernel
theorem dX8_fearful_21 : decode cX8_fearful 21 = .ok (.imul, 1) := by decide +kernel
theorem dX8_fearful_22 : decode cX8_fearful 22 = .ok (.iload_n 2, 1) := by decide +kernel
theorem dX8_fearful_23 : decode cX8_fearful 23 = .ok (.iadd, 1) := by decide +kernel
theorem dX8_fearful_24 : decode cX8_fearful 24 = .ok (.istore 4, 2) := by decide +kernel
theorem dX8_fearful_26 : decode cX8_fearful 26 = .ok (.aload_n 0, 1) := by decide +kernel
theorem dX8_fearful_27 : decode cX8_fearful 27 = .ok (.getfield 34, 3) := by decide +kernel
theorem dX8_fearful_30 : decode cX8_fearful 30 = .ok (.iload 4, 2) := by decide +kernel
theorem dX8_fearful_32 : decode cX8_fearful 32 = .ok (.iaload, 1) := by decide +kernel
theorem dX8_fearful_33 : decode cX8_fearful 33 = .ok (.iconst (-1), 1) := by decide +kernel
theorem dX8_fearful_34 : decode cX8_fearful 34 = .ok (.if_icmp .ne 99, 3) := by decide +kernel
theorem dX8_fearful_37 : decode cX8_fearful 37 = .ok (.iconst 0, 1) := by decide +kernel
theorem dX8_fearful_38 : decode cX8_fearful 38 = .ok (.istore 5, 2) := by decide +kernel
theorem dX8_fearful_40 : decode cX8_fearful 40 = .ok (.iconst 0, 1) := by decide +kernel
theorem dX8_fearful_41 : decode cX8_fearful 41 = .ok (.istore 6, 2) := by decide +kernel
theorem dX8_fearful_43 : decode cX8_fearful 43 = .ok (.iload 6, 2) := by decide +kernel
theorem dX8_fearful_45 : decode cX8_fearful 45 = .ok (.aload_n 0, 1) := by decide +kernel
theorem dX8_fearful_46 : decode cX8_fearful 46 = .ok (.getfield 40, 3) := by decide +kernel
theorem dX8_fearful_49 : decode cX8_fearful 49 = .ok (.getfield 76, 3) := by decide +kernel
theorem dX8_fearful_52 : decode cX8_fearful 52 = .ok (.getfield 80, 3) := by decide +kernel
theorem dX8_fearful_55 : decode cX8_fearful 55 = .ok (.if_icmp .ge 69, 3) := by decide +kernel
theorem dX8_fearful_58 : decode cX8_fearful 58 = .ok (.aload_n 0, 1) := by decide +kernel
theorem dX8_fearful_59 : decode cX8_fearful 59 = .ok (.getfield 48, 3) := by decide +kernel
theorem dX8_fearful_62 : decode cX8_fearful 62 = .ok (.aload_n 0, 1) := by decide +kernel
theorem dX8_fearful_63 : decode cX8_fearful 63 = .ok (.getfield 40, 3) := by decide +kernel
theorem dX8_fearful_66 : decode cX8_fearful 66 = .ok (.getfield 76, 3) := by decide +kernel
theorem dX8_fearful_69 : decode cX8_fearful 69 = .ok (.iload 6, 2) := by decide +kernel
theorem dX8_fearful_71 : decode cX8_fearful 71 = .ok (.iconst 0, 1) := by decide +kernel
theorem dX8_fearful_72 : decode cX8_fearful 72 = .ok (.invokevirtual 85, 3) := by decide +kernel
theorem dX8_fearful_75 : decode cX8_fearful 75 = .ok (.iload_n 2, 1) := by decide +kernel
theorem dX8_fearful_76 : decode cX8_fearful 76 = .ok (.invokevirtual 89, 3) := by decide +kernel
theorem dX8_fearful_79 : decode cX8_fearful 79 = .ok (.istore 7, 2) := by decide +kernel
theorem dX8_fearful_81 : decode cX8_fearful 81 = .ok (.aload_n 0, 1) := by decide +kernel
theorem dX8_fearful_82 : decode cX8_fearful 82 = .ok (.iconst 0, 1) := by decide +kernel
theorem dX8_fearful_83 : decode cX8_fearful 83 = .ok (.iload 6, 2) := by decide +kernel
theorem dX8_fearful_85 : decode cX8_fearful 85 = .ok (.aload_n 0, 1) := by decide +kernel
theorem dX8_fearful_86 : decode cX8_fearful 86 = .ok (.getfield 40, 3) := by decide +kernel
theorem dX8_fearful_89 : decode cX8_fearful 89 = .ok (.getfield 76, 3) := by decide +kernel
theorem dX8_fearful_92 : decode cX8_fearful 92 = .ok (.iload 6, 2) := by decide +kernel
theorem dX8_fearful_94 : decode cX8_fearful 94 = .ok (.iconst 1, 1) := by decide +kernel
theorem dX8_fearful_95 : decode cX8_fearful 95 = .ok (.invokevirtual 85, 3) := by decide +kernel
theorem dX8_fearful_98 : decode cX8_fearful 98 = .ok (.iload_n 1, 1) := by decide +kernel
theorem dX8_fearful_99 : decode cX8_fearful 99 = .ok (.iload 7, 2) := by decide +kernel
theorem dX8_fearful_101 : decode cX8_fearful 101 = .ok (.iconst 1, 1) := by decide +kernel
theorem dX8_fearful_102 : decode cX8_fearful 102 = .ok (.iload_n 3, 1) := by decide +kernel
theorem dX8_fearful_103 : decode cX8_fearful 103 = .ok (.invokevirtual 94, 3) := by decide +kernel
theorem dX8_fearful_106 : decode cX8_fearful 106 = .ok (.ifCond .eq 12, 3) := by decide +kernel
theorem dX8_fearful_109 : decode cX8_fearful 109 = .ok (.iload 5, 2) := by decide +kernel
theorem dX8_fearful_111 : decode cX8_fearful 111 = .ok (.iconst 1, 1) := by decide +kernel
theorem dX8_fearful_112 : decode cX8_fearful 112 = .ok (.iload 6, 2) := by decide +kernel
theorem dX8_fearful_114 : decode cX8_fearful 114 = .ok (.ishl, 1) := by decide +kernel
theorem dX8_fearful_115 : decode cX8_fearful 115 = .ok (.ior, 1) := by decide +kernel
theorem dX8_fearful_116 : decode cX8_fearful 116 = .ok (.istore 5, 2) := by decide +kernel
theorem dX8_fearful_118 : decode cX8_fearful 118 = .ok (.iinc 6 1, 3) := by decide +kernel
theorem dX8_fearful_121 : decode cX8_fearful 121 = .ok (.goto (-78), 3) := by decide +kernel
theorem dX8_fearful_124 : decode cX8_fearful 124 = .ok (.aload_n 0, 1) := by decide +kernel
theorem dX8_fearful_125 : decode cX8_fearful 125 = .ok (.getfield 34, 3) := by decide +kernel
theorem dX8_fearful_128 : decode cX8_fearful 128 = .ok (.iload 4, 2) := by decide +kernel
theorem dX8_fearful_130 : decode cX8_fearful 130 = .ok (.iload 5, 2) := by decide +kernel
theorem dX8_fearful_132 : decode cX8_fearful 132 = .ok (.iastore, 1) := by decide +kernel
theorem dX8_fearful_133 : decode cX8_fearful 133 = .ok (.aload_n 0, 1) := by decide +kernel
theorem dX8_fearful_134 : decode cX8_fearful 134 = .ok (.getfield 34, 3) := by decide +kernel
theorem dX8_fearful_137 : decode cX8_fearful 137 = .ok (.iload 4, 2) := by decide +kernel
theorem dX8_fearful_139 : decode cX8_fearful 139 = .ok (.iaload, 1) := by decide +kernel
theorem dX8_fearful_140 : decode cX8_fearful 140 = .ok (.ireturn, 1) := by decide +kernel
set_option maxRecDepth 20000 in
theorem T_X8_fearful_43 {Q : Option Value → ah_T → Prop} {h : ah_T} (hs : Sh h) (x1 : Int32) (x2 : Int32) (x3 : Int32) (x4 : Int32) (x5 : Int32) (x6 : Int32) (ht : (((ah_i h 4 3) ≤ x6 → (vp_in x4 (ah_n h 41)) ∧ (∀ h13, h13 = ah_si h 41 (Int32.toNatClampNeg x4) x5 → (vp_in x4 (ah_n h13 41)) ∧ Q (some (.int (ah_i h13 41 (Int32.toNatClampNeg x4)))) h13)) ∧ (¬ (ah_i h 4 3) ≤ x6 → (Mt mX7_get [.ref 4, .int x6, .int 0] h (ab_qi fun v19 h17 => Sh h17 ∧ ((¬ (f_X11_isIn v19 12) = 0 → (¬ (f_X11_isIn x2 12) = 0 → vp_in ((v19 * 12) + x2) (ah_n h17 34)))) ∧ (Mt mX7_get [.ref 4, .int x6, .int 1] h17 (ab_qi fun v23 h21 => Sh h21 ∧ (Mt mX8_ask [.ref 38, .int 0, .int x6, .int v23, .int x1, .int (f_X6_sight h17 v19 x2), .int 1, .int x3] h21 (ab_qi fun v26 h24 => Sh h24 ∧ ((v26 = 0 → Wp mX8_fearful Q 0 0 43 [some (.ref 38), some (.int x1), some (.int x2), some (.int x3), some (.int x4), some (.int x5), some (.int (x6 + 1)), none] [] h24) ∧ (¬ v26 = 0 → Wp mX8_fearful Q 0 0 43 [some (.ref 38), some (.int x1), some (.int x2), some (.int x3), some (.int x4), some (.int (x5 ||| ((1 : Int32) <<< (x6 &&& 31)))), some (.int (x6 + 1)), none] [] h24))))))))))) : Wp mX8_fearful Q 0 0 43 [some (.ref 38), some (.int x1), some (.int x2), some (.int x3), some (.int x4), some (.int x5), some (.int x6), none] [] h := by
  refine ab_iload (i := 6) dX8_fearful_43 rfl ?_
  refine ab_aload_n (i := 0) dX8_fearful_45 rfl rfl ?_
  refine ab_getR (b := 1) f_X8_40 rfl (sh_k hs 38 8 (by decide) rfl) (sh_r hs 43 rfl) dX8_fearful_46 ?_
  refine ab_getR (b := 4) f_X8_76 rfl (sh_k hs 1 10 (by decide) rfl) (sh_r hs 14 rfl) dX8_fearful_49 ?_
  refine ab_getI f_X8_80 rfl (sh_k hs 4 7 (by decide) rfl) dX8_fearful_52 ?_
  refine ab_icmp_ge (tgt := 124) dX8_fearful_55 (by decide) (fun c11 => ?_) (fun c11 => ?_)
  · have ht := ht.1 c11
    refine ab_aload_n (i := 0) dX8_fearful_124 rfl rfl ?_
    refine ab_getR (b := 41) f_X8_34 rfl (sh_k hs 38 8 (by decide) rfl) (sh_r hs 48 rfl) dX8_fearful_125 ?_
    refine ab_iload (i := 4) dX8_fearful_128 rfl ?_
    refine ab_iload (i := 5) dX8_fearful_130 rfl ?_
    obtain ⟨hc12, ht⟩ := ht
    refine ab_iast (sh_k hs 41 14 (by decide) rfl) hc12 dX8_fearful_132 ?_
    refine Wp.nm fun h13 e14 => ?_
    have ht := ht h13 e14
    have hs15 : Sh h13 := by rw [e14]; exact sh_si hs
    refine ab_aload_n (i := 0) dX8_fearful_133 rfl rfl ?_
    refine ab_getR (b := 41) f_X8_34 rfl (sh_k hs15 38 8 (by decide) rfl) (sh_r hs15 48 rfl) dX8_fearful_134 ?_
    refine ab_iload (i := 4) dX8_fearful_137 rfl ?_
    obtain ⟨hc16, ht⟩ := ht
    refine ab_iald (sh_k hs15 41 14 (by decide) rfl) hc16 dX8_fearful_139 ?_
    exact ab_iret rfl dX8_fearful_140 (Nat.le_of_ble_eq_true rfl) (Nat.le_of_ble_eq_true rfl) ht
  · have ht := ht.2 c11
    refine ab_aload_n (i := 0) dX8_fearful_58 rfl rfl ?_
    refine ab_getR (b := 29) f_X8_48 rfl (sh_k hs 38 8 (by decide) rfl) (sh_r hs 45 rfl) dX8_fearful_59 ?_
    refine ab_aload_n (i := 0) dX8_fearful_62 rfl rfl ?_
    refine ab_getR (b := 1) f_X8_40 rfl (sh_k hs 38 8 (by decide) rfl) (sh_r hs 43 rfl) dX8_fearful_63 ?_
    refine ab_getR (b := 4) f_X8_76 rfl (sh_k hs 1 10 (by decide) rfl) (sh_r hs 14 rfl) dX8_fearful_66 ?_
    refine ab_iload (i := 6) dX8_fearful_69 rfl ?_
    refine ab_iconst (v := 0) dX8_fearful_71 (by decide) ?_
    refine ab_callV (b := 4) (As := [.int x6, .int 0]) ht (Y_X7_get) l_X8_85 in_X7_get se_X7_get (sh_k hs 4 7 (by decide) rfl) (by decide) rfl rfl ⟨(Nat.le_of_ble_eq_true rfl), (Nat.le_of_ble_eq_true rfl), (Nat.le_of_ble_eq_true rfl), (Nat.le_of_ble_eq_true rfl)⟩ dX8_fearful_72 ?_
    rintro _ h17 ⟨v19, rfl, hs18, ht⟩
    refine ab_iload_n (i := 2) dX8_fearful_75 rfl rfl ?_
    obtain ⟨hc20, ht⟩ := ht
    refine ab_callV (b := 29) (Q' := fun r h' => r = some (.int (f_X6_sight h17 v19 x2)) ∧ h17 = h') (As := [.int v19, .int x2]) (c_X6_sight hs18 v19 x2  hc20 ⟨rfl, rfl⟩) (Y_X6_sight) l_X8_89 in_X6_sight se_X6_sight (sh_k hs18 29 6 (by decide) rfl) (by decide) rfl rfl ⟨(Nat.le_of_ble_eq_true rfl), (Nat.le_of_ble_eq_true rfl), (Nat.le_of_ble_eq_true rfl), (Nat.le_of_ble_eq_true rfl)⟩ dX8_fearful_76 ?_
    rintro _ _ ⟨rfl, rfl⟩
    refine ab_istore (i := 7) (L' := [some (.ref 38), some (.int x1), some (.int x2), some (.int x3), some (.int x4), some (.int x5), some (.int x6), some (.int (f_X6_sight h17 v19 x2))]) dX8_fearful_79 (by exact (Nat.le_of_ble_eq_true rfl)) rfl rfl ?_
    refine ab_aload_n (i := 0) dX8_fearful_81 rfl rfl ?_
    refine ab_iconst (v := 0) dX8_fearful_82 (by decide) ?_
    refine ab_iload (i := 6) dX8_fearful_83 rfl ?_
    refine ab_aload_n (i := 0) dX8_fearful_85 rfl rfl ?_
    refine ab_getR (b := 1) f_X8_40 rfl (sh_k hs18 38 8 (by decide) rfl) (sh_r hs18 43 rfl) dX8_fearful_86 ?_
    refine ab_getR (b := 4) f_X8_76 rfl (sh_k hs18 1 10 (by decide) rfl) (sh_r hs18 14 rfl) dX8_fearful_89 ?_
    refine ab_iload (i := 6) dX8_fearful_92 rfl ?_
    refine ab_iconst (v := 1) dX8_fearful_94 (by decide) ?_
    refine ab_callV (b := 4) (As := [.int x6, .int 1]) ht (Y_X7_get) l_X8_85 in_X7_get se_X7_get (sh_k hs18 4 7 (by decide) rfl) (by decide) rfl rfl ⟨(Nat.le_of_ble_eq_true rfl), (Nat.le_of_ble_eq_true rfl), (Nat.le_of_ble_eq_true rfl), (Nat.le_of_ble_eq_true rfl)⟩ dX8_fearful_95 ?_
    rintro _ h21 ⟨v23, rfl, hs22, ht⟩
    refine ab_iload_n (i := 1) dX8_fearful_98 rfl rfl ?_
    refine ab_iload (i := 7) dX8_fearful_99 rfl ?_
    refine ab_iconst (v := 1) dX8_fearful_101 (by decide) ?_
    refine ab_iload_n (i := 3) dX8_fearful_102 rfl rfl ?_
    refine ab_callV (b := 38) (As := [.int 0, .int x6, .int v23, .int x1, .int (f_X6_sight h17 v19 x2), .int 1, .int x3]) ht (Y_X8_ask) l_X8_94 in_X8_ask se_X8_ask (sh_k hs22 38 8 (by decide) rfl) (by decide) rfl rfl ⟨(Nat.le_of_ble_eq_true rfl), (Nat.le_of_ble_eq_true rfl), (Nat.le_of_ble_eq_true rfl), (Nat.le_of_ble_eq_true rfl)⟩ dX8_fearful_103 ?_
    rintro _ h24 ⟨v26, rfl, hs25, ht⟩
    refine ab_if_eq (tgt := 118) dX8_fearful_106 (by decide) (fun c27 => ?_) (fun c27 => ?_)
    · have ht := ht.1 c27
      refine ab_iinc (i := 6) (x := x6) (v := (x6 + 1)) (L' := [some (.ref 38), some (.int x1), some (.int x2), some (.int x3), some (.int x4), some (.int x5), some (.int (x6 + 1)), some (.int (f_X6_sight h17 v19 x2))]) dX8_fearful_118 rfl rfl (by exact (Nat.le_of_ble_eq_true rfl)) rfl rfl ?_
      refine ab_goto (tgt := 43) dX8_fearful_121 (by decide) ?_
      exact Wp.fewer (L' := [some (.ref 38), some (.int x1), some (.int x2), some (.int x3), some (.int x4), some (.int x5), some (.int (x6 + 1)), none]) (show ab_leL _ _ from ⟨rfl, ⟨rfl, ⟨rfl, ⟨rfl, ⟨rfl, ⟨rfl, ⟨rfl, trivial⟩⟩⟩⟩⟩⟩⟩) ht
    · have ht := ht.2 c27
      refine ab_iload (i := 5) dX8_fearful_109 rfl ?_
      refine ab_iconst (v := 1) dX8_fearful_111 (by decide) ?_
      refine ab_iload (i := 6) dX8_fearful_112 rfl ?_
      refine ab_ishl dX8_fearful_114 ?_
      refine ab_ior dX8_fearful_115 ?_
      refine ab_istore (i := 5) (L' := [some (.ref 38), some (.int x1), some (.int x2), some (.int x3), some (.int x4), some (.int (x5 ||| ((1 : Int32) <<< (x6 &&& 31)))), some (.int x6), some (.int (f_X6_sight h17 v19 x2))]) dX8_fearful_116 (by exact (Nat.le_of_ble_eq_true rfl)) rfl rfl ?_
      refine ab_iinc (i := 6) (x := x6) (v := (x6 + 1)) (L' := [some (.ref 38), some (.int x1), some (.int x2), some (.int x3), some (.int x4), some (.int (x5 ||| ((1 : Int32) <<< (x6 &&& 31)))), some (.int (x6 + 1)), some (.int (f_X6_sight h17 v19 x2))]) dX8_fearful_118 rfl rfl (by exact (Nat.le_of_ble_eq_true rfl)) rfl rfl ?_
      refine ab_goto (tgt := 43) dX8_fearful_121 (by decide) ?_
      exact Wp.fewer (L' := [some (.ref 38), some (.int x1), some (.int x2), some (.int x3), some (.int x4), some (.int (x5 ||| ((1 : Int32) <<< (x6 &&& 31)))), some (.int (x6 + 1)), none]) (show ab_leL _ _ from ⟨rfl, ⟨rfl, ⟨rfl, ⟨rfl, ⟨rfl, ⟨rfl, ⟨rfl, trivial⟩⟩⟩⟩⟩⟩⟩) ht
set_option maxRecDepth 20000 in
theorem T_X8_fearful {Q : Option Value → ah_T → Prop} {h : ah_T} (hs : Sh h) (x1 : Int32) (x2 : Int32) (x3 : Int32) (ht : (Mt mX8_heeds [.ref 38, .int 0, .int 5] h (ab_qi fun v3 h1 => Sh h1 ∧ ((v3 = 0 → (vp_in ((((0 * 6) + x1) * 12) + x2) (ah_n h1 41)) ∧ ((¬ (ah_i h1 41 (Int32.toNatClampNeg ((((0 * 6) + x1) * 12) + x2))) = (-1) → (vp_in ((((0 * 6) + x1) * 12) + x2) (ah_n h1 41)) ∧ Q (some (.int (ah_i h1 41 (Int32.toNatClampNeg ((((0 * 6) + x1) * 12) + x2))))) h1) ∧ ((ah_i h1 41 (Int32.toNatClampNeg ((((0 * 6) + x1) * 12) + x2))) = (-1) → Wp mX8_fearful Q 0 0 43 [some (.ref 38), some (.int x1), some (.int x2), some (.int x3), some (.int ((((0 * 6) + x1) * 12) + x2)), some (.int 0), some (.int 0), none] [] h1))) ∧ (¬ v3 = 0 → (vp_in ((((x3 * 6) + x1) * 12) + x2) (ah_n h1 41)) ∧ ((¬ (ah_i h1 41 (Int32.toNatClampNeg ((((x3 * 6) + x1) * 12) + x2))) = (-1) → (vp_in ((((x3 * 6) + x1) * 12) + x2) (ah_n h1 41)) ∧ Q (some (.int (ah_i h1 41 (Int32.toNatClampNeg ((((x3 * 6) + x1) * 12) + x2))))) h1) ∧ ((ah_i h1 41 (Int32.toNatClampNeg ((((x3 * 6) + x1) * 12) + x2))) = (-1) → Wp mX8_fearful Q 0 0 43 [some (.ref 38), some (.int x1), some (.int x2), some (.int x3), some (.int ((((x3 * 6) + x1) * 12) + x2)), some (.int 0), some (.int 0), none] [] h1))))))) : Mt mX8_fearful [.ref 38, .int x1, .int x2, .int x3] h Q := by
  refine Mt.ofWp rfl (by exact (Nat.le_of_ble_eq_true rfl)) (Wp.fewer (L' := [some (.ref 38), some (.int x1), some (.int x2), some (.int x3), none, none, none, none]) (show ab_leL _ _ from ⟨rfl, ⟨rfl, ⟨rfl, ⟨rfl, trivial⟩⟩⟩⟩) ?_)
  refine ab_aload_n (i := 0) dX8_fearful_0 rfl rfl ?_
  refine ab_iconst (v := 0) dX8_fearful_1 (by decide) ?_
  refine ab_iconst (v := 5) dX8_fearful_2 (by decide) ?_
  refine ab_callV (b := 38) (As := [.int 0, .int 5]) ht (Y_X8_heeds) l_X8_61 in_X8_heeds se_X8_heeds (sh_k hs 38 8 (by decide) rfl) (by decide) rfl rfl ⟨(Nat.le_of_ble_eq_true rfl), (Nat.le_of_ble_eq_true rfl), (Nat.le_of_ble_eq_true rfl), (Nat.le_of_ble_eq_true rfl)⟩ dX8_fearful_3 ?_
  rintro _ h1 ⟨v3, rfl, hs2, ht⟩
  refine ab_if_eq (tgt := 13) dX8_fearful_6 (by decide) (fun c4 => ?_) (fun c4 => ?_)
  · have ht := ht.1 c4
    refine ab_iconst (v := 0) dX8_fearful_13 (by decide) ?_
    refine ab_bipush (v := 6) dX8_fearful_14 (by decide) ?_
    refine ab_imul dX8_fearful_16 ?_
    refine ab_iload_n (i := 1) dX8_fearful_17 rfl rfl ?_
    refine ab_iadd dX8_fearful_18 ?_
    refine ab_bipush (v := 12) dX8_fearful_19 (by decide) ?_
    refine ab_imul dX8_fearful_21 ?_
    refine ab_iload_n (i := 2) dX8_fearful_22 rfl rfl ?_
    refine ab_iadd dX8_fearful_23 ?_
    refine ab_istore (i := 4) (L' := [some (.ref 38), some (.int x1), some (.int x2), some (.int x3), some (.int ((((0 * 6) + x1) * 12) + x2)), none, none, none]) dX8_fearful_24 (by exact (Nat.le_of_ble_eq_true rfl)) rfl rfl ?_
    refine ab_aload_n (i := 0) dX8_fearful_26 rfl rfl ?_
    refine ab_getR (b := 41) f_X8_34 rfl (sh_k hs2 38 8 (by decide) rfl) (sh_r hs2 48 rfl) dX8_fearful_27 ?_
    refine ab_iload (i := 4) dX8_fearful_30 rfl ?_
    obtain ⟨hc5, ht⟩ := ht
    refine ab_iald (sh_k hs2 41 14 (by decide) rfl) hc5 dX8_fearful_32 ?_
    refine ab_iconst (v := (-1)) dX8_fearful_33 (by decide) ?_
    refine ab_icmp_ne (tgt := 133) dX8_fearful_34 (by decide) (fun c6 => ?_) (fun c6 => ?_)
    · have ht := ht.1 c6
      refine ab_aload_n (i := 0) dX8_fearful_133 rfl rfl ?_
      refine ab_getR (b := 41) f_X8_34 rfl (sh_k hs2 38 8 (by decide) rfl) (sh_r hs2 48 rfl) dX8_fearful_134 ?_
      refine ab_iload (i := 4) dX8_fearful_137 rfl ?_
      obtain ⟨hc7, ht⟩ := ht
      refine ab_iald (sh_k hs2 41 14 (by decide) rfl) hc7 dX8_fearful_139 ?_
      exact ab_iret rfl dX8_fearful_140 (Nat.le_of_ble_eq_true rfl) (Nat.le_of_ble_eq_true rfl) ht
    · have ht := ht.2 c6
      refine ab_iconst (v := 0) dX8_fearful_37 (by decide) ?_
      refine ab_istore (i := 5) (L' := [some (.ref 38), some (.int x1), some (.int x2), some (.int x3), some (.int ((((0 * 6) + x1) * 12) + x2)), some (.int 0), none, none]) dX8_fearful_38 (by exact (Nat.le_of_ble_eq_true rfl)) rfl rfl ?_
      refine ab_iconst (v := 0) dX8_fearful_40 (by decide) ?_
      refine ab_istore (i := 6) (L' := [some (.ref 38), some (.int x1), some (.int x2), some (.int x3), some (.int ((((0 * 6) + x1) * 12) + x2)), some (.int 0), some (.int 0), none]) dX8_fearful_41 (by exact (Nat.le_of_ble_eq_true rfl)) rfl rfl ?_
      exact Wp.fewer (L' := [some (.ref 38), some (.int x1), some (.int x2), some (.int x3), some (.int ((((0 * 6) + x1) * 12) + x2)), some (.int 0), some (.int 0), none]) (show ab_leL _ _ from ⟨rfl, ⟨rfl, ⟨rfl, ⟨rfl, ⟨rfl, ⟨rfl, ⟨rfl, trivial⟩⟩⟩⟩⟩⟩⟩) ht
  · have ht := ht.2 c4
    refine ab_iload_n (i := 3) dX8_fearful_9 rfl rfl ?_
    refine ab_goto (tgt := 14) dX8_fearful_10 (by decide) ?_
    refine ab_bipush (v := 6) dX8_fearful_14 (by decide) ?_
    refine ab_imul dX8_fearful_16 ?_
    refine ab_iload_n (i := 1) dX8_fearful_17 rfl rfl ?_
    refine ab_iadd dX8_fearful_18 ?_
    refine ab_bipush (v := 12) dX8_fearful_19 (by decide) ?_
    refine ab_imul dX8_fearful_21 ?_
    refine ab_iload_n (i := 2) dX8_fearful_22 rfl rfl ?_
    refine ab_iadd dX8_fearful_23 ?_
    refine ab_istore (i := 4) (L' := [some (.ref 38), some (.int x1), some (.int x2), some (.int x3), some (.int ((((x3 * 6) + x1) * 12) + x2)), none, none, none]) dX8_fearful_24 (by exact (Nat.le_of_ble_eq_true rfl)) rfl rfl ?_
    refine ab_aload_n (i := 0) dX8_fearful_26 rfl rfl ?_
    refine ab_getR (b := 41) f_X8_34 rfl (sh_k hs2 38 8 (by decide) rfl) (sh_r hs2 48 rfl) dX8_fearful_27 ?_
    refine ab_iload (i := 4) dX8_fearful_30 rfl ?_
    obtain ⟨hc8, ht⟩ := ht
    refine ab_iald (sh_k hs2 41 14 (by decide) rfl) hc8 dX8_fearful_32 ?_
    refine ab_iconst (v := (-1)) dX8_fearful_33 (by decide) ?_
    refine ab_icmp_ne (tgt := 133) dX8_fearful_34 (by decide) (fun c9 => ?_) (fun c9 => ?_)
    · have ht := ht.1 c9
      refine ab_aload_n (i := 0) dX8_fearful_133 rfl rfl ?_
      refine ab_getR (b := 41) f_X8_34 rfl (sh_k hs2 38 8 (by decide) rfl) (sh_r hs2 48 rfl) dX8_fearful_134 ?_
      refine ab_iload (i := 4) dX8_fearful_137 rfl ?_
      obtain ⟨hc10, ht⟩ := ht
      refine ab_iald (sh_k hs2 41 14 (by decide) rfl) hc10 dX8_fearful_139 ?_
      exact ab_iret rfl dX8_fearful_140 (Nat.le_of_ble_eq_true rfl) (Nat.le_of_ble_eq_true rfl) ht
    · have ht := ht.2 c9
      refine ab_iconst (v := 0) dX8_fearful_37 (by decide) ?_
      refine ab_istore (i := 5) (L' := [some (.ref 38), some (.int x1), some (.int x2), some (.int x3), some (.int ((((x3 * 6) + x1) * 12) + x2)), some (.int 0), none, none]) dX8_fearful_38 (by exact (Nat.le_of_ble_eq_true rfl)) rfl rfl ?_
      refine ab_iconst (v := 0) dX8_fearful_40 (by decide) ?_
      refine ab_istore (i := 6) (L' := [some (.ref 38), some (.int x1), some (.int x2), some (.int x3), some (.int ((((x3 * 6) + x1) * 12) + x2)), some (.int 0), some (.int 0), none]) dX8_fearful_41 (by exact (Nat.le_of_ble_eq_true rfl)) rfl rfl ?_
      exact Wp.fewer (L' := [some (.ref 38), some (.int x1), some (.int x2), some (.int x3), some (.int ((((x3 * 6) + x1) * 12) + x2)), some (.int 0), some (.int 0), none]) (show ab_leL _ _ from ⟨rfl, ⟨rfl, ⟨rfl, ⟨rfl, ⟨rfl, ⟨rfl, ⟨rfl, trivial⟩⟩⟩⟩⟩⟩⟩) ht
theorem dX8_thirst_0 : decode cX8_thirst 0 = .ok (.aload_n 0, 1) := by decide +kernel
theorem dX8_thirst_1 : decode cX8_thirst 1 = .ok (.iconst 2, 1) := by decide +kernel
theorem dX8_thirst_2 : decode cX8_thirst 2 = .ok (.iconst 5, 1) := by decide +kernel
theorem dX8_thirst_3 : decode cX8_thirst 3 = .ok (.invokevirtual 61, 3) := by decide +kernel
theorem dX8_thirst_6 : decode cX8_thirst 6 = .ok (.ifCond .eq 7, 3) := by decide +kernel
theorem dX8_thirst_9 : decode cX8_thirst 9 = .ok (.iload_n 2, 1) := by decide +kernel
theorem dX8_thirst_10 : decode cX8_thirst 10 = .ok (.goto 4, 3) := by decide +kernel
theorem dX8_thirst_13 : decode cX8_thirst 13 = .ok (.iconst 0, 1) := by decide +kernel
theorem dX8_thirst_14 : decode cX8_thirst 14 = .ok (.bipush 10, 2) := by decide +kernel
theorem dX8_thirst_16 : decode cX8_thirst 16 = .ok (.imul, 1) := by decide +kernel
theorem dX8_thirst_17 : decode cX8_thirst 17 = .ok (.iload_n 1, 1) := by decide +kernel
theorem dX8_thirst_18 : decode cX8_thirst 18 = .ok (.iadd, 1) := by decide +kernel
theorem dX8_thirst_19 : decode cX8_thirst 19 = .ok (.istore_n 3, 1) := by decide +kernel
theorem dX8_thirst_20 : decode cX8_thirst 20 = .ok (.aload_n 0, 1) := by decide +kernel
theorem dX8_thirst_21 : decode cX8_thirst 21 = .ok (.getfield 37, 3) := by decide +kernel
theorem dX8_thirst_24 : decode cX8_thirst 24 = .ok (.iload_n 3, 1) := by decide +kernel
theorem dX8_thirst_25 : decode cX8_thirst 25 = .ok (.iaload, 1) := by decide +kernel
theorem dX8_thirst_26 : decode cX8_thirst 26 = .ok (.iconst (-1), 1) := by decide +kernel
theorem dX8_thirst_27 : decode cX8_thirst 27 = .ok (.if_icmp .ne 31, 3) := by decide +kernel
theorem dX8_thirst_30 : decode cX8_thirst 30 = .ok (.aload_n 0, 1) := by decide +kernel
theorem dX8_thirst_31 : decode cX8_thirst 31 = .ok (.getfield 37, 3) := by decide +kernel
theorem dX8_thirst_34 : decode cX8_thirst 34 = .ok (.iload_n 3, 1) := by decide +kernel
theorem dX8_thirst_35 : decode cX8_thirst 35 = .ok (.aload_n 0, 1) := by decide +kernel
theorem dX8_thirst_36 : decode cX8_thirst 36 = .ok (.iconst 2, 1) := by decide +kernel
theorem dX8_thirst_37 : decode cX8_thirst 37 = .ok (.iload_n 1, 1) := by decide +kernel
theorem dX8_thirst_38 : decode cX8_thirst 38 = .ok (.aload_n 0, 1) := by decide +kernel
theorem dX8_thirst_39 : decode cX8_thirst 39 = .ok (.getfield 40, 3) := by decide +kernel
theorem dX8_thirst_42 : decode cX8_thirst 42 = .ok (.getfield 76, 3) := by decide +kernel
theorem dX8_thirst_45 : decode cX8_thirst 45 = .ok (.iload_n 1, 1) := by decide +kernel
theorem dX8_thirst_46 : decode cX8_thirst 46 = .ok (.iconst 1, 1) := by decide +kernel
theorem dX8_thirst_47 : decode cX8_thirst 47 = .ok (.invokevirtual 85, 3) := by decide +kernel
theorem dX8_thirst_50 : decode cX8_thirst 50 = .ok (.iconst (-1), 1) := by decide +kernel
theorem dX8_thirst_51 : decode cX8_thirst 51 = .ok (.iconst (-1), 1) := by decide +kernel
theorem dX8_thirst_52 : decode cX8_thirst 52 = .ok (.iconst (-1), 1) := by decide +kernel
theorem dX8_thirst_53 : decode cX8_thirst 53 = .ok (.iload_n 2, 1) := by decide +kernel
theorem dX8_thirst_54 : decode cX8_thirst 54 = .ok (.invokevirtual 94, 3) := by decide +kernel
theorem dX8_thirst_57 : decode cX8_thirst 57 = .ok (.iastore, 1) := by decide +kernel
theorem dX8_thirst_58 : decode cX8_thirst 58 = .ok (.aload_n 0, 1) := by decide +kernel
theorem dX8_thirst_59 : decode cX8_thirst 59 = .ok (.getfield 37, 3) := by decide +kernel
theorem dX8_thirst_62 : decode cX8_thirst 62 = .ok (.iload_n 3, 1) := by decide +kernel
theorem dX8_thirst_63 : decode cX8_thirst 63 = .ok (.iaload, 1) := by decide +kernel
theorem dX8_thirst_64 : decode cX8_thirst 64 = .ok (.ireturn, 1) := by decide +kernel
set_option maxRecDepth 20000 in
theorem T_X8_thirst {Q : Option Value → ah_T → Prop} {h : ah_T} (hs : Sh h) (x1 : Int32) (x2 : Int32) (ht : (Mt mX8_heeds [.ref 38, .int 2, .int 5] h (ab_qi fun v3 h1 => Sh h1 ∧ ((v3 = 0 → (vp_in ((0 * 10) + x1) (ah_n h1 42)) ∧ ((¬ (ah_i h1 42 (Int32.toNatClampNeg ((0 * 10) + x1))) = (-1) → (vp_in ((0 * 10) + x1) (ah_n h1 42)) ∧ Q (some (.int (ah_i h1 42 (Int32.toNatClampNeg ((0 * 10) + x1))))) h1) ∧ ((ah_i h1 42 (Int32.toNatClampNeg ((0 * 10) + x1))) = (-1) → (Mt mX7_get [.ref 4, .int x1, .int 1] h1 (ab_qi fun v10 h8 => Sh h8 ∧ (Mt mX8_ask [.ref 38, .int 2, .int x1, .int v10, .int (-1), .int (-1), .int (-1), .int x2] h8 (ab_qi fun v13 h11 => Sh h11 ∧ (vp_in ((0 * 10) + x1) (ah_n h11 42)) ∧ (∀ h15, h15 = ah_si h11 42 (Int32.toNatClampNeg ((0 * 10) + x1)) v13 → (vp_in ((0 * 10) + x1) (ah_n h15 42)) ∧ Q (some (.int (ah_i h15 42 (Int32.toNatClampNeg ((0 * 10) + x1))))) h15)))))))) ∧ (¬ v3 = 0 → (vp_in ((x2 * 10) + x1) (ah_n h1 42)) ∧ ((¬ (ah_i h1 42 (Int32.toNatClampNeg ((x2 * 10) + x1))) = (-1) → (vp_in ((x2 * 10) + x1) (ah_n h1 42)) ∧ Q (some (.int (ah_i h1 42 (Int32.toNatClampNeg ((x2 * 10) + x1))))) h1) ∧ ((ah_i h1 42 (Int32.toNatClampNeg ((x2 * 10) + x1))) = (-1) → (Mt mX7_get [.ref 4, .int x1, .int 1] h1 (ab_qi fun v24 h22 => Sh h22 ∧ (Mt mX8_ask [.ref 38, .int 2, .int x1, .int v24, .int (-1), .int (-1), .int (-1), .int x2] h22 (ab_qi fun v27 h25 => Sh h25 ∧ (vp_in ((x2 * 10) + x1) (ah_n h25 42)) ∧ (∀ h29, h29 = ah_si h25 42 (Int32.toNatClampNeg ((x2 * 10) + x1)) v27 → (vp_in ((x2 * 10) + x1) (ah_n h29 42)) ∧ Q (some (.int (ah_i h29 42 (Int32.toNatClampNeg ((x2 * 10) + x1))))) h29)))))))))))) : Mt mX8_thirst [.ref 38, .int x1, .int x2] h Q := by
  refine Mt.ofWp rfl (by exact (Nat.le_of_ble_eq_true rfl)) (Wp.fewer (L' := [some (.ref 38), some (.int x1), some (.int x2), none]) (show ab_leL _ _ from ⟨rfl, ⟨rfl, ⟨rfl, trivial⟩⟩⟩) ?_)
  refine ab_aload_n (i := 0) dX8_thirst_0 rfl rfl ?_
  refine ab_iconst (v := 2) dX8_thirst_1 (by decide) ?_
  refine ab_iconst (v := 5) dX8_thirst_2 (by decide) ?_
  refine ab_callV (b := 38) (As := [.int 2, .int 5]) ht (Y_X8_heeds) l_X8_61 in_X8_heeds se_X8_heeds (sh_k hs 38 8 (by decide) rfl) (by decide) rfl rfl ⟨(Nat.le_of_ble_eq_true rfl), (Nat.le_of_ble_eq_true rfl), (Nat.le_of_ble_eq_true rfl), (Nat.le_of_ble_eq_true rfl)⟩ dX8_thirst_3 ?_
  rintro _ h1 ⟨v3, rfl, hs2, ht⟩
  refine ab_if_eq (tgt := 13) dX8_thirst_6 (by decide) (fun c4 => ?_) (fun c4 => ?_)
  · have ht := ht.1 c4
    refine ab_iconst (v := 0) dX8_thirst_13 (by decide) ?_
    refine ab_bipush (v := 10) dX8_thirst_14 (by decide) ?_
    refine ab_imul dX8_thirst_16 ?_
    refine ab_iload_n (i := 1) dX8_thirst_17 rfl rfl ?_
    refine ab_iadd dX8_thirst_18 ?_
    refine ab_istore_n (i := 3) (L' := [some (.ref 38), some (.int x1), some (.int x2), some (.int ((0 * 10) + x1))]) dX8_thirst_19 rfl (by exact (Nat.le_of_ble_eq_true rfl)) rfl rfl ?_
    refine ab_aload_n (i := 0) dX8_thirst_20 rfl rfl ?_
    refine ab_getR (b := 42) f_X8_37 rfl (sh_k hs2 38 8 (by decide) rfl) (sh_r hs2 49 rfl) dX8_thirst_21 ?_
    refine ab_iload_n (i := 3) dX8_thirst_24 rfl rfl ?_
    obtain ⟨hc5, ht⟩ := ht
    refine ab_iald (sh_k hs2 42 14 (by decide) rfl) hc5 dX8_thirst_25 ?_
    refine ab_iconst (v := (-1)) dX8_thirst_26 (by decide) ?_
    refine ab_icmp_ne (tgt := 58) dX8_thirst_27 (by decide) (fun c6 => ?_) (fun c6 => ?_)
    · have ht := ht.1 c6
      refine ab_aload_n (i := 0) dX8_thirst_58 rfl rfl ?_
      refine ab_getR (b := 42) f_X8_37 rfl (sh_k hs2 38 8 (by decide) rfl) (sh_r hs2 49 rfl) dX8_thirst_59 ?_
      refine ab_iload_n (i := 3) dX8_thirst_62 rfl rfl ?_
      obtain ⟨hc7, ht⟩ := ht
      refine ab_iald (sh_k hs2 42 14 (by decide) rfl) hc7 dX8_thirst_63 ?_
      exact ab_iret rfl dX8_thirst_64 (Nat.le_of_ble_eq_true rfl) (Nat.le_of_ble_eq_true rfl) ht
    · have ht := ht.2 c6
      refine ab_aload_n (i := 0) dX8_thirst_30 rfl rfl ?_
      refine ab_getR (b := 42) f_X8_37 rfl (sh_k hs2 38 8 (by decide) rfl) (sh_r hs2 49 rfl) dX8_thirst_31 ?_
      refine ab_iload_n (i := 3) dX8_thirst_34 rfl rfl ?_
      refine ab_aload_n (i := 0) dX8_thirst_35 rfl rfl ?_
      refine ab_iconst (v := 2) dX8_thirst_36 (by decide) ?_
      refine ab_iload_n (i := 1) dX8_thirst_37 rfl rfl ?_
      refine ab_aload_n (i := 0) dX8_thirst_38 rfl rfl ?_
      refine ab_getR (b := 1) f_X8_40 rfl (sh_k hs2 38 8 (by decide) rfl) (sh_r hs2 43 rfl) dX8_thirst_39 ?_
      refine ab_getR (b := 4) f_X8_76 rfl (sh_k hs2 1 10 (by decide) rfl) (sh_r hs2 14 rfl) dX8_thirst_42 ?_
      refine ab_iload_n (i := 1) dX8_thirst_45 rfl rfl ?_
      refine ab_iconst (v := 1) dX8_thirst_46 (by decide) ?_
      refine ab_callV (b := 4) (As := [.int x1, .int 1]) ht (Y_X7_get) l_X8_85 in_X7_get se_X7_get (sh_k hs2 4 7 (by decide) rfl) (by decide) rfl rfl ⟨(Nat.le_of_ble_eq_true rfl), (Nat.le_of_ble_eq_true rfl), (Nat.le_of_ble_eq_true rfl), (Nat.le_of_ble_eq_true rfl)⟩ dX8_thirst_47 ?_
      rintro _ h8 ⟨v10, rfl, hs9, ht⟩
      refine ab_iconst (v := (-1)) dX8_thirst_50 (by decide) ?_
      refine ab_iconst (v := (-1)) dX8_thirst_51 (by decide) ?_
      refine ab_iconst (v := (-1)) dX8_thirst_52 (by decide) ?_
      refine ab_iload_n (i := 2) dX8_thirst_53 rfl rfl ?_
      refine ab_callV (b := 38) (As := [.int 2, .int x1, .int v10, .int (-1), .int (-1), .int (-1), .int x2]) ht (Y_X8_ask) l_X8_94 in_X8_ask se_X8_ask (sh_k hs9 38 8 (by decide) rfl) (by decide) rfl rfl ⟨(Nat.le_of_ble_eq_true rfl), (Nat.le_of_ble_eq_true rfl), (Nat.le_of_ble_eq_true rfl), (Nat.le_of_ble_eq_true rfl)⟩ dX8_thirst_54 ?_
      rintro _ h11 ⟨v13, rfl, hs12, ht⟩
      obtain ⟨hc14, ht⟩ := ht
      refine ab_iast (sh_k hs12 42 14 (by decide) rfl) hc14 dX8_thirst_57 ?_
      refine Wp.nm fun h15 e16 => ?_
      have ht := ht h15 e16
      have hs17 : Sh h15 := by rw [e16]; exact sh_si hs12
      refine ab_aload_n (i := 0) dX8_thirst_58 rfl rfl ?_
      refine ab_getR (b := 42) f_X8_37 rfl (sh_k hs17 38 8 (by decide) rfl) (sh_r hs17 49 rfl) dX8_thirst_59 ?_
      refine ab_iload_n (i := 3) dX8_thirst_62 rfl rfl ?_
      obtain ⟨hc18, ht⟩ := ht
      refine ab_iald (sh_k hs17 42 14 (by decide) rfl) hc18 dX8_thirst_63 ?_
      exact ab_iret rfl dX8_thirst_64 (Nat.le_of_ble_eq_true rfl) (Nat.le_of_ble_eq_true rfl) ht
  · have ht := ht.2 c4
    refine ab_iload_n (i := 2) dX8_thirst_9 rfl rfl ?_
    refine ab_goto (tgt := 14) dX8_thirst_10 (by decide) ?_
    refine ab_bipush (v := 10) dX8_thirst_14 (by decide) ?_
    refine ab_imul dX8_thirst_16 ?_
    refine ab_iload_n (i := 1) dX8_thirst_17 rfl rfl ?_
    refine ab_iadd dX8_thirst_18 ?_
    refine ab_istore_n (i := 3) (L' := [some (.ref 38), some (.int x1), some (.int x2), some (.int ((x2 * 10) + x1))]) dX8_thirst_19 rfl (by exact (Nat.le_of_ble_eq_true rfl)) rfl rfl ?_
    refine ab_aload_n (i := 0) dX8_thirst_20 rfl rfl ?_
    refine ab_getR (b := 42) f_X8_37 rfl (sh_k hs2 38 8 (by decide) rfl) (sh_r hs2 49 rfl) dX8_thirst_21 ?_
    refine ab_iload_n (i := 3) dX8_thirst_24 rfl rfl ?_
    obtain ⟨hc19, ht⟩ := ht
    refine ab_iald (sh_k hs2 42 14 (by decide) rfl) hc19 dX8_thirst_25 ?_
    refine ab_iconst (v := (-1)) dX8_thirst_26 (by decide) ?_
    refine ab_icmp_ne (tgt := 58) dX8_thirst_27 (by decide) (fun c20 => ?_) (fun c20 => ?_)
    · have ht := ht.1 c20
      refine ab_aload_n (i := 0) dX8_thirst_58 rfl rfl ?_
      refine ab_getR (b := 42) f_X8_37 rfl (sh_k hs2 38 8 (by decide) rfl) (sh_r hs2 49 rfl) dX8_thirst_59 ?_
      refine ab_iload_n (i := 3) dX8_thirst_62 rfl rfl ?_
      obtain ⟨hc21, ht⟩ := ht
      refine ab_iald (sh_k hs2 42 14 (by decide) rfl) hc21 dX8_thirst_63 ?_
      exact ab_iret rfl dX8_thirst_64 (Nat.le_of_ble_eq_true rfl) (Nat.le_of_ble_eq_true rfl) ht
    · have ht := ht.2 c20
      refine ab_aload_n (i := 0) dX8_thirst_30 rfl rfl ?_
      refine ab_getR (b := 42) f_X8_37 rfl (sh_k hs2 38 8 (by decide) rfl) (sh_r hs2 49 rfl) dX8_thirst_31 ?_
      refine ab_iload_n (i := 3) dX8_thirst_34 rfl rfl ?_
      refine ab_aload_n (i := 0) dX8_thirst_35 rfl rfl ?_
      refine ab_iconst (v := 2) dX8_thirst_36 (by decide) ?_
      refine ab_iload_n (i := 1) dX8_thirst_37 rfl rfl ?_
      refine ab_aload_n (i := 0) dX8_thirst_38 rfl rfl ?_
      refine ab_getR (b := 1) f_X8_40 rfl (sh_k hs2 38 8 (by decide) rfl) (sh_r hs2 43 rfl) dX8_thirst_39 ?_
      refine ab_getR (b := 4) f_X8_76 rfl (sh_k hs2 1 10 (by decide) rfl) (sh_r hs2 14 rfl) dX8_thirst_42 ?_
      refine ab_iload_n (i := 1) dX8_thirst_45 rfl rfl ?_
      refine ab_iconst (v := 1) dX8_thirst_46 (by decide) ?_
      refine ab_callV (b := 4) (As := [.int x1, .int 1]) ht (Y_X7_get) l_X8_85 in_X7_get se_X7_get (sh_k hs2 4 7 (by decide) rfl) (by decide) rfl rfl ⟨(Nat.le_of_ble_eq_true rfl), (Nat.le_of_ble_eq_true rfl), (Nat.le_of_ble_eq_true rfl), (Nat.le_of_ble_eq_true rfl)⟩ dX8_thirst_47 ?_
      rintro _ h22 ⟨v24, rfl, hs23, ht⟩
      refine ab_iconst (v := (-1)) dX8_thirst_50 (by decide) ?_
      refine ab_iconst (v := (-1)) dX8_thirst_51 (by decide) ?_
      refine ab_iconst (v := (-1)) dX8_thirst_52 (by decide) ?_
      refine ab_iload_n (i := 2) dX8_thirst_53 rfl rfl ?_
      refine ab_callV (b := 38) (As := [.int 2, .int x1, .int v24, .int (-1), .int (-1), .int (-1), .int x2]) ht (Y_X8_ask) l_X8_94 in_X8_ask se_X8_ask (sh_k hs23 38 8 (by decide) rfl) (by decide) rfl rfl ⟨(Nat.le_of_ble_eq_true rfl), (Nat.le_of_ble_eq_true rfl), (Nat.le_of_ble_eq_true rfl), (Nat.le_of_ble_eq_true rfl)⟩ dX8_thirst_54 ?_
      rintro _ h25 ⟨v27, rfl, hs26, ht⟩
      obtain ⟨hc28, ht⟩ := ht
      refine ab_iast (sh_k hs26 42 14 (by decide) rfl) hc28 dX8_thirst_57 ?_
      refine Wp.nm fun h29 e30 => ?_
      have ht := ht h29 e30
      have hs31 : Sh h29 := by rw [e30]; exact sh_si hs26
      refine ab_aload_n (i := 0) dX8_thirst_58 rfl rfl ?_
      refine ab_getR (b := 42) f_X8_37 rfl (sh_k hs31 38 8 (by decide) rfl) (sh_r hs31 49 rfl) dX8_thirst_59 ?_
      refine ab_iload_n (i := 3) dX8_thirst_62 rfl rfl ?_
      obtain ⟨hc32, ht⟩ := ht
      refine ab_iald (sh_k hs31 42 14 (by decide) rfl) hc32 dX8_thirst_63 ?_
      exact ab_iret rfl dX8_thirst_64 (Nat.le_of_ble_eq_true rfl) (Nat.le_of_ble_eq_true rfl) ht
theorem dX8_ask_0 : decode cX8_ask 0 = .ok (.aload_n 0, 1) := by decide +kernel
theorem dX8_ask_1 : decode cX8_ask 1 = .ok (.getfield 9, 3) := by decide +kernel
theorem dX8_ask_4 : decode cX8_ask 4 = .ok (.ifnonnull 30, 3) := by decide +kernel
theorem dX8_ask_7 : decode cX8_ask 7 = .ok (.iload_n 1, 1) := by decide +kernel
theorem dX8_ask_8 : decode cX8_ask 8 = .ok (.ifCond .ne 20, 3) := by decide +kernel
theorem dX8_ask_11 : decode cX8_ask 11 = .ok (.iload_n 3, 1) := by decide +kernel
theorem dX8_ask_12 : decode cX8_ask 12 = .ok (.iload 4, 2) := by decide +kernel
theorem dX8_ask_14 : decode cX8_ask 14 = .ok (.if_icmp .ne 18, 3) := by decide +kernel
theorem dX8_ask_17 : decode cX8_ask 17 = .ok (.iload 5, 2) := by decide +kernel
theorem dX8_ask_19 : decode cX8_ask 19 = .ok (.ifCond .eq 9, 3) := by decide +kernel
theorem dX8_ask_22 : decode cX8_ask 22 = .ok (.iload 5, 2) := by decide +kernel
theorem dX8_ask_24 : decode cX8_ask 24 = .ok (.iconst 1, 1) := by decide +kernel
theorem dX8_ask_25 : decode cX8_ask 25 = .ok (.if_icmp .ne 7, 3) := by decide +kernel
theorem dX8_ask_28 : decode cX8_ask 28 = .ok (.iconst 1, 1) := by decide +kernel
theorem dX8_ask_29 : decode cX8_ask 29 = .ok (.goto 4, 3) := by decide +kernel
theorem dX8_ask_32 : decode cX8_ask 32 = .ok (.iconst 0, 1) := by decide +kernel
theorem dX8_ask_33 : decode cX8_ask 33 = .ok (.ireturn, 1) := by decide +kernel
theorem dX8_ask_34 : decode cX8_ask 34 = .ok (.aload_n 0, 1) := by decide +kernel
theorem dX8_ask_35 : decode cX8_ask 35 = .ok (.getfield 44, 3) := by decide +kernel
theorem dX8_ask_38 : decode cX8_ask 38 = .ok (.getfield 98, 3) := by decide +kernel
theorem dX8_ask_41 : decode cX8_ask 41 = .ok (.astore 8, 2) := by decide +kernel
theorem dX8_ask_43 : decode cX8_ask 43 = .ok (.aload 8, 2) := by decide +kernel
theorem dX8_ask_45 : decode cX8_ask 45 = .ok (.iconst 0, 1) := by decide +kernel
theorem dX8_ask_46 : decode cX8_ask 46 = .ok (.iload_n 2, 1) := by decide +kernel
theorem dX8_ask_47 : decode cX8_ask 47 = .ok (.iastore, 1) := by decide +kernel
theorem dX8_ask_48 : decode cX8_ask 48 = .ok (.aload 8, 2) := by decide +kernel
theorem dX8_ask_50 : decode cX8_ask 50 = .ok (.iconst 1, 1) := by decide +kernel
theorem dX8_ask_51 : decode cX8_ask 51 = .ok (.iload_n 3, 1) := by decide +kernel
theorem dX8_ask_52 : decode cX8_ask 52 = .ok (.iastore, 1) := by decide +kernel
theorem dX8_ask_53 : decode cX8_ask 53 = .ok (.aload 8, 2) := by decide +kernel
theorem dX8_ask_55 : decode cX8_ask 55 = .ok (.iconst 2, 1) := by decide +kernel
theorem dX8_ask_56 : decode cX8_ask 56 = .ok (.iload 4, 2) := by decide +kernel
theorem dX8_ask_58 : decode cX8_ask 58 = .ok (.iastore, 1) := by decide +kernel
theorem dX8_ask_59 : decode cX8_ask 59 = .ok (.aload 8, 2) := by decide +kernel
theorem dX8_ask_61 : decode cX8_ask 61 = .ok (.iconst 3, 1) := by decide +kernel
theorem dX8_ask_62 : decode cX8_ask 62 = .ok (.iload 5, 2) := by decide +kernel
theorem dX8_ask_64 : decode cX8_ask 64 = .ok (.iastore, 1) := by decide +kernel
theorem dX8_ask_65 : decode cX8_ask 65 = .ok (.aload 8, 2) := by decide +kernel
theorem dX8_ask_67 : decode cX8_ask 67 = .ok (.iconst 4, 1) := by decide +kernel
theorem dX8_ask_68 : decode cX8_ask 68 = .ok (.iload 6, 2) := by decide +kernel
theorem dX8_ask_70 : decode cX8_ask 70 = .ok (.iastore, 1) := by decide +kernel
theorem dX8_ask_71 : decode cX8_ask 71 = .ok (.aload 8, 2) := by decide +kernel
theorem dX8_ask_73 : decode cX8_ask 73 = .ok (.iconst 5, 1) := by decide +kernel
theorem dX8_ask_74 : decode cX8_ask 74 = .ok (.iload 7, 2) := by decide +kernel
theorem dX8_ask_76 : decode cX8_ask 76 = .ok (.iastore, 1) := by decide +kernel
theorem dX8_ask_77 : decode cX8_ask 77 = .ok (.aload 8, 2) := by decide +kernel
theorem dX8_ask_79 : decode cX8_ask 79 = .ok (.bipush 6, 2) := by decide +kernel
theorem dX8_ask_81 : decode cX8_ask 81 = .ok (.aload_n 0, 1) := by decide +kernel
theorem dX8_ask_82 : decode cX8_ask 82 = .ok (.getfield 15, 3) := by decide +kernel
theorem dX8_ask_85 : decode cX8_ask 85 = .ok (.iastore, 1) := by decide +kernel
theorem dX8_ask_86 : decode cX8_ask 86 = .ok (.aload 8, 2) := by decide +kernel
theorem dX8_ask_88 : decode cX8_ask 88 = .ok (.bipush 7, 2) := by decide +kernel
theorem dX8_ask_90 : decode cX8_ask 90 = .ok (.aload_n 0, 1) := by decide +kernel
theorem dX8_ask_91 : decode cX8_ask 91 = .ok (.getfield 19, 3) := by decide +kernel
theorem dX8_ask_94 : decode cX8_ask 94 = .ok (.iastore, 1) := by decide +kernel
theorem dX8_ask_95 : decode cX8_ask 95 = .ok (.aload_n 0, 1) := by decide +kernel
theorem dX8_ask_96 : decode cX8_ask 96 = .ok (.iload_n 1, 1) := by decide +kernel
theorem dX8_ask_97 : decode cX8_ask 97 = .ok (.invokevirtual 103, 3) := by decide +kernel
theorem dX8_ask_100 : decode cX8_ask 100 = .ok (.istore 9, 2) := by decide +kernel
theorem dX8_ask_102 : decode cX8_ask 102 = .ok (.iload 9, 2) := by decide +kernel
theorem dX8_ask_104 : decode cX8_ask 104 = .ok (.ldc 107, 2) := by decide +kernel
theorem dX8_ask_106 : decode cX8_ask 106 = .ok (.imul, 1) := by decide +kernel
theorem dX8_ask_107 : decode cX8_ask 107 = .ok (.bipush 20, 2) := by decide +kernel
theorem dX8_ask_109 : decode cX8_ask 109 = .ok (.iushr, 1) := by decide +kernel
theorem dX8_ask_110 : decode cX8_ask 110 = .ok (.istore 10, 2) := by decide +kernel
theorem dX8_ask_112 : decode cX8_ask 112 = .ok (.aload_n 0, 1) := by decide +kernel
theorem dX8_ask_113 : decode cX8_ask 113 = .ok (.getfield 26, 3) := by decide +kernel
theorem dX8_ask_116 : decode cX8_ask 116 = .ok (.bipush 25, 2) := by decide +kernel
theorem dX8_ask_118 : decode cX8_ask 118 = .ok (.lshl, 1) := by decide +kernel
theorem dX8_ask_119 : decode cX8_ask 119 = .ok (.iload 9, 2) := by decide +kernel
theorem dX8_ask_121 : decode cX8_ask 121 = .ok (.i2l, 1) := by decide +kernel
theorem dX8_ask_122 : decode cX8_ask 122 = .ok (.lor, 1) := by decide +kernel
theorem dX8_ask_123 : decode cX8_ask 123 = .ok (.lstore 11, 2) := by decide +kernel
theorem dX8_ask_125 : decode cX8_ask 125 = .ok (.aload_n 0, 1) := by decide +kernel
theorem dX8_ask_126 : decode cX8_ask 126 = .ok (.getfield 22, 3) := by decide +kernel
theorem dX8_ask_129 : decode cX8_ask 129 = .ok (.iload 10, 2) := by decide +kernel
theorem dX8_ask_131 : decode cX8_ask 131 = .ok (.laload, 1) := by decide +kernel
theorem dX8_ask_132 : decode cX8_ask 132 = .ok (.iconst 4, 1) := by decide +kernel
theorem dX8_ask_133 : decode cX8_ask 133 = .ok (.lushr, 1) := by decide +kernel
theorem dX8_ask_134 : decode cX8_ask 134 = .ok (.lload 11, 2) := by decide +kernel
theorem dX8_ask_136 : decode cX8_ask 136 = .ok (.lcmp, 1) := by decide +kernel
theorem dX8_ask_137 : decode cX8_ask 137 = .ok (.ifCond .ne 15, 3) := by decide +kernel
theorem dX8_ask_140 : decode cX8_ask 140 = .ok (.aload_n 0, 1) := by decide +kernel
theorem dX8_ask_141 : decode cX8_ask 141 = .ok (.getfield 22, 3) := by decide +kernel
theorem dX8_ask_144 : decode cX8_ask 144 = .ok (.iload 10, 2) := by decide +kernel
theorem dX8_ask_146 : decode cX8_ask 146 = .ok (.laload, 1) := by decide +kernel
theorem dX8_ask_147 : decode cX8_ask 147 = .ok (.l2i, 1) := by decide +kernel
theorem dX8_ask_148 : decode cX8_ask 148 = .ok (.bipush 15, 2) := by decide +kernel
theorem dX8_ask_150 : decode cX8_ask 150 = .ok (.iand, 1) := by decide +kernel
theorem dX8_ask_151 : decode cX8_ask 151 = .ok (.ireturn, 1) := by decide +kernel
theorem dX8_ask_152 : decode cX8_ask 152 = .ok (.iload_n 1, 1) := by decide +kernel
theorem dX8_ask_153 : decode cX8_ask 153 = .ok (.ifCond .ne 7, 3) := by decide +kernel
theorem dX8_ask_156 : decode cX8_ask 156 = .ok (.iconst 0, 1) := by decide +kernel
theorem dX8_ask_157 : decode cX8_ask 157 = .ok (.goto 4, 3) := by decide +kernel
theorem dX8_ask_160 : decode cX8_ask 160 = .ok (.iconst 1, 1) := by decide +kernel
theorem dX8_ask_161 : decode cX8_ask 161 = .ok (.istore 13, 2) := by decide +kernel
theorem dX8_ask_163 : decode cX8_ask 163 = .ok (.aload_n 0, 1) := by decide +kernel
theorem dX8_ask_164 : decode cX8_ask 164 = .ok (.getfield 9, 3) := by decide +kernel
theorem dX8_ask_167 : decode cX8_ask 167 = .ok (.getfield 108, 3) := by decide +kernel
theorem dX8_ask_170 : decode cX8_ask 170 = .ok (.iconst 1, 1) := by decide +kernel
theorem dX8_ask_171 : decode cX8_ask 171 = .ok (.isub, 1) := by decide +kernel
theorem dX8_ask_172 : decode cX8_ask 172 = .ok (.istore 14, 2) := by decide +kernel
theorem dX8_ask_174 : decode cX8_ask 174 = .ok (.iload 14, 2) := by decide +kernel
theorem dX8_ask_176 : decode cX8_ask 176 = .ok (.ifCond .lt 127, 3) := by decide +kernel
theorem dX8_ask_179 : decode cX8_ask 179 = .ok (.aload_n 0, 1) := by decide +kernel
theorem dX8_ask_180 : decode cX8_ask 180 = .ok (.getfield 9, 3) := by decide +kernel
theorem dX8_ask_183 : decode cX8_ask 183 = .ok (.iload 14, 2) := by decide +kernel
theorem dX8_ask_185 : decode cX8_ask 185 = .ok (.iconst 5, 1) := by decide +kernel
theorem dX8_ask_186 : decode cX8_ask 186 = .ok (.invokevirtual 109, 3) := by decide +kernel
theorem dX8_ask_189 : decode cX8_ask 189 = .ok (.istore 15, 2) := by decide +kernel
theorem dX8_ask_191 : decode cX8_ask 191 = .ok (.aload_n 0, 1) := by decide +kernel
theorem dX8_ask_192 : decode cX8_ask 192 = .ok (.getfield 9, 3) := by decide +kernel
theorem dX8_ask_195 : decode cX8_ask 195 = .ok (.iload 14, 2) := by decide +kernel
theorem dX8_ask_197 : decode cX8_ask 197 = .ok (.iconst 0, 1) := by decide +kernel
theorem dX8_ask_198 : decode cX8_ask 198 = .ok (.invokevirtual 109, 3) := by decide +kernel
theorem dX8_ask_201 : decode cX8_ask 201 = .ok (.iload_n 1, 1) := by decide +kernel
theorem dX8_ask_202 : decode cX8_ask 202 = .ok (.if_icmp .ne 95, 3) := by decide +kernel
theorem dX8_ask_205 : decode cX8_ask 205 = .ok (.iload 15, 2) := by decide +kernel
theorem dX8_ask_207 : decode cX8_ask 207 = .ok (.iconst (-1), 1) := by decide +kernel
theorem dX8_ask_208 : decode cX8_ask 208 = .ok (.if_icmp .eq 25, 3) := by decide +kernel
theorem dX8_ask_211 : decode cX8_ask 211 = .ok (.aload_n 0, 1) := by decide +kernel
theorem dX8_ask_212 : decode cX8_ask 212 = .ok (.getfield 44, 3) := by decide +kernel
theorem dX8_ask_215 : decode cX8_ask 215 = .ok (.aload_n 0, 1) := by decide +kernel
theorem dX8_ask_216 : decode cX8_ask 216 = .ok (.getfield 9, 3) := by decide +kernel
theorem dX8_ask_219 : decode cX8_ask 219 = .ok (.getfield 112, 3) := by decide +kernel
theorem dX8_ask_222 : decode cX8_ask 222 = .ok (.iload 15, 2) := by decide +kernel
theorem dX8_ask_224 : decode cX8_ask 224 = .ok (.invokevirtual 115, 3) := by decide +kernel
theorem dX8_ask_227 : decode cX8_ask 227 = .ok (.ifCond .ne 6, 3) := by decide +kernel
theorem dX8_ask_230 : decode cX8_ask 230 = .ok (.goto 67, 3) := by decide +kernel
theorem dX8_ask_233 : decode cX8_ask 233 = .ok (.iload_n 1, 1) := by decide +kernel
theorem dX8_ask_234 : decode cX8_ask 234 = .ok (.ifCond .ne 7, 3) := by decide +kernel
theorem dX8_ask_237 : decode cX8_ask 237 = .ok (.iconst 1, 1) := by decide +kernel
theorem dX8_ask_238 : decode cX8_ask 238 = .ok (.goto 27, 3) := by decide +kernel
theorem dX8_ask_241 : decode cX8_ask 241 = .ok (.aload_n 0, 1) := by decide +kernel
theorem dX8_ask_242 : decode cX8_ask 242 = .ok (.getfield 44, 3) := by decide +kernel
theorem dX8_ask_245 : decode cX8_ask 245 = .ok (.aload_n 0, 1) := by decide +kernel
theorem dX8_ask_246 : decode cX8_ask 246 = .ok (.getfield 9, 3) := by decide +kernel
theorem dX8_ask_249 : decode cX8_ask 249 = .ok (.getfield 112, 3) := by decide +kernel
theorem dX8_ask_252 : decode cX8_ask 252 = .ok (.aload_n 0, 1) := by decide +kernel
theorem dX8_ask_253 : decode cX8_ask 253 = .ok (.getfield 9, 3) := by decide +kernel
theorem dX8_ask_256 : decode cX8_ask 256 = .ok (.iload 14, 2) := by decide +kernel
theorem dX8_ask_258 : decode cX8_ask 258 = .ok (.iconst 1, 1) := by decide +kernel
theorem dX8_ask_259 : decode cX8_ask 259 = .ok (.invokevirtual 109, 3) := by decide +kernel
theorem dX8_ask_262 : decode cX8_ask 262 = .ok (.invokevirtual 115, 3) := by decide +kernel
theorem dX8_ask_265 : decode cX8_ask 265 = .ok (.istore 16, 2) := by decide +kernel
theorem dX8_ask_267 : decode cX8_ask 267 = .ok (.iload_n 1, 1) := by decide +kernel
theorem dX8_ask_268 : decode cX8_ask 268 = .ok (.ifCond .eq 13, 3) := by decide +kernel
theorem dX8_ask_271 : decode cX8_ask 271 = .ok (.aload_n 0, 1) := by decide +kernel
theorem dX8_ask_272 : decode cX8_ask 272 = .ok (.getfield 44, 3) := by decide +kernel
theorem dX8_ask_275 : decode cX8_ask 275 = .ok (.getfield 119, 3) := by decide +kernel
theorem dX8_ask_278 : decode cX8_ask 278 = .ok (.ifCond .ne 19, 3) := by decide +kernel
theorem dX8_ask_281 : decode cX8_ask 281 = .ok (.iconst 0, 1) := by decide +kernel
theorem dX8_ask_282 : decode cX8_ask 282 = .ok (.bipush 9, 2) := by decide +kernel
theorem dX8_ask_284 : decode cX8_ask 284 = .ok (.iload 16, 2) := by decide +kernel
theorem dX8_ask_286 : decode cX8_ask 286 = .ok (.invokestatic 123, 3) := by decide +kernel
theorem dX8_ask_289 : decode cX8_ask 289 = .ok (.invokestatic 128, 3) := by decide +kernel
theorem dX8_ask_292 : decode cX8_ask 292 = .ok (.istore 13, 2) := by decide +kernel
theorem dX8_ask_294 : decode cX8_ask 294 = .ok (.goto 9, 3) := by decide +kernel
theorem dX8_ask_297 : decode cX8_ask 297 = .ok (.iinc 14 (-1), 3) := by decide +kernel
theorem dX8_ask_300 : decode cX8_ask 300 = .ok (.goto (-126), 3) := by decide +kernel
theorem dX8_ask_303 : decode cX8_ask 303 = .ok (.aload_n 0, 1) := by decide +kernel
theorem dX8_ask_304 : decode cX8_ask 304 = .ok (.getfield 22, 3) := by decide +kernel
theorem dX8_ask_307 : decode cX8_ask 307 = .ok (.iload 10, 2) := by decide +kernel
theorem dX8_ask_309 : decode cX8_ask 309 = .ok (.lload 11, 2) := by decide +kernel
theorem dX8_ask_311 : decode cX8_ask 311 = .ok (.iconst 4, 1) := by decide +kernel
theorem dX8_ask_312 : decode cX8_ask 312 = .ok (.lshl, 1) := by decide +kernel
theorem dX8_ask_313 : decode cX8_ask 313 = .ok (.iload 13, 2) := by decide +kernel
theorem dX8_ask_315 : decode cX8_ask 315 = .ok (.i2l, 1) := by decide +kernel
theorem dX8_ask_316 : decode cX8_ask 316 = .ok (.lor, 1) := by decide +kernel
theorem dX8_ask_317 : decode cX8_ask 317 = .ok (.lastore, 1) := by decide +kernel
theorem dX8_ask_318 : decode cX8_ask 318 = .ok (.iload 13, 2) := by decide +kernel
theorem dX8_ask_320 : decode cX8_ask 320 = .ok (.ireturn, 1) := by decide +kernel
set_option maxRecDepth 20000 in
theorem T_X8_ask_28 {Q : Option Value → ah_T → Prop} {h : ah_T} (hs : Sh h)  (ht : Q (some (.int 1)) h) : Wp mX8_ask Q 0 0 28 [none, none, none, none, none, none, none, none, none, none, none, none, none, none, none, none, none] [] h := by
  refine ab_iconst (v := 1) dX8_ask_28 (by decide) ?_
  refine ab_goto (tgt := 33) dX8_ask_29 (by decide) ?_
  exact ab_iret rfl dX8_ask_33 (Nat.le_of_ble_eq_true rfl) (Nat.le_of_ble_eq_true rfl) ht
set_option maxRecDepth 20000 in
theorem T_X8_ask_32 {Q : Option Value → ah_T → Prop} {h : ah_T} (hs : Sh h)  (ht : Q (some (.int 0)) h) : Wp mX8_ask Q 0 0 32 [none, none, none, none, none, none, none, none, none, none, none, none, none, none, none, none, none] [] h := by
  refine ab_iconst (v := 0) dX8_ask_32 (by decide) ?_
  exact ab_iret rfl dX8_ask_33 (Nat.le_of_ble_eq_true rfl) (Nat.le_of_ble_eq_true rfl) ht
set_option maxRecDepth 20000 in
theorem T_X8_ask_174 {Q : Option Value → ah_T → Prop} {h : ah_T} (hs : Sh h) (x1 : Int32) (x10 : Int32) (x11 : Int64) (x13 : Int32) (x14 : Int32) (ht : ((x14 < 0 → Wp mX8_ask Q 0 0 303 [some (.ref 38), none, none, none, none, none, none, none, none, none, some (.int x10), some (.long x11), none, some (.int x13), none, none, none] [] h) ∧ (¬ x14 < 0 → ((ah_r h 38 3 = none → False) ∧ (∀ b55, ah_r h 38 3 = some b55 → (ah_k h b55 = 9) ∧ (Mt mX9_part [.ref b55, .int x14, .int 5] h (ab_qi fun v59 h57 => Sh h57 ∧ ((ah_r h57 38 3 = none → False) ∧ (∀ b61, ah_r h57 38 3 = some b61 → (ah_k h57 b61 = 9) ∧ (Mt mX9_part [.ref b61, .int x14, .int 0] h57 (ab_qi fun v65 h63 => Sh h63 ∧ ((¬ v65 = x1 → Wp mX8_ask Q 0 0 297 [some (.ref 38), some (.int x1), none, none, none, none, none, none, none, none, some (.int x10), some (.long x11), none, some (.int x13), some (.int x14), none, none] [] h63) ∧ (v65 = x1 → ((v59 = (-1) → Wp mX8_ask Q 0 0 233 [some (.ref 38), some (.int x1), none, none, none, none, none, none, none, none, some (.int x10), some (.long x11), none, some (.int x13), some (.int x14), none, none] [] h63) ∧ (¬ v59 = (-1) → ((ah_r h63 38 3 = none → False) ∧ (∀ b69, ah_r h63 38 3 = some b69 → (ah_k h63 b69 = 9) ∧ (∃ b71, ah_r h63 b69 0 = some b71 ∧ ah_k h63 b71 = 14 ∧ (Mt mX2_run [.ref 26, .ref b71, .int v59] h63 (ab_qi fun v76 h74 => Sh h74 ∧ ((¬ v76 = 0 → Wp mX8_ask Q 0 0 233 [some (.ref 38), some (.int x1), none, none, none, none, none, none, none, none, some (.int x10), some (.long x11), none, some (.int x13), some (.int x14), none, none] [] h74) ∧ (v76 = 0 → Wp mX8_ask Q 0 0 297 [some (.ref 38), some (.int x1), none, none, none, none, none, none, none, none, some (.int x10), some (.long x11), none, some (.int x13), some (.int x14), none, none] [] h74)))))))))))))))))))))) : Wp mX8_ask Q 0 0 174 [some (.ref 38), some (.int x1), none, none, none, none, none, none, none, none, some (.int x10), some (.long x11), none, some (.int x13), some (.int x14), none, none] [] h := by
  refine ab_iload (i := 14) dX8_ask_174 rfl ?_
  refine ab_if_lt (tgt := 303) dX8_ask_176 (by decide) (fun c53 => ?_) (fun c53 => ?_)
  · have ht := ht.1 c53
    exact Wp.fewer (L' := [some (.ref 38), none, none, none, none, none, none, none, none, none, some (.int x10), some (.long x11), none, some (.int x13), none, none, none]) (show ab_leL _ _ from ⟨rfl, ⟨rfl, ⟨rfl, ⟨rfl, trivial⟩⟩⟩⟩) ht
  · have ht := ht.2 c53
    refine ab_aload_n (i := 0) dX8_ask_179 rfl rfl ?_
    rcases hr54 : ah_r h 38 3 with _ | b55
    · have ht := ht.1 hr54
      refine ab_getN f_X8_9 rfl (sh_k hs 38 8 (by decide) rfl) hr54 dX8_ask_180 ?_
      refine ab_iload (i := 14) dX8_ask_183 rfl ?_
      refine ab_iconst (v := 5) dX8_ask_185 (by decide) ?_
      exact False.elim ht
    · obtain ⟨hk56, ht⟩ := ht.2 b55 hr54
      refine ab_getR (b := b55) f_X8_9 rfl (sh_k hs 38 8 (by decide) rfl) hr54 dX8_ask_180 ?_
      refine ab_iload (i := 14) dX8_ask_183 rfl ?_
      refine ab_iconst (v := 5) dX8_ask_185 (by decide) ?_
      refine ab_callV (b := b55) (As := [.int x14, .int 5]) ht (Y_X9_part) l_X8_109 in_X9_part se_X9_part hk56 (by decide) rfl rfl ⟨(Nat.le_of_ble_eq_true rfl), (Nat.le_of_ble_eq_true rfl), (Nat.le_of_ble_eq_true rfl), (Nat.le_of_ble_eq_true rfl)⟩ dX8_ask_186 ?_
      rintro _ h57 ⟨v59, rfl, hs58, ht⟩
      refine ab_istore (i := 15) (L' := [some (.ref 38), some (.int x1), none, none, none, none, none, none, none, none, some (.int x10), some (.long x11), none, some (.int x13), some (.int x14), some (.int v59), none]) dX8_ask_189 (by exact (Nat.le_of_ble_eq_true rfl)) rfl rfl ?_
      refine ab_aload_n (i := 0) dX8_ask_191 rfl rfl ?_
      rcases hr60 : ah_r h57 38 3 with _ | b61
      · have ht := ht.1 hr60
        refine ab_getN f_X8_9 rfl (sh_k hs58 38 8 (by decide) rfl) hr60 dX8_ask_192 ?_
        refine ab_iload (i := 14) dX8_ask_195 rfl ?_
        refine ab_iconst (v := 0) dX8_ask_197 (by decide) ?_
        exact False.elim ht
      · obtain ⟨hk62, ht⟩ := ht.2 b61 hr60
        refine ab_getR (b := b61) f_X8_9 rfl (sh_k hs58 38 8 (by decide) rfl) hr60 dX8_ask_192 ?_
        refine ab_iload (i := 14) dX8_ask_195 rfl ?_
        refine ab_iconst (v := 0) dX8_ask_197 (by decide) ?_
        refine ab_callV (b := b61) (As := [.int x14, .int 0]) ht (Y_X9_part) l_X8_109 in_X9_part se_X9_part hk62 (by decide) rfl rfl ⟨(Nat.le_of_ble_eq_true rfl), (Nat.le_of_ble_eq_true rfl), (Nat.le_of_ble_eq_true rfl), (Nat.le_of_ble_eq_true rfl)⟩ dX8_ask_198 ?_
        rintro _ h63 ⟨v65, rfl, hs64, ht⟩
        refine ab_iload_n (i := 1) dX8_ask_201 rfl rfl ?_
        refine ab_icmp_ne (tgt := 297) dX8_ask_202 (by decide) (fun c66 => ?_) (fun c66 => ?_)
        · have ht := ht.1 c66
          exact Wp.fewer (L' := [some (.ref 38), some (.int x1), none, none, none, none, none, none, none, none, some (.int x10), some (.long x11), none, some (.int x13), some (.int x14), none, none]) (show ab_leL _ _ from ⟨rfl, ⟨rfl, ⟨rfl, ⟨rfl, ⟨rfl, ⟨rfl, trivial⟩⟩⟩⟩⟩⟩) ht
        · have ht := ht.2 c66
          refine ab_iload (i := 15) dX8_ask_205 rfl ?_
          refine ab_iconst (v := (-1)) dX8_ask_207 (by decide) ?_
          refine ab_icmp_eq (tgt := 233) dX8_ask_208 (by decide) (fun c67 => ?_) (fun c67 => ?_)
          · have ht := ht.1 c67
            exact Wp.fewer (L' := [some (.ref 38), some (.int x1), none, none, none, none, none, none, none, none, some (.int x10), some (.long x11), none, some (.int x13), some (.int x14), none, none]) (show ab_leL _ _ from ⟨rfl, ⟨rfl, ⟨rfl, ⟨rfl, ⟨rfl, ⟨rfl, trivial⟩⟩⟩⟩⟩⟩) ht
          · have ht := ht.2 c67
            refine ab_aload_n (i := 0) dX8_ask_211 rfl rfl ?_
            refine ab_getR (b := 26) f_X8_44 rfl (sh_k hs64 38 8 (by decide) rfl) (sh_r hs64 44 rfl) dX8_ask_212 ?_
            refine ab_aload_n (i := 0) dX8_ask_215 rfl rfl ?_
            rcases hr68 : ah_r h63 38 3 with _ | b69
            · have ht := ht.1 hr68
              refine ab_getN f_X8_9 rfl (sh_k hs64 38 8 (by decide) rfl) hr68 dX8_ask_216 ?_
              exact False.elim ht
            · obtain ⟨hk70, ht⟩ := ht.2 b69 hr68
              refine ab_getR (b := b69) f_X8_9 rfl (sh_k hs64 38 8 (by decide) rfl) hr68 dX8_ask_216 ?_
              obtain ⟨b71, hr72, hk73, ht⟩ := ht
              refine ab_getR (b := b71) f_X8_112 rfl hk70 hr72 dX8_ask_219 ?_
              refine ab_iload (i := 15) dX8_ask_222 rfl ?_
              refine ab_callV (b := 26) (As := [.ref b71, .int v59]) ht (Y_X2_run) l_X8_115 in_X2_run se_X2_run (sh_k hs64 26 2 (by decide) rfl) (by decide) rfl rfl ⟨(Nat.le_of_ble_eq_true rfl), (Nat.le_of_ble_eq_true rfl), (Nat.le_of_ble_eq_true rfl), (Nat.le_of_ble_eq_true rfl)⟩ dX8_ask_224 ?_
              rintro _ h74 ⟨v76, rfl, hs75, ht⟩
              refine ab_if_ne (tgt := 233) dX8_ask_227 (by decide) (fun c77 => ?_) (fun c77 => ?_)
              · have ht := ht.1 c77
                exact Wp.fewer (L' := [some (.ref 38), some (.int x1), none, none, none, none, none, none, none, none, some (.int x10), some (.long x11), none, some (.int x13), some (.int x14), none, none]) (show ab_leL _ _ from ⟨rfl, ⟨rfl, ⟨rfl, ⟨rfl, ⟨rfl, ⟨rfl, trivial⟩⟩⟩⟩⟩⟩) ht
              · have ht := ht.2 c77
                refine ab_goto (tgt := 297) dX8_ask_230 (by decide) ?_
                exact Wp.fewer (L' := [some (.ref 38), some (.int x1), none, none, none, none, none, none, none, none, some (.int x10), some (.long x11), none, some (.int x13), some (.int x14), none, none]) (show ab_leL _ _ from ⟨rfl, ⟨rfl, ⟨rfl, ⟨rfl, ⟨rfl, ⟨rfl, trivial⟩⟩⟩⟩⟩⟩) ht
set_option maxRecDepth 20000 in
theorem T_X8_ask_303 {Q : Option Value → ah_T → Prop} {h : ah_T} (hs : Sh h) (x10 : Int32) (x11 : Int64) (x13 : Int32) (ht : (vp_in x10 (ah_n h 39)) ∧ (∀ h79, h79 = ah_sl h 39 (Int32.toNatClampNeg x10) ((x11 <<< ((4 : Int32).toInt64 &&& 63)) ||| (x13).toInt64) → Q (some (.int x13)) h79)) : Wp mX8_ask Q 0 0 303 [some (.ref 38), none, none, none, none, none, none, none, none, none, some (.int x10), some (.long x11), none, some (.int x13), none, none, none] [] h := by
  refine ab_aload_n (i := 0) dX8_ask_303 rfl rfl ?_
  refine ab_getR (b := 39) f_X8_22 rfl (sh_k hs 38 8 (by decide) rfl) (sh_r hs 46 rfl) dX8_ask_304 ?_
  refine ab_iload (i := 10) dX8_ask_307 rfl ?_
  refine ab_lload (i := 11) dX8_ask_309 rfl ?_
  refine ab_iconst (v := 4) dX8_ask_311 (by decide) ?_
  refine ab_lshl dX8_ask_312 ?_
  refine ab_iload (i := 13) dX8_ask_313 rfl ?_
  refine ab_i2l dX8_ask_315 ?_
  refine ab_lor dX8_ask_316 ?_
  obtain ⟨hc78, ht⟩ := ht
  refine ab_last (sh_k hs 39 15 (by decide) rfl) hc78 dX8_ask_317 ?_
  refine Wp.nm fun h79 e80 => ?_
  have ht := ht h79 e80
  have hs81 : Sh h79 := by rw [e80]; exact sh_sl hs
  refine ab_iload (i := 13) dX8_ask_318 rfl ?_
  exact ab_iret rfl dX8_ask_320 (Nat.le_of_ble_eq_true rfl) (Nat.le_of_ble_eq_true rfl) ht
set_option maxRecDepth 20000 in
theorem T_X8_ask_297 {Q : Option Value → ah_T → Prop} {h : ah_T} (hs : Sh h) (x1 : Int32) (x10 : Int32) (x11 : Int64) (x13 : Int32) (x14 : Int32) (ht : Wp mX8_ask Q 0 0 174 [some (.ref 38), some (.int x1), none, none, none, none, none, none, none, none, some (.int x10), some (.long x11), none, some (.int x13), some (.int (x14 + (-1))), none, none] [] h) : Wp mX8_ask Q 0 0 297 [some (.ref 38), some (.int x1), none, none, none, none, none, none, none, none, some (.int x10), some (.long x11), none, some (.int x13), some (.int x14), none, none] [] h := by
  refine ab_iinc (i := 14) (x := x14) (v := (x14 + (-1))) (L' := [some (.ref 38), some (.int x1), none, none, none, none, none, none, none, none, some (.int x10), some (.long x11), none, some (.int x13), some (.int (x14 + (-1))), none, none]) dX8_ask_297 rfl rfl (by exact (Nat.le_of_ble_eq_true rfl)) rfl rfl ?_
  refine ab_goto (tgt := 174) dX8_ask_300 (by decide) ?_
  exact Wp.fewer (L' := [some (.ref 38), some (.int x1), none, none, none, none, none, none, none, none, some (.int x10), some (.long x11), none, some (.int x13), some (.int (x14 + (-1))), none, none]) (show ab_leL _ _ from ⟨rfl, ⟨rfl, ⟨rfl, ⟨rfl, ⟨rfl, ⟨rfl, trivial⟩⟩⟩⟩⟩⟩) ht
set_option maxRecDepth 20000 in
theorem T_X8_ask_233 {Q : Option Value → ah_T → Prop} {h : ah_T} (hs : Sh h) (x1 : Int32) (x10 : Int32) (x11 : Int64) (x13 : Int32) (x14 : Int32) (ht : ((¬ x1 = 0 → ((ah_r h 38 3 = none → False) ∧ (∀ b84, ah_r h 38 3 = some b84 → (ah_k h b84 = 9) ∧ (∃ b86, ah_r h b84 0 = some b86 ∧ ah_k h b86 = 14 ∧ ((ah_r h 38 3 = none → False) ∧ (∀ b90, ah_r h 38 3 = some b90 → (ah_k h b90 = 9) ∧ (Mt mX9_part [.ref b90, .int x14, .int 1] h (ab_qi fun v94 h92 => Sh h92 ∧ ah_k h92 b86 = 14 ∧ (Mt mX2_run [.ref 26, .ref b86, .int v94] h92 (ab_qi fun v98 h96 => Sh h96 ∧ ((x1 = 0 → Wp mX8_ask Q 0 0 281 [some (.ref 38), none, none, none, none, none, none, none, none, none, some (.int x10), some (.long x11), none, none, none, none, some (.int v98)] [] h96) ∧ (¬ x1 = 0 → ((¬ (ah_i h96 26 1) = 0 → Wp mX8_ask Q 0 0 297 [some (.ref 38), some (.int x1), none, none, none, none, none, none, none, none, some (.int x10), some (.long x11), none, some (.int x13), some (.int x14), none, none] [] h96) ∧ ((ah_i h96 26 1) = 0 → Wp mX8_ask Q 0 0 281 [some (.ref 38), none, none, none, none, none, none, none, none, none, some (.int x10), some (.long x11), none, none, none, none, some (.int v98)] [] h96)))))))))))))) ∧ (x1 = 0 → ((x1 = 0 → Wp mX8_ask Q 0 0 281 [some (.ref 38), none, none, none, none, none, none, none, none, none, some (.int x10), some (.long x11), none, none, none, none, some (.int 1)] [] h) ∧ (¬ x1 = 0 → ((¬ (ah_i h 26 1) = 0 → Wp mX8_ask Q 0 0 297 [some (.ref 38), some (.int x1), none, none, none, none, none, none, none, none, some (.int x10), some (.long x11), none, some (.int x13), some (.int x14), none, none] [] h) ∧ ((ah_i h 26 1) = 0 → Wp mX8_ask Q 0 0 281 [some (.ref 38), none, none, none, none, none, none, none, none, none, some (.int x10), some (.long x11), none, none, none, none, some (.int 1)] [] h))))))) : Wp mX8_ask Q 0 0 233 [some (.ref 38), some (.int x1), none, none, none, none, none, none, none, none, some (.int x10), some (.long x11), none, some (.int x13), some (.int x14), none, none] [] h := by
  refine ab_iload_n (i := 1) dX8_ask_233 rfl rfl ?_
  refine ab_if_ne (tgt := 241) dX8_ask_234 (by decide) (fun c82 => ?_) (fun c82 => ?_)
  · have ht := ht.1 c82
    refine ab_aload_n (i := 0) dX8_ask_241 rfl rfl ?_
    refine ab_getR (b := 26) f_X8_44 rfl (sh_k hs 38 8 (by decide) rfl) (sh_r hs 44 rfl) dX8_ask_242 ?_
    refine ab_aload_n (i := 0) dX8_ask_245 rfl rfl ?_
    rcases hr83 : ah_r h 38 3 with _ | b84
    · have ht := ht.1 hr83
      refine ab_getN f_X8_9 rfl (sh_k hs 38 8 (by decide) rfl) hr83 dX8_ask_246 ?_
      exact False.elim ht
    · obtain ⟨hk85, ht⟩ := ht.2 b84 hr83
      refine ab_getR (b := b84) f_X8_9 rfl (sh_k hs 38 8 (by decide) rfl) hr83 dX8_ask_246 ?_
      obtain ⟨b86, hr87, hk88, ht⟩ := ht
      refine ab_getR (b := b86) f_X8_112 rfl hk85 hr87 dX8_ask_249 ?_
      refine ab_aload_n (i := 0) dX8_ask_252 rfl rfl ?_
      rcases hr89 : ah_r h 38 3 with _ | b90
      · have ht := ht.1 hr89
        refine ab_getN f_X8_9 rfl (sh_k hs 38 8 (by decide) rfl) hr89 dX8_ask_253 ?_
        refine ab_iload (i := 14) dX8_ask_256 rfl ?_
        refine ab_iconst (v := 1) dX8_ask_258 (by decide) ?_
        exact False.elim ht
      · obtain ⟨hk91, ht⟩ := ht.2 b90 hr89
        refine ab_getR (b := b90) f_X8_9 rfl (sh_k hs 38 8 (by decide) rfl) hr89 dX8_ask_253 ?_
        refine ab_iload (i := 14) dX8_ask_256 rfl ?_
        refine ab_iconst (v := 1) dX8_ask_258 (by decide) ?_
        refine ab_callV (b := b90) (As := [.int x14, .int 1]) ht (Y_X9_part) l_X8_109 in_X9_part se_X9_part hk91 (by decide) rfl rfl ⟨(Nat.le_of_ble_eq_true rfl), (Nat.le_of_ble_eq_true rfl), (Nat.le_of_ble_eq_true rfl), (Nat.le_of_ble_eq_true rfl)⟩ dX8_ask_259 ?_
        rintro _ h92 ⟨v94, rfl, hs93, hk95, ht⟩
        refine ab_callV (b := 26) (As := [.ref b86, .int v94]) ht (Y_X2_run) l_X8_115 in_X2_run se_X2_run (sh_k hs93 26 2 (by decide) rfl) (by decide) rfl rfl ⟨(Nat.le_of_ble_eq_true rfl), (Nat.le_of_ble_eq_true rfl), (Nat.le_of_ble_eq_true rfl), (Nat.le_of_ble_eq_true rfl)⟩ dX8_ask_262 ?_
        rintro _ h96 ⟨v98, rfl, hs97, ht⟩
        refine ab_istore (i := 16) (L' := [some (.ref 38), some (.int x1), none, none, none, none, none, none, none, none, some (.int x10), some (.long x11), none, some (.int x13), some (.int x14), none, some (.int v98)]) dX8_ask_265 (by exact (Nat.le_of_ble_eq_true rfl)) rfl rfl ?_
        refine ab_iload_n (i := 1) dX8_ask_267 rfl rfl ?_
        refine ab_if_eq (tgt := 281) dX8_ask_268 (by decide) (fun c99 => ?_) (fun c99 => ?_)
        · have ht := ht.1 c99
          exact Wp.fewer (L' := [some (.ref 38), none, none, none, none, none, none, none, none, none, some (.int x10), some (.long x11), none, none, none, none, some (.int v98)]) (show ab_leL _ _ from ⟨rfl, ⟨rfl, ⟨rfl, ⟨rfl, trivial⟩⟩⟩⟩) ht
        · have ht := ht.2 c99
          refine ab_aload_n (i := 0) dX8_ask_271 rfl rfl ?_
          refine ab_getR (b := 26) f_X8_44 rfl (sh_k hs97 38 8 (by decide) rfl) (sh_r hs97 44 rfl) dX8_ask_272 ?_
          refine ab_getI f_X8_119 rfl (sh_k hs97 26 2 (by decide) rfl) dX8_ask_275 ?_
          refine ab_if_ne (tgt := 297) dX8_ask_278 (by decide) (fun c100 => ?_) (fun c100 => ?_)
          · have ht := ht.1 c100
            exact Wp.fewer (L' := [some (.ref 38), some (.int x1), none, none, none, none, none, none, none, none, some (.int x10), some (.long x11), none, some (.int x13), some (.int x14), none, none]) (show ab_leL _ _ from ⟨rfl, ⟨rfl, ⟨rfl, ⟨rfl, ⟨rfl, ⟨rfl, trivial⟩⟩⟩⟩⟩⟩) ht
          · have ht := ht.2 c100
            exact Wp.fewer (L' := [some (.ref 38), none, none, none, none, none, none, none, none, none, some (.int x10), some (.long x11), none, none, none, none, some (.int v98)]) (show ab_leL _ _ from ⟨rfl, ⟨rfl, ⟨rfl, ⟨rfl, trivial⟩⟩⟩⟩) ht
  · have ht := ht.2 c82
    refine ab_iconst (v := 1) dX8_ask_237 (by decide) ?_
    refine ab_goto (tgt := 265) dX8_ask_238 (by decide) ?_
    refine ab_istore (i := 16) (L' := [some (.ref 38), some (.int x1), none, none, none, none, none, none, none, none, some (.int x10), some (.long x11), none, some (.int x13), some (.int x14), none, some (.int 1)]) dX8_ask_265 (by exact (Nat.le_of_ble_eq_true rfl)) rfl rfl ?_
    refine ab_iload_n (i := 1) dX8_ask_267 rfl rfl ?_
    refine ab_if_eq (tgt := 281) dX8_ask_268 (by decide) (fun c101 => ?_) (fun c101 => ?_)
    · have ht := ht.1 c101
      exact Wp.fewer (L' := [some (.ref 38), none, none, none, none, none, none, none, none, none, some (.int x10), some (.long x11), none, none, none, none, some (.int 1)]) (show ab_leL _ _ from ⟨rfl, ⟨rfl, ⟨rfl, ⟨rfl, trivial⟩⟩⟩⟩) ht
    · have ht := ht.2 c101
      refine ab_aload_n (i := 0) dX8_ask_271 rfl rfl ?_
      refine ab_getR (b := 26) f_X8_44 rfl (sh_k hs 38 8 (by decide) rfl) (sh_r hs 44 rfl) dX8_ask_272 ?_
      refine ab_getI f_X8_119 rfl (sh_k hs 26 2 (by decide) rfl) dX8_ask_275 ?_
      refine ab_if_ne (tgt := 297) dX8_ask_278 (by decide) (fun c102 => ?_) (fun c102 => ?_)
      · have ht := ht.1 c102
        exact Wp.fewer (L' := [some (.ref 38), some (.int x1), none, none, none, none, none, none, none, none, some (.int x10), some (.long x11), none, some (.int x13), some (.int x14), none, none]) (show ab_leL _ _ from ⟨rfl, ⟨rfl, ⟨rfl, ⟨rfl, ⟨rfl, ⟨rfl, trivial⟩⟩⟩⟩⟩⟩) ht
      · have ht := ht.2 c102
        exact Wp.fewer (L' := [some (.ref 38), none, none, none, none, none, none, none, none, none, some (.int x10), some (.long x11), none, none, none, none, some (.int 1)]) (show ab_leL _ _ from ⟨rfl, ⟨rfl, ⟨rfl, ⟨rfl, trivial⟩⟩⟩⟩) ht
set_option maxRecDepth 20000 in
theorem T_X8_ask_281 {Q : Option Value → ah_T → Prop} {h : ah_T} (hs : Sh h) (x10 : Int32) (x11 : Int64) (x16 : Int32) (ht : Wp mX8_ask Q 0 0 303 [some (.ref 38), none, none, none, none, none, none, none, none, none, some (.int x10), some (.long x11), none, some (.int (if 0 < (if x16 < 9 then x16 else 9) then (if x16 < 9 then x16 else 9) else 0)), none, none, none] [] h) : Wp mX8_ask Q 0 0 281 [some (.ref 38), none, none, none, none, none, none, none, none, none, some (.int x10), some (.long x11), none, none, none, none, some (.int x16)] [] h := by
  refine ab_iconst (v := 0) dX8_ask_281 (by decide) ?_
  refine ab_bipush (v := 9) dX8_ask_282 (by decide) ?_
  refine ab_iload (i := 16) dX8_ask_284 rfl ?_
  refine ab_mmin (tb_5 (List.mem_of_getElem? (i := 50) (by decide +kernel)) rfl) st_mmin in_m co_mmin (Nat.le_of_ble_eq_true rfl) (Nat.le_of_ble_eq_true rfl) (Nat.le_of_ble_eq_true rfl) (Nat.le_of_ble_eq_true rfl) dX8_ask_286 ?_
  refine ab_mmax (tb_5 (List.mem_of_getElem? (i := 51) (by decide +kernel)) rfl) st_mmax in_m co_mmax (Nat.le_of_ble_eq_true rfl) (Nat.le_of_ble_eq_true rfl) (Nat.le_of_ble_eq_true rfl) (Nat.le_of_ble_eq_true rfl) dX8_ask_289 ?_
  refine ab_istore (i := 13) (L' := [some (.ref 38), none, none, none, none, none, none, none, none, none, some (.int x10), some (.long x11), none, some (.int (if 0 < (if x16 < 9 then x16 else 9) then (if x16 < 9 then x16 else 9) else 0)), none, none, some (.int x16)]) dX8_ask_292 (by exact (Nat.le_of_ble_eq_true rfl)) rfl rfl ?_
  refine ab_goto (tgt := 303) dX8_ask_294 (by decide) ?_
  exact Wp.fewer (L' := [some (.ref 38), none, none, none, none, none, none, none, none, none, some (.int x10), some (.long x11), none, some (.int (if 0 < (if x16 < 9 then x16 else 9) then (if x16 < 9 then x16 else 9) else 0)), none, none, none]) (show ab_leL _ _ from ⟨rfl, ⟨rfl, ⟨rfl, ⟨rfl, trivial⟩⟩⟩⟩) ht
set_option maxRecDepth 20000 in
theorem T_X8_ask {Q : Option Value → ah_T → Prop} {h : ah_T} (hs : Sh h) (x1 : Int32) (x2 : Int32) (x3 : Int32) (x4 : Int32) (x5 : Int32) (x6 : Int32) (x7 : Int32) (ht : ((ah_r h 38 3 = none → ((¬ x1 = 0 → Wp mX8_ask Q 0 0 28 [none, none, none, none, none, none, none, none, none, none, none, none, none, none, none, none, none] [] h) ∧ (x1 = 0 → ((¬ x3 = x4 → Wp mX8_ask Q 0 0 32 [none, none, none, none, none, none, none, none, none, none, none, none, none, none, none, none, none] [] h) ∧ (x3 = x4 → ((x5 = 0 → Wp mX8_ask Q 0 0 28 [none, none, none, none, none, none, none, none, none, none, none, none, none, none, none, none, none] [] h) ∧ (¬ x5 = 0 → ((¬ x5 = 1 → Wp mX8_ask Q 0 0 32 [none, none, none, none, none, none, none, none, none, none, none, none, none, none, none, none, none] [] h) ∧ (x5 = 1 → Wp mX8_ask Q 0 0 28 [none, none, none, none, none, none, none, none, none, none, none, none, none, none, none, none, none] [] h))))))))) ∧ (∀ b2, ah_r h 38 3 = some b2 → (ah_k h b2 = 9) ∧ (∀ h8, h8 = ah_si h 27 (Int32.toNatClampNeg 0) x2 → (∀ h12, h12 = ah_si h8 27 (Int32.toNatClampNeg 1) x3 → (∀ h16, h16 = ah_si h12 27 (Int32.toNatClampNeg 2) x4 → (∀ h20, h20 = ah_si h16 27 (Int32.toNatClampNeg 3) x5 → (∀ h24, h24 = ah_si h20 27 (Int32.toNatClampNeg 4) x6 → (∀ h28, h28 = ah_si h24 27 (Int32.toNatClampNeg 5) x7 → (∀ h32, h32 = ah_si h28 27 (Int32.toNatClampNeg 6) (ah_i h28 38 4) → (∀ h36, h36 = ah_si h32 27 (Int32.toNatClampNeg 7) (ah_i h32 38 5) → (Mt mX8_keyOf [.ref 38, .int x1] h36 (ab_qi fun v42 h40 => Sh h40 ∧ (vp_in (((v42 * (-1640531535)).toUInt32 >>> ((20 : Int32).toUInt32 &&& Int32.toUInt32 31)).toInt32) (ah_n h40 39)) ∧ ((¬ (lg_cmp (((ah_l h40 39 (Int32.toNatClampNeg (((v42 * (-1640531535)).toUInt32 >>> ((20 : Int32).toUInt32 &&& Int32.toUInt32 31)).toInt32))).toUInt64 >>> ((4 : Int32).toInt64.toUInt64 &&& Int64.toUInt64 63)).toInt64) (((ah_l h40 38 7) <<< ((25 : Int32).toInt64 &&& 63)) ||| (v42).toInt64)) = 0 → ((¬ x1 = 0 → ((ah_r h40 38 3 = none → False) ∧ (∀ b47, ah_r h40 38 3 = some b47 → (ah_k h40 b47 = 9) ∧ Wp mX8_ask Q 0 0 174 [some (.ref 38), some (.int x1), none, none, none, none, none, none, none, none, some (.int (((v42 * (-1640531535)).toUInt32 >>> ((20 : Int32).toUInt32 &&& Int32.toUInt32 31)).toInt32)), some (.long (((ah_l h40 38 7) <<< ((25 : Int32).toInt64 &&& 63)) ||| (v42).toInt64)), none, some (.int 1), some (.int ((ah_i h40 b47 2) - 1)), none, none] [] h40))) ∧ (x1 = 0 → ((ah_r h40 38 3 = none → False) ∧ (∀ b50, ah_r h40 38 3 = some b50 → (ah_k h40 b50 = 9) ∧ Wp mX8_ask Q 0 0 174 [some (.ref 38), some (.int x1), none, none, none, none, none, none, none, none, some (.int (((v42 * (-1640531535)).toUInt32 >>> ((20 : Int32).toUInt32 &&& Int32.toUInt32 31)).toInt32)), some (.long (((ah_l h40 38 7) <<< ((25 : Int32).toInt64 &&& 63)) ||| (v42).toInt64)), none, some (.int 0), some (.int ((ah_i h40 b50 2) - 1)), none, none] [] h40))))) ∧ ((lg_cmp (((ah_l h40 39 (Int32.toNatClampNeg (((v42 * (-1640531535)).toUInt32 >>> ((20 : Int32).toUInt32 &&& Int32.toUInt32 31)).toInt32))).toUInt64 >>> ((4 : Int32).toInt64.toUInt64 &&& Int64.toUInt64 63)).toInt64) (((ah_l h40 38 7) <<< ((25 : Int32).toInt64 &&& 63)) ||| (v42).toInt64)) = 0 → (vp_in (((v42 * (-1640531535)).toUInt32 >>> ((20 : Int32).toUInt32 &&& Int32.toUInt32 31)).toInt32) (ah_n h40 39)) ∧ Q (some (.int (((ah_l h40 39 (Int32.toNatClampNeg (((v42 * (-1640531535)).toUInt32 >>> ((20 : Int32).toUInt32 &&& Int32.toUInt32 31)).toInt32)))).toInt32 &&& 15))) h40))))))))))))))) : Mt mX8_ask [.ref 38, .int x1, .int x2, .int x3, .int x4, .int x5, .int x6, .int x7] h Q := by
  refine Mt.ofWp rfl (by exact (Nat.le_of_ble_eq_true rfl)) (Wp.fewer (L' := [some (.ref 38), some (.int x1), some (.int x2), some (.int x3), some (.int x4), some (.int x5), some (.int x6), some (.int x7), none, none, none, none, none, none, none, none, none]) (show ab_leL _ _ from ⟨rfl, ⟨rfl, ⟨rfl, ⟨rfl, ⟨rfl, ⟨rfl, ⟨rfl, ⟨rfl, trivial⟩⟩⟩⟩⟩⟩⟩⟩) ?_)
  refine ab_aload_n (i := 0) dX8_ask_0 rfl rfl ?_
  rcases hr1 : ah_r h 38 3 with _ | b2
  · have ht := ht.1 hr1
    refine ab_getN f_X8_9 rfl (sh_k hs 38 8 (by decide) rfl) hr1 dX8_ask_1 ?_
    refine ab_nonnullN dX8_ask_4 ?_
    refine ab_iload_n (i := 1) dX8_ask_7 rfl rfl ?_
    refine ab_if_ne (tgt := 28) dX8_ask_8 (by decide) (fun c4 => ?_) (fun c4 => ?_)
    · have ht := ht.1 c4
      exact Wp.fewer (L' := [none, none, none, none, none, none, none, none, none, none, none, none, none, none, none, none, none]) (show ab_leL _ _ from trivial) ht
    · have ht := ht.2 c4
      refine ab_iload_n (i := 3) dX8_ask_11 rfl rfl ?_
      refine ab_iload (i := 4) dX8_ask_12 rfl ?_
      refine ab_icmp_ne (tgt := 32) dX8_ask_14 (by decide) (fun c5 => ?_) (fun c5 => ?_)
      · have ht := ht.1 c5
        exact Wp.fewer (L' := [none, none, none, none, none, none, none, none, none, none, none, none, none, none, none, none, none]) (show ab_leL _ _ from trivial) ht
      · have ht := ht.2 c5
        refine ab_iload (i := 5) dX8_ask_17 rfl ?_
        refine ab_if_eq (tgt := 28) dX8_ask_19 (by decide) (fun c6 => ?_) (fun c6 => ?_)
        · have ht := ht.1 c6
          exact Wp.fewer (L' := [none, none, none, none, none, none, none, none, none, none, none, none, none, none, none, none, none]) (show ab_leL _ _ from trivial) ht
        · have ht := ht.2 c6
          refine ab_iload (i := 5) dX8_ask_22 rfl ?_
          refine ab_iconst (v := 1) dX8_ask_24 (by decide) ?_
          refine ab_icmp_ne (tgt := 32) dX8_ask_25 (by decide) (fun c7 => ?_) (fun c7 => ?_)
          · have ht := ht.1 c7
            exact Wp.fewer (L' := [none, none, none, none, none, none, none, none, none, none, none, none, none, none, none, none, none]) (show ab_leL _ _ from trivial) ht
          · have ht := ht.2 c7
            exact Wp.fewer (L' := [none, none, none, none, none, none, none, none, none, none, none, none, none, none, none, none, none]) (show ab_leL _ _ from trivial) ht
  · obtain ⟨hk3, ht⟩ := ht.2 b2 hr1
    refine ab_getR (b := b2) f_X8_9 rfl (sh_k hs 38 8 (by decide) rfl) hr1 dX8_ask_1 ?_
    refine ab_nonnull (tgt := 34) dX8_ask_4 (by decide) ?_
    refine ab_aload_n (i := 0) dX8_ask_34 rfl rfl ?_
    refine ab_getR (b := 26) f_X8_44 rfl (sh_k hs 38 8 (by decide) rfl) (sh_r hs 44 rfl) dX8_ask_35 ?_
    refine ab_getR (b := 27) f_X8_98 rfl (sh_k hs 26 2 (by decide) rfl) (sh_r hs 32 rfl) dX8_ask_38 ?_
    refine ab_astore (i := 8) (L' := [some (.ref 38), some (.int x1), some (.int x2), some (.int x3), some (.int x4), some (.int x5), some (.int x6), some (.int x7), some (.ref 27), none, none, none, none, none, none, none, none]) dX8_ask_41 (by exact (Nat.le_of_ble_eq_true rfl)) rfl rfl ?_
    refine ab_aload (i := 8) dX8_ask_43 rfl ?_
    refine ab_iconst (v := 0) dX8_ask_45 (by decide) ?_
    refine ab_iload_n (i := 2) dX8_ask_46 rfl rfl ?_
    refine ab_iast (sh_k hs 27 14 (by decide) rfl) (sh_in hs 27 13 (by decide) (by decide) rfl (by unfold vp_in; decide)) dX8_ask_47 ?_
    refine Wp.nm fun h8 e9 => ?_
    have ht := ht h8 e9
    have hs10 : Sh h8 := by rw [e9]; exact sh_si hs
    have hk11 : ah_k h8 b2 = 9 := by rw [e9]; exact hk3
    refine ab_aload (i := 8) dX8_ask_48 rfl ?_
    refine ab_iconst (v := 1) dX8_ask_50 (by decide) ?_
    refine ab_iload_n (i := 3) dX8_ask_51 rfl rfl ?_
    refine ab_iast (sh_k hs10 27 14 (by decide) rfl) (sh_in hs10 27 13 (by decide) (by decide) rfl (by unfold vp_in; decide)) dX8_ask_52 ?_
    refine Wp.nm fun h12 e13 => ?_
    have ht := ht h12 e13
    have hs14 : Sh h12 := by rw [e13]; exact sh_si hs10
    have hk15 : ah_k h12 b2 = 9 := by rw [e13]; exact hk11
    refine ab_aload (i := 8) dX8_ask_53 rfl ?_
    refine ab_iconst (v := 2) dX8_ask_55 (by decide) ?_
    refine ab_iload (i := 4) dX8_ask_56 rfl ?_
    refine ab_iast (sh_k hs14 27 14 (by decide) rfl) (sh_in hs14 27 13 (by decide) (by decide) rfl (by unfold vp_in; decide)) dX8_ask_58 ?_
    refine Wp.nm fun h16 e17 => ?_
    have ht := ht h16 e17
    have hs18 : Sh h16 := by rw [e17]; exact sh_si hs14
    have hk19 : ah_k h16 b2 = 9 := by rw [e17]; exact hk15
    refine ab_aload (i := 8) dX8_ask_59 rfl ?_
    refine ab_iconst (v := 3) dX8_ask_61 (by decide) ?_
    refine ab_iload (i := 5) dX8_ask_62 rfl ?_
    refine ab_iast (sh_k hs18 27 14 (by decide) rfl) (sh_in hs18 27 13 (by decide) (by decide) rfl (by unfold vp_in; decide)) dX8_ask_64 ?_
    refine Wp.nm fun h20 e21 => ?_
    have ht := ht h20 e21
    have hs22 : Sh h20 := by rw [e21]; exact sh_si hs18
    have hk23 : ah_k h20 b2 = 9 := by rw [e21]; exact hk19
    refine ab_aload (i := 8) dX8_ask_65 rfl ?_
    refine ab_iconst (v := 4) dX8_ask_67 (by decide) ?_
    refine ab_iload (i := 6) dX8_ask_68 rfl ?_
    refine ab_iast (sh_k hs22 27 14 (by decide) rfl) (sh_in hs22 27 13 (by decide) (by decide) rfl (by unfold vp_in; decide)) dX8_ask_70 ?_
    refine Wp.nm fun h24 e25 => ?_
    have ht := ht h24 e25
    have hs26 : Sh h24 := by rw [e25]; exact sh_si hs22
    have hk27 : ah_k h24 b2 = 9 := by rw [e25]; exact hk23
    refine ab_aload (i := 8) dX8_ask_71 rfl ?_
    refine ab_iconst (v := 5) dX8_ask_73 (by decide) ?_
    refine ab_iload (i := 7) dX8_ask_74 rfl ?_
    refine ab_iast (sh_k hs26 27 14 (by decide) rfl) (sh_in hs26 27 13 (by decide) (by decide) rfl (by unfold vp_in; decide)) dX8_ask_76 ?_
    refine Wp.nm fun h28 e29 => ?_
    have ht := ht h28 e29
    have hs30 : Sh h28 := by rw [e29]; exact sh_si hs26
    have hk31 : ah_k h28 b2 = 9 := by rw [e29]; exact hk27
    refine ab_aload (i := 8) dX8_ask_77 rfl ?_
    refine ab_bipush (v := 6) dX8_ask_79 (by decide) ?_
    refine ab_aload_n (i := 0) dX8_ask_81 rfl rfl ?_
    refine ab_getI f_X8_15 rfl (sh_k hs30 38 8 (by decide) rfl) dX8_ask_82 ?_
    refine ab_iast (sh_k hs30 27 14 (by decide) rfl) (sh_in hs30 27 13 (by decide) (by decide) rfl (by unfold vp_in; decide)) dX8_ask_85 ?_
    refine Wp.nm fun h32 e33 => ?_
    have ht := ht h32 e33
    have hs34 : Sh h32 := by rw [e33]; exact sh_si hs30
    have hk35 : ah_k h32 b2 = 9 := by rw [e33]; exact hk31
    refine ab_aload (i := 8) dX8_ask_86 rfl ?_
    refine ab_bipush (v := 7) dX8_ask_88 (by decide) ?_
    refine ab_aload_n (i := 0) dX8_ask_90 rfl rfl ?_
    refine ab_getI f_X8_19 rfl (sh_k hs34 38 8 (by decide) rfl) dX8_ask_91 ?_
    refine ab_iast (sh_k hs34 27 14 (by decide) rfl) (sh_in hs34 27 13 (by decide) (by decide) rfl (by unfold vp_in; decide)) dX8_ask_94 ?_
    refine Wp.nm fun h36 e37 => ?_
    have ht := ht h36 e37
    have hs38 : Sh h36 := by rw [e37]; exact sh_si hs34
    have hk39 : ah_k h36 b2 = 9 := by rw [e37]; exact hk35
    refine ab_aload_n (i := 0) dX8_ask_95 rfl rfl ?_
    refine ab_iload_n (i := 1) dX8_ask_96 rfl rfl ?_
    refine ab_callV (b := 38) (As := [.int x1]) ht (Y_X8_keyOf) l_X8_103 in_X8_keyOf se_X8_keyOf (sh_k hs38 38 8 (by decide) rfl) (by decide) rfl rfl ⟨(Nat.le_of_ble_eq_true rfl), (Nat.le_of_ble_eq_true rfl), (Nat.le_of_ble_eq_true rfl), (Nat.le_of_ble_eq_true rfl)⟩ dX8_ask_97 ?_
    rintro _ h40 ⟨v42, rfl, hs41, ht⟩
    refine ab_istore (i := 9) (L' := [some (.ref 38), some (.int x1), some (.int x2), some (.int x3), some (.int x4), some (.int x5), some (.int x6), some (.int x7), some (.ref 27), some (.int v42), none, none, none, none, none, none, none]) dX8_ask_100 (by exact (Nat.le_of_ble_eq_true rfl)) rfl rfl ?_
    refine ab_iload (i := 9) dX8_ask_102 rfl ?_
    refine ab_ldc (v := (-1640531535)) (tb_5 (List.mem_of_getElem? (i := 47) (by decide +kernel)) rfl) dX8_ask_104 ?_
    refine ab_imul dX8_ask_106 ?_
    refine ab_bipush (v := 20) dX8_ask_107 (by decide) ?_
    refine ab_iushr dX8_ask_109 ?_
    refine ab_istore (i := 10) (L' := [some (.ref 38), some (.int x1), some (.int x2), some (.int x3), some (.int x4), some (.int x5), some (.int x6), some (.int x7), some (.ref 27), some (.int v42), some (.int (((v42 * (-1640531535)).toUInt32 >>> ((20 : Int32).toUInt32 &&& Int32.toUInt32 31)).toInt32)), none, none, none, none, none, none]) dX8_ask_110 (by exact (Nat.le_of_ble_eq_true rfl)) rfl rfl ?_
    refine ab_aload_n (i := 0) dX8_ask_112 rfl rfl ?_
    refine ab_getL f_X8_26 rfl (sh_k hs41 38 8 (by decide) rfl) dX8_ask_113 ?_
    refine ab_bipush (v := 25) dX8_ask_116 (by decide) ?_
    refine ab_lshl dX8_ask_118 ?_
    refine ab_iload (i := 9) dX8_ask_119 rfl ?_
    refine ab_i2l dX8_ask_121 ?_
    refine ab_lor dX8_ask_122 ?_
    refine ab_lstore (i := 11) (L' := [some (.ref 38), some (.int x1), some (.int x2), some (.int x3), some (.int x4), some (.int x5), some (.int x6), some (.int x7), some (.ref 27), some (.int v42), some (.int (((v42 * (-1640531535)).toUInt32 >>> ((20 : Int32).toUInt32 &&& Int32.toUInt32 31)).toInt32)), some (.long (((ah_l h40 38 7) <<< ((25 : Int32).toInt64 &&& 63)) ||| (v42).toInt64)), none, none, none, none, none]) dX8_ask_123 (by exact (Nat.le_of_ble_eq_true rfl)) rfl rfl ?_
    refine ab_aload_n (i := 0) dX8_ask_125 rfl rfl ?_
    refine ab_getR (b := 39) f_X8_22 rfl (sh_k hs41 38 8 (by decide) rfl) (sh_r hs41 46 rfl) dX8_ask_126 ?_
    refine ab_iload (i := 10) dX8_ask_129 rfl ?_
    obtain ⟨hc43, ht⟩ := ht
    refine ab_lald (sh_k hs41 39 15 (by decide) rfl) hc43 dX8_ask_131 ?_
    refine ab_iconst (v := 4) dX8_ask_132 (by decide) ?_
    refine ab_lushr dX8_ask_133 ?_
    refine ab_lload (i := 11) dX8_ask_134 rfl ?_
    refine ab_lcmp dX8_ask_136 ?_
    refine ab_if_ne (tgt := 152) dX8_ask_137 (by decide) (fun c44 => ?_) (fun c44 => ?_)
    · have ht := ht.1 c44
      refine ab_iload_n (i := 1) dX8_ask_152 rfl rfl ?_
      refine ab_if_ne (tgt := 160) dX8_ask_153 (by decide) (fun c45 => ?_) (fun c45 => ?_)
      · have ht := ht.1 c45
        refine ab_iconst (v := 1) dX8_ask_160 (by decide) ?_
        refine ab_istore (i := 13) (L' := [some (.ref 38), some (.int x1), some (.int x2), some (.int x3), some (.int x4), some (.int x5), some (.int x6), some (.int x7), some (.ref 27), some (.int v42), some (.int (((v42 * (-1640531535)).toUInt32 >>> ((20 : Int32).toUInt32 &&& Int32.toUInt32 31)).toInt32)), some (.long (((ah_l h40 38 7) <<< ((25 : Int32).toInt64 &&& 63)) ||| (v42).toInt64)), none, some (.int 1), none, none, none]) dX8_ask_161 (by exact (Nat.le_of_ble_eq_true rfl)) rfl rfl ?_
        refine ab_aload_n (i := 0) dX8_ask_163 rfl rfl ?_
        rcases hr46 : ah_r h40 38 3 with _ | b47
        · have ht := ht.1 hr46
          refine ab_getN f_X8_9 rfl (sh_k hs41 38 8 (by decide) rfl) hr46 dX8_ask_164 ?_
          exact False.elim ht
        · obtain ⟨hk48, ht⟩ := ht.2 b47 hr46
          refine ab_getR (b := b47) f_X8_9 rfl (sh_k hs41 38 8 (by decide) rfl) hr46 dX8_ask_164 ?_
          refine ab_getI f_X8_108 rfl hk48 dX8_ask_167 ?_
          refine ab_iconst (v := 1) dX8_ask_170 (by decide) ?_
          refine ab_isub dX8_ask_171 ?_
          refine ab_istore (i := 14) (L' := [some (.ref 38), some (.int x1), some (.int x2), some (.int x3), some (.int x4), some (.int x5), some (.int x6), some (.int x7), some (.ref 27), some (.int v42), some (.int (((v42 * (-1640531535)).toUInt32 >>> ((20 : Int32).toUInt32 &&& Int32.toUInt32 31)).toInt32)), some (.long (((ah_l h40 38 7) <<< ((25 : Int32).toInt64 &&& 63)) ||| (v42).toInt64)), none, some (.int 1), some (.int ((ah_i h40 b47 2) - 1)), none, none]) dX8_ask_172 (by exact (Nat.le_of_ble_eq_true rfl)) rfl rfl ?_
          exact Wp.fewer (L' := [some (.ref 38), some (.int x1), none, none, none, none, none, none, none, none, some (.int (((v42 * (-1640531535)).toUInt32 >>> ((20 : Int32).toUInt32 &&& Int32.toUInt32 31)).toInt32)), some (.long (((ah_l h40 38 7) <<< ((25 : Int32).toInt64 &&& 63)) ||| (v42).toInt64)), none, some (.int 1), some (.int ((ah_i h40 b47 2) - 1)), none, none]) (show ab_leL _ _ from ⟨rfl, ⟨rfl, ⟨rfl, ⟨rfl, ⟨rfl, ⟨rfl, trivial⟩⟩⟩⟩⟩⟩) ht
      · have ht := ht.2 c45
        refine ab_iconst (v := 0) dX8_ask_156 (by decide) ?_
        refine ab_goto (tgt := 161) dX8_ask_157 (by decide) ?_
        refine ab_istore (i := 13) (L' := [some (.ref 38), some (.int x1), some (.int x2), some (.int x3), some (.int x4), some (.int x5), some (.int x6), some (.int x7), some (.ref 27), some (.int v42), some (.int (((v42 * (-1640531535)).toUInt32 >>> ((20 : Int32).toUInt32 &&& Int32.toUInt32 31)).toInt32)), some (.long (((ah_l h40 38 7) <<< ((25 : Int32).toInt64 &&& 63)) ||| (v42).toInt64)), none, some (.int 0), none, none, none]) dX8_ask_161 (by exact (Nat.le_of_ble_eq_true rfl)) rfl rfl ?_
        refine ab_aload_n (i := 0) dX8_ask_163 rfl rfl ?_
        rcases hr49 : ah_r h40 38 3 with _ | b50
        · have ht := ht.1 hr49
          refine ab_getN f_X8_9 rfl (sh_k hs41 38 8 (by decide) rfl) hr49 dX8_ask_164 ?_
          exact False.elim ht
        · obtain ⟨hk51, ht⟩ := ht.2 b50 hr49
          refine ab_getR (b := b50) f_X8_9 rfl (sh_k hs41 38 8 (by decide) rfl) hr49 dX8_ask_164 ?_
          refine ab_getI f_X8_108 rfl hk51 dX8_ask_167 ?_
          refine ab_iconst (v := 1) dX8_ask_170 (by decide) ?_
          refine ab_isub dX8_ask_171 ?_
          refine ab_istore (i := 14) (L' := [some (.ref 38), some (.int x1), some (.int x2), some (.int x3), some (.int x4), some (.int x5), some (.int x6), some (.int x7), some (.ref 27), some (.int v42), some (.int (((v42 * (-1640531535)).toUInt32 >>> ((20 : Int32).toUInt32 &&& Int32.toUInt32 31)).toInt32)), some (.long (((ah_l h40 38 7) <<< ((25 : Int32).toInt64 &&& 63)) ||| (v42).toInt64)), none, some (.int 0), some (.int ((ah_i h40 b50 2) - 1)), none, none]) dX8_ask_172 (by exact (Nat.le_of_ble_eq_true rfl)) rfl rfl ?_
          exact Wp.fewer (L' := [some (.ref 38), some (.int x1), none, none, none, none, none, none, none, none, some (.int (((v42 * (-1640531535)).toUInt32 >>> ((20 : Int32).toUInt32 &&& Int32.toUInt32 31)).toInt32)), some (.long (((ah_l h40 38 7) <<< ((25 : Int32).toInt64 &&& 63)) ||| (v42).toInt64)), none, some (.int 0), some (.int ((ah_i h40 b50 2) - 1)), none, none]) (show ab_leL _ _ from ⟨rfl, ⟨rfl, ⟨rfl, ⟨rfl, ⟨rfl, ⟨rfl, trivial⟩⟩⟩⟩⟩⟩) ht
    · have ht := ht.2 c44
      refine ab_aload_n (i := 0) dX8_ask_140 rfl rfl ?_
      refine ab_getR (b := 39) f_X8_22 rfl (sh_k hs41 38 8 (by decide) rfl) (sh_r hs41 46 rfl) dX8_ask_141 ?_
      refine ab_iload (i := 10) dX8_ask_144 rfl ?_
      obtain ⟨hc52, ht⟩ := ht
      refine ab_lald (sh_k hs41 39 15 (by decide) rfl) hc52 dX8_ask_146 ?_
      refine ab_l2i dX8_ask_147 ?_
      refine ab_bipush (v := 15) dX8_ask_148 (by decide) ?_
      refine ab_iand dX8_ask_150 ?_
      exact ab_iret rfl dX8_ask_151 (Nat.le_of_ble_eq_true rfl) (Nat.le_of_ble_eq_true rfl) ht
theorem dX8_keyOf_0 : decode cX8_keyOf 0 = .ok (.aload_n 0, 1) := by decide +kernel
theorem dX8_keyOf_1 : decode cX8_keyOf 1 = .ok (.getfield 44, 3) := by decide +kernel
theorem dX8_keyOf_4 : decode cX8_keyOf 4 = .ok (.getfield 98, 3) := by decide +kernel
theorem dX8_keyOf_7 : decode cX8_keyOf 7 = .ok (.astore_n 2, 1) := by decide +kernel
theorem dX8_keyOf_8 : decode cX8_keyOf 8 = .ok (.aload_n 0, 1) := by decide +kernel
theorem dX8_keyOf_9 : decode cX8_keyOf 9 = .ok (.getfield 9, 3) := by decide +kernel
theorem dX8_keyOf_12 : decode cX8_keyOf 12 = .ok (.getfield 71, 3) := by decide +kernel
theorem dX8_keyOf_15 : decode cX8_keyOf 15 = .ok (.iload_n 1, 1) := by decide +kernel
theorem dX8_keyOf_16 : decode cX8_keyOf 16 = .ok (.iaload, 1) := by decide +kernel
theorem dX8_keyOf_17 : decode cX8_keyOf 17 = .ok (.istore_n 3, 1) := by decide +kernel
theorem dX8_keyOf_18 : decode cX8_keyOf 18 = .ok (.iload_n 1, 1) := by decide +kernel
theorem dX8_keyOf_19 : decode cX8_keyOf 19 = .ok (.bipush 12, 2) := by decide +kernel
theorem dX8_keyOf_21 : decode cX8_keyOf 21 = .ok (.imul, 1) := by decide +kernel
theorem dX8_keyOf_22 : decode cX8_keyOf 22 = .ok (.iload_n 3, 1) := by decide +kernel
theorem dX8_keyOf_23 : decode cX8_keyOf 23 = .ok (.iconst 0, 1) := by decide +kernel
theorem dX8_keyOf_24 : decode cX8_keyOf 24 = .ok (.ishr, 1) := by decide +kernel
theorem dX8_keyOf_25 : decode cX8_keyOf 25 = .ok (.iconst 1, 1) := by decide +kernel
theorem dX8_keyOf_26 : decode cX8_keyOf 26 = .ok (.iand, 1) := by decide +kernel
theorem dX8_keyOf_27 : decode cX8_keyOf 27 = .ok (.ifCond .eq 11, 3) := by decide +kernel
theorem dX8_keyOf_30 : decode cX8_keyOf 30 = .ok (.aload_n 2, 1) := by decide +kernel
theorem dX8_keyOf_31 : decode cX8_keyOf 31 = .ok (.iconst 0, 1) := by decide +kernel
theorem dX8_keyOf_32 : decode cX8_keyOf 32 = .ok (.iaload, 1) := by decide +kernel
theorem dX8_keyOf_33 : decode cX8_keyOf 33 = .ok (.iconst 1, 1) := by decide +kernel
theorem dX8_keyOf_34 : decode cX8_keyOf 34 = .ok (.iadd, 1) := by decide +kernel
theorem dX8_keyOf_35 : decode cX8_keyOf 35 = .ok (.goto 4, 3) := by decide +kernel
theorem dX8_keyOf_38 : decode cX8_keyOf 38 = .ok (.iconst 0, 1) := by decide +kernel
theorem dX8_keyOf_39 : decode cX8_keyOf 39 = .ok (.iadd, 1) := by decide +kernel
theorem dX8_keyOf_40 : decode cX8_keyOf 40 = .ok (.istore 4, 2) := by decide +kernel
theorem dX8_keyOf_42 : decode cX8_keyOf 42 = .ok (.iload 4, 2) := by decide +kernel
theorem dX8_keyOf_44 : decode cX8_keyOf 44 = .ok (.bipush 8, 2) := by decide +kernel
theorem dX8_keyOf_46 : decode cX8_keyOf 46 = .ok (.imul, 1) := by decide +kernel
theorem dX8_keyOf_47 : decode cX8_keyOf 47 = .ok (.iload_n 3, 1) := by decide +kernel
theorem dX8_keyOf_48 : decode cX8_keyOf 48 = .ok (.iconst 1, 1) := by decide +kernel
theorem dX8_keyOf_49 : decode cX8_keyOf 49 = .ok (.ishr, 1) := by decide +kernel
theorem dX8_keyOf_50 : decode cX8_keyOf 50 = .ok (.iconst 1, 1) := by decide +kernel
theorem dX8_keyOf_51 : decode cX8_keyOf 51 = .ok (.iand, 1) := by decide +kernel
theorem dX8_keyOf_52 : decode cX8_keyOf 52 = .ok (.ifCond .eq 9, 3) := by decide +kernel
theorem dX8_keyOf_55 : decode cX8_keyOf 55 = .ok (.aload_n 2, 1) := by decide +kernel
theorem dX8_keyOf_56 : decode cX8_keyOf 56 = .ok (.iconst 1, 1) := by decide +kernel
theorem dX8_keyOf_57 : decode cX8_keyOf 57 = .ok (.iaload, 1) := by decide +kernel
theorem dX8_keyOf_58 : decode cX8_keyOf 58 = .ok (.goto 4, 3) := by decide +kernel
theorem dX8_keyOf_61 : decode cX8_keyOf 61 = .ok (.iconst 0, 1) := by decide +kernel
theorem dX8_keyOf_62 : decode cX8_keyOf 62 = .ok (.iadd, 1) := by decide +kernel
theorem dX8_keyOf_63 : decode cX8_keyOf 63 = .ok (.istore 4, 2) := by decide +kernel
theorem dX8_keyOf_65 : decode cX8_keyOf 65 = .ok (.iload 4, 2) := by decide +kernel
theorem dX8_keyOf_67 : decode cX8_keyOf 67 = .ok (.bipush 8, 2) := by decide +kernel
theorem dX8_keyOf_69 : decode cX8_keyOf 69 = .ok (.imul, 1) := by decide +kernel
theorem dX8_keyOf_70 : decode cX8_keyOf 70 = .ok (.iload_n 3, 1) := by decide +kernel
theorem dX8_keyOf_71 : decode cX8_keyOf 71 = .ok (.iconst 2, 1) := by decide +kernel
theorem dX8_keyOf_72 : decode cX8_keyOf 72 = .ok (.ishr, 1) := by decide +kernel
theorem dX8_keyOf_73 : decode cX8_keyOf 73 = .ok (.iconst 1, 1) := by decide +kernel
theorem dX8_keyOf_74 : decode cX8_keyOf 74 = .ok (.iand, 1) := by decide +kernel
theorem dX8_keyOf_75 : decode cX8_keyOf 75 = .ok (.ifCond .eq 11, 3) := by decide +kernel
theorem dX8_keyOf_78 : decode cX8_keyOf 78 = .ok (.aload_n 2, 1) := by decide +kernel
theorem dX8_keyOf_79 : decode cX8_keyOf 79 = .ok (.iconst 2, 1) := by decide +kernel
theorem dX8_keyOf_80 : decode cX8_keyOf 80 = .ok (.iaload, 1) := by decide +kernel
theorem dX8_keyOf_81 : decode cX8_keyOf 81 = .ok (.iconst 1, 1) := by decide +kernel
theorem dX8_keyOf_82 : decode cX8_keyOf 82 = .ok (.iadd, 1) := by decide +kernel
theorem dX8_keyOf_83 : decode cX8_keyOf 83 = .ok (.goto 4, 3) := by decide +kernel
theorem dX8_keyOf_86 : decode cX8_keyOf 86 = .ok (.iconst 0, 1) := by decide +kernel
theorem dX8_keyOf_87 : decode cX8_keyOf 87 = .ok (.iadd, 1) := by decide +kernel
theorem dX8_keyOf_88 : decode cX8_keyOf 88 = .ok (.istore 4, 2) := by decide +kernel
theorem dX8_keyOf_90 : decode cX8_keyOf 90 = .ok (.iload 4, 2) := by decide +kernel
theorem dX8_keyOf_92 : decode cX8_keyOf 92 = .ok (.bipush 16, 2) := by decide +kernel
theorem dX8_keyOf_94 : decode cX8_keyOf 94 = .ok (.imul, 1) := by decide +kernel
theorem dX8_keyOf_95 : decode cX8_keyOf 95 = .ok (.iload_n 3, 1) := by decide +kernel
theorem dX8_keyOf_96 : decode cX8_keyOf 96 = .ok (.iconst 3, 1) := by decide +kernel
theorem dX8_keyOf_97 : decode cX8_keyOf 97 = .ok (.ishr, 1) := by decide +kernel
theorem dX8_keyOf_98 : decode cX8_keyOf 98 = .ok (.iconst 1, 1) := by decide +kernel
theorem dX8_keyOf_99 : decode cX8_keyOf 99 = .ok (.iand, 1) := by decide +kernel
theorem dX8_keyOf_100 : decode cX8_keyOf 100 = .ok (.ifCond .eq 11, 3) := by decide +kernel
theorem dX8_keyOf_103 : decode cX8_keyOf 103 = .ok (.aload_n 2, 1) := by decide +kernel
theorem dX8_keyOf_104 : decode cX8_keyOf 104 = .ok (.iconst 3, 1) := by decide +kernel
theorem dX8_keyOf_105 : decode cX8_keyOf 105 = .ok (.iaload, 1) := by decide +kernel
theorem dX8_keyOf_106 : decode cX8_keyOf 106 = .ok (.iconst 1, 1) := by decide +kernel
theorem dX8_keyOf_107 : decode cX8_keyOf 107 = .ok (.iadd, 1) := by decide +kernel
theorem dX8_keyOf_108 : decode cX8_keyOf 108 = .ok (.goto 4, 3) := by decide +kernel
theorem dX8_keyOf_111 : decode cX8_keyOf 111 = .ok (.iconst 0, 1) := by decide +kernel
theorem dX8_keyOf_112 : decode cX8_keyOf 112 = .ok (.iadd, 1) := by decide +kernel
theorem dX8_keyOf_113 : decode cX8_keyOf 113 = .ok (.istore 4, 2) := by decide +kernel
theorem dX8_keyOf_115 : decode cX8_keyOf 115 = .ok (.iload 4, 2) := by decide +kernel
theorem dX8_keyOf_117 : decode cX8_keyOf 117 = .ok (.iconst 4, 1) := by decide +kernel
theorem dX8_keyOf_118 : decode cX8_keyOf 118 = .ok (.imul, 1) := by decide +kernel
theorem dX8_keyOf_119 : decode cX8_keyOf 119 = .ok (.iload_n 3, 1) := by decide +kernel
theorem dX8_keyOf_120 : decode cX8_keyOf 120 = .ok (.iconst 4, 1) := by decide +kernel
theorem dX8_keyOf_121 : decode cX8_keyOf 121 = .ok (.ishr, 1) := by decide +kernel
theorem dX8_keyOf_122 : decode cX8_keyOf 122 = .ok (.iconst 1, 1) := by decide +kernel
theorem dX8_keyOf_123 : decode cX8_keyOf 123 = .ok (.iand, 1) := by decide +kernel
theorem dX8_keyOf_124 : decode cX8_keyOf 124 = .ok (.ifCond .eq 11, 3) := by decide +kernel
theorem dX8_keyOf_127 : decode cX8_keyOf 127 = .ok (.aload_n 2, 1) := by decide +kernel
theorem dX8_keyOf_128 : decode cX8_keyOf 128 = .ok (.iconst 4, 1) := by decide +kernel
theorem dX8_keyOf_129 : decode cX8_keyOf 129 = .ok (.iaload, 1) := by decide +kernel
theorem dX8_keyOf_130 : decode cX8_keyOf 130 = .ok (.iconst 1, 1) := by decide +kernel
theorem dX8_keyOf_131 : decode cX8_keyOf 131 = .ok (.iadd, 1) := by decide +kernel
theorem dX8_keyOf_132 : decode cX8_keyOf 132 = .ok (.goto 4, 3) := by decide +kernel
theorem dX8_keyOf_135 : decode cX8_keyOf 135 = .ok (.iconst 0, 1) := by decide +kernel
theorem dX8_keyOf_136 : decode cX8_keyOf 136 = .ok (.iadd, 1) := by decide +kernel
theorem dX8_keyOf_137 : decode cX8_keyOf 137 = .ok (.istore 4, 2) := by decide +kernel
theorem dX8_keyOf_139 : decode cX8_keyOf 139 = .ok (.iload 4, 2) := by decide +kernel
theorem dX8_keyOf_141 : decode cX8_keyOf 141 = .ok (.sipush 128, 3) := by decide +kernel
theorem dX8_keyOf_144 : decode cX8_keyOf 144 = .ok (.imul, 1) := by decide +kernel
theorem dX8_keyOf_145 : decode cX8_keyOf 145 = .ok (.iload_n 3, 1) := by decide +kernel
theorem dX8_keyOf_146 : decode cX8_keyOf 146 = .ok (.iconst 5, 1) := by decide +kernel
theorem dX8_keyOf_147 : decode cX8_keyOf 147 = .ok (.ishr, 1) := by decide +kernel
theorem dX8_keyOf_148 : decode cX8_keyOf 148 = .ok (.iconst 1, 1) := by decide +kernel
theorem dX8_keyOf_149 : decode cX8_keyOf 149 = .ok (.iand, 1) := by decide +kernel
theorem dX8_keyOf_150 : decode cX8_keyOf 150 = .ok (.ifCond .eq 9, 3) := by decide +kernel
theorem dX8_keyOf_153 : decode cX8_keyOf 153 = .ok (.aload_n 2, 1) := by decide +kernel
theorem dX8_keyOf_154 : decode cX8_keyOf 154 = .ok (.iconst 5, 1) := by decide +kernel
theorem dX8_keyOf_155 : decode cX8_keyOf 155 = .ok (.iaload, 1) := by decide +kernel
theorem dX8_keyOf_156 : decode cX8_keyOf 156 = .ok (.goto 4, 3) := by decide +kernel
theorem dX8_keyOf_159 : decode cX8_keyOf 159 = .ok (.iconst 0, 1) := by decide +kernel
theorem dX8_keyOf_160 : decode cX8_keyOf 160 = .ok (.iadd, 1) := by decide +kernel
theorem dX8_keyOf_161 : decode cX8_keyOf 161 = .ok (.ireturn, 1) := by decide +kernel
set_option maxRecDepth 20000 in
theorem T_X8_keyOf {Q : Option Value → ah_T → Prop} {h : ah_T} (hs : Sh h) (x1 : Int32) (ht : ((ah_r h 38 3 = none → False) ∧ (∀ b2, ah_r h 38 3 = some b2 → (ah_k h b2 = 9) ∧ (∃ b4, ah_r h b2 3 = some b4 ∧ ah_k h b4 = 14 ∧ (vp_in x1 (ah_n h b4)) ∧ (((((ah_i h b4 (Int32.toNatClampNeg x1)) >>> (0 &&& 31)) &&& 1) = 0 → (((((ah_i h b4 (Int32.toNatClampNeg x1)) >>> (1 &&& 31)) &&& 1) = 0 → (((((ah_i h b4 (Int32.toNatClampNeg x1)) >>> (2 &&& 31)) &&& 1) = 0 → (((((ah_i h b4 (Int32.toNatClampNeg x1)) >>> (3 &&& 31)) &&& 1) = 0 → (((((ah_i h b4 (Int32.toNatClampNeg x1)) >>> (4 &&& 31)) &&& 1) = 0 → (((((ah_i h b4 (Int32.toNatClampNeg x1)) >>> (5 &&& 31)) &&& 1) = 0 → Q (some (.int ((((((((((((x1 * 12) + 0) * 8) + 0) * 8) + 0) * 16) + 0) * 4) + 0) * 128) + 0))) h) ∧ (¬ (((ah_i h b4 (Int32.toNatClampNeg x1)) >>> (5 &&& 31)) &&& 1) = 0 → Q (some (.int ((((((((((((x1 * 12) + 0) * 8) + 0) * 8) + 0) * 16) + 0) * 4) + 0) * 128) + (ah_i h 27 (Int32.toNatClampNeg 5))))) h))) ∧ (¬ (((ah_i h b4 (Int32.toNatClampNeg x1)) >>> (4 &&& 31)) &&& 1) = 0 → (((((ah_i h b4 (Int32.toNatClampNeg x1)) >>> (5 &&& 31)) &&& 1) = 0 → Q (some (.int ((((((((((((x1 * 12) + 0) * 8) + 0) * 8) + 0) * 16) + 0) * 4) + ((ah_i h 27 (Int32.toNatClampNeg 4)) + 1)) * 128) + 0))) h) ∧ (¬ (((ah_i h b4 (Int32.toNatClampNeg x1)) >>> (5 &&& 31)) &&& 1) = 0 → Q (some (.int ((((((((((((x1 * 12) + 0) * 8) + 0) * 8) + 0) * 16) + 0) * 4) + ((ah_i h 27 (Int32.toNatClampNeg 4)) + 1)) * 128) + (ah_i h 27 (Int32.toNatClampNeg 5))))) h))))) ∧ (¬ (((ah_i h b4 (Int32.toNatClampNeg x1)) >>> (3 &&& 31)) &&& 1) = 0 → (((((ah_i h b4 (Int32.toNatClampNeg x1)) >>> (4 &&& 31)) &&& 1) = 0 → (((((ah_i h b4 (Int32.toNatClampNeg x1)) >>> (5 &&& 31)) &&& 1) = 0 → Q (some (.int ((((((((((((x1 * 12) + 0) * 8) + 0) * 8) + 0) * 16) + ((ah_i h 27 (Int32.toNatClampNeg 3)) + 1)) * 4) + 0) * 128) + 0))) h) ∧ (¬ (((ah_i h b4 (Int32.toNatClampNeg x1)) >>> (5 &&& 31)) &&& 1) = 0 → Q (some (.int ((((((((((((x1 * 12) + 0) * 8) + 0) * 8) + 0) * 16) + ((ah_i h 27 (Int32.toNatClampNeg 3)) + 1)) * 4) + 0) * 128) + (ah_i h 27 (Int32.toNatClampNeg 5))))) h))) ∧ (¬ (((ah_i h b4 (Int32.toNatClampNeg x1)) >>> (4 &&& 31)) &&& 1) = 0 → (((((ah_i h b4 (Int32.toNatClampNeg x1)) >>> (5 &&& 31)) &&& 1) = 0 → Q (some (.int ((((((((((((x1 * 12) + 0) * 8) + 0) * 8) + 0) * 16) + ((ah_i h 27 (Int32.toNatClampNeg 3)) + 1)) * 4) + ((ah_i h 27 (Int32.toNatClampNeg 4)) + 1)) * 128) + 0))) h) ∧ (¬ (((ah_i h b4 (Int32.toNatClampNeg x1)) >>> (5 &&& 31)) &&& 1) = 0 → Q (some (.int ((((((((((((x1 * 12) + 0) * 8) + 0) * 8) + 0) * 16) + ((ah_i h 27 (Int32.toNatClampNeg 3)) + 1)) * 4) + ((ah_i h 27 (Int32.toNatClampNeg 4)) + 1)) * 128) + (ah_i h 27 (Int32.toNatClampNeg 5))))) h))))))) ∧ (¬ (((ah_i h b4 (Int32.toNatClampNeg x1)) >>> (2 &&& 31)) &&& 1) = 0 → (((((ah_i h b4 (Int32.toNatClampNeg x1)) >>> (3 &&& 31)) &&& 1) = 0 → (((((ah_i h b4 (Int32.toNatClampNeg x1)) >>> (4 &&& 31)) &&& 1) = 0 → (((((ah_i h b4 (Int32.toNatClampNeg x1)) >>> (5 &&& 31)) &&& 1) = 0 → Q (some (.int ((((((((((((x1 * 12) + 0) * 8) + 0) * 8) + ((ah_i h 27 (Int32.toNatClampNeg 2)) + 1)) * 16) + 0) * 4) + 0) * 128) + 0))) h) ∧ (¬ (((ah_i h b4 (Int32.toNatClampNeg x1)) >>> (5 &&& 31)) &&& 1) = 0 → Q (some (.int ((((((((((((x1 * 12) + 0) * 8) + 0) * 8) + ((ah_i h 27 (Int32.toNatClampNeg 2)) + 1)) * 16) + 0) * 4) + 0) * 128) + (ah_i h 27 (Int32.toNatClampNeg 5))))) h))) ∧ (¬ (((ah_i h b4 (Int32.toNatClampNeg x1)) >>> (4 &&& 31)) &&& 1) = 0 → (((((ah_i h b4 (Int32.toNatClampNeg x1)) >>> (5 &&& 31)) &&& 1) = 0 → Q (some (.int ((((((((((((x1 * 12) + 0) * 8) + 0) * 8) + ((ah_i h 27 (Int32.toNatClampNeg 2)) + 1)) * 16) + 0) * 4) + ((ah_i h 27 (Int32.toNatClampNeg 4)) + 1)) * 128) + 0))) h) ∧ (¬ (((ah_i h b4 (Int32.toNatClampNeg x1)) >>> (5 &&& 31)) &&& 1) = 0 → Q (some (.int ((((((((((((x1 * 12) + 0) * 8) + 0) * 8) + ((ah_i h 27 (Int32.toNatClampNeg 2)) + 1)) * 16) + 0) * 4) + ((ah_i h 27 (Int32.toNatClampNeg 4)) + 1)) * 128) + (ah_i h 27 (Int32.toNatClampNeg 5))))) h))))) ∧ (¬ (((ah_i h b4 (Int32.toNatClampNeg x1)) >>> (3 &&& 31)) &&& 1) = 0 → (((((ah_i h b4 (Int32.toNatClampNeg x1)) >>> (4 &&& 31)) &&& 1) = 0 → (((((ah_i h b4 (Int32.toNatClampNeg x1)) >>> (5 &&& 31)) &&& 1) = 0 → Q (some (.int ((((((((((((x1 * 12) + 0) * 8) + 0) * 8) + ((ah_i h 27 (Int32.toNatClampNeg 2)) + 1)) * 16) + ((ah_i h 27 (Int32.toNatClampNeg 3)) + 1)) * 4) + 0) * 128) + 0))) h) ∧ (¬ (((ah_i h b4 (Int32.toNatClampNeg x1)) >>> (5 &&& 31)) &&& 1) = 0 → Q (some (.int ((((((((((((x1 * 12) + 0) * 8) + 0) * 8) + ((ah_i h 27 (Int32.toNatClampNeg 2)) + 1)) * 16) + ((ah_i h 27 (Int32.toNatClampNeg 3)) + 1)) * 4) + 0) * 128) + (ah_i h 27 (Int32.toNatClampNeg 5))))) h))) ∧ (¬ (((ah_i h b4 (Int32.toNatClampNeg x1)) >>> (4 &&& 31)) &&& 1) = 0 → (((((ah_i h b4 (Int32.toNatClampNeg x1)) >>> (5 &&& 31)) &&& 1) = 0 → Q (some (.int ((((((((((((x1 * 12) + 0) * 8) + 0) * 8) + ((ah_i h 27 (Int32.toNatClampNeg 2)) + 1)) * 16) + ((ah_i h 27 (Int32.toNatClampNeg 3)) + 1)) * 4) + ((ah_i h 27 (Int32.toNatClampNeg 4)) + 1)) * 128) + 0))) h) ∧ (¬ (((ah_i h b4 (Int32.toNatClampNeg x1)) >>> (5 &&& 31)) &&& 1) = 0 → Q (some (.int ((((((((((((x1 * 12) + 0) * 8) + 0) * 8) + ((ah_i h 27 (Int32.toNatClampNeg 2)) + 1)) * 16) + ((ah_i h 27 (Int32.toNatClampNeg 3)) + 1)) * 4) + ((ah_i h 27 (Int32.toNatClampNeg 4)) + 1)) * 128) + (ah_i h 27 (Int32.toNatClampNeg 5))))) h))))))))) ∧ (¬ (((ah_i h b4 (Int32.toNatClampNeg x1)) >>> (1 &&& 31)) &&& 1) = 0 → (((((ah_i h b4 (Int32.toNatClampNeg x1)) >>> (2 &&& 31)) &&& 1) = 0 → (((((ah_i h b4 (Int32.toNatClampNeg x1)) >>> (3 &&& 31)) &&& 1) = 0 → (((((ah_i h b4 (Int32.toNatClampNeg x1)) >>> (4 &&& 31)) &&& 1) = 0 → (((((ah_i h b4 (Int32.toNatClampNeg x1)) >>> (5 &&& 31)) &&& 1) = 0 → Q (some (.int ((((((((((((x1 * 12) + 0) * 8) + (ah_i h 27 (Int32.toNatClampNeg 1))) * 8) + 0) * 16) + 0) * 4) + 0) * 128) + 0))) h) ∧ (¬ (((ah_i h b4 (Int32.toNatClampNeg x1)) >>> (5 &&& 31)) &&& 1) = 0 → Q (some (.int ((((((((((((x1 * 12) + 0) * 8) + (ah_i h 27 (Int32.toNatClampNeg 1))) * 8) + 0) * 16) + 0) * 4) + 0) * 128) + (ah_i h 27 (Int32.toNatClampNeg 5))))) h))) ∧ (¬ (((ah_i h b4 (Int32.toNatClampNeg x1)) >>> (4 &&& 31)) &&& 1) = 0 → (((((ah_i h b4 (Int32.toNatClampNeg x1)) >>> (5 &&& 31)) &&& 1) = 0 → Q (some (.int ((((((((((((x1 * 12) + 0) * 8) + (ah_i h 27 (Int32.toNatClampNeg 1))) * 8) + 0) * 16) + 0) * 4) + ((ah_i h 27 (Int32.toNatClampNeg 4)) + 1)) * 128) + 0))) h) ∧ (¬ (((ah_i h b4 (Int32.toNatClampNeg x1)) >>> (5 &&& 31)) &&& 1) = 0 → Q (some (.int ((((((((((((x1 * 12) + 0) * 8) + (ah_i h 27 (Int32.toNatClampNeg 1))) * 8) + 0) * 16) + 0) * 4) + ((ah_i h 27 (Int32.toNatClampNeg 4)) + 1)) * 128) + (ah_i h 27 (Int32.toNatClampNeg 5))))) h))))) ∧ (¬ (((ah_i h b4 (Int32.toNatClampNeg x1)) >>> (3 &&& 31)) &&& 1) = 0 → (((((ah_i h b4 (Int32.toNatClampNeg x1)) >>> (4 &&& 31)) &&& 1) = 0 → (((((ah_i h b4 (Int32.toNatClampNeg x1)) >>> (5 &&& 31)) &&& 1) = 0 → Q (some (.int ((((((((((((x1 * 12) + 0) * 8) + (ah_i h 27 (Int32.toNatClampNeg 1))) * 8) + 0) * 16) + ((ah_i h 27 (Int32.toNatClampNeg 3)) + 1)) * 4) + 0) * 128) + 0))) h) ∧ (¬ (((ah_i h b4 (Int32.toNatClampNeg x1)) >>> (5 &&& 31)) &&& 1) = 0 → Q (some (.int ((((((((((((x1 * 12) + 0) * 8) + (ah_i h 27 (Int32.toNatClampNeg 1))) * 8) + 0) * 16) + ((ah_i h 27 (Int32.toNatClampNeg 3)) + 1)) * 4) + 0) * 128) + (ah_i h 27 (Int32.toNatClampNeg 5))))) h))) ∧ (¬ (((ah_i h b4 (Int32.toNatClampNeg x1)) >>> (4 &&& 31)) &&& 1) = 0 → (((((ah_i h b4 (Int32.toNatClampNeg x1)) >>> (5 &&& 31)) &&& 1) = 0 → Q (some (.int ((((((((((((x1 * 12) + 0) * 8) + (ah_i h 27 (Int32.toNatClampNeg 1))) * 8) + 0) * 16) + ((ah_i h 27 (Int32.toNatClampNeg 3)) + 1)) * 4) + ((ah_i h 27 (Int32.toNatClampNeg 4)) + 1)) * 128) + 0))) h) ∧ (¬ (((ah_i h b4 (Int32.toNatClampNeg x1)) >>> (5 &&& 31)) &&& 1) = 0 → Q (some (.int ((((((((((((x1 * 12) + 0) * 8) + (ah_i h 27 (Int32.toNatClampNeg 1))) * 8) + 0) * 16) + ((ah_i h 27 (Int32.toNatClampNeg 3)) + 1)) * 4) + ((ah_i h 27 (Int32.toNatClampNeg 4)) + 1)) * 128) + (ah_i h 27 (Int32.toNatClampNeg 5))))) h))))))) ∧ (¬ (((ah_i h b4 (Int32.toNatClampNeg x1)) >>> (2 &&& 31)) &&& 1) = 0 → (((((ah_i h b4 (Int32.toNatClampNeg x1)) >>> (3 &&& 31)) &&& 1) = 0 → (((((ah_i h b4 (Int32.toNatClampNeg x1)) >>> (4 &&& 31)) &&& 1) = 0 → (((((ah_i h b4 (Int32.toNatClampNeg x1)) >>> (5 &&& 31)) &&& 1) = 0 → Q (some (.int ((((((((((((x1 * 12) + 0) * 8) + (ah_i h 27 (Int32.toNatClampNeg 1))) * 8) + ((ah_i h 27 (Int32.toNatClampNeg 2)) + 1)) * 16) + 0) * 4) + 0) * 128) + 0))) h) ∧ (¬ (((ah_i h b4 (Int32.toNatClampNeg x1)) >>> (5 &&& 31)) &&& 1) = 0 → Q (some (.int ((((((((((((x1 * 12) + 0) * 8) + (ah_i h 27 (Int32.toNatClampNeg 1))) * 8) + ((ah_i h 27 (Int32.toNatClampNeg 2)) + 1)) * 16) + 0) * 4) + 0) * 128) + (ah_i h 27 (Int32.toNatClampNeg 5))))) h))) ∧ (¬ (((ah_i h b4 (Int32.toNatClampNeg x1)) >>> (4 &&& 31)) &&& 1) = 0 → (((((ah_i h b4 (Int32.toNatClampNeg x1)) >>> (5 &&& 31)) &&& 1) = 0 → Q (some (.int ((((((((((((x1 * 12) + 0) * 8) + (ah_i h 27 (Int32.toNatClampNeg 1))) * 8) + ((ah_i h 27 (Int32.toNatClampNeg 2)) + 1)) * 16) + 0) * 4) + ((ah_i h 27 (Int32.toNatClampNeg 4)) + 1)) * 128) + 0))) h) ∧ (¬ (((ah_i h b4 (Int32.toNatClampNeg x1)) >>> (5 &&& 31)) &&& 1) = 0 → Q (some (.int ((((((((((((x1 * 12) + 0) * 8) + (ah_i h 27 (Int32.toNatClampNeg 1))) * 8) + ((ah_i h 27 (Int32.toNatClampNeg 2)) + 1)) * 16) + 0) * 4) + ((ah_i h 27 (Int32.toNatClampNeg 4)) + 1)) * 128) + (ah_i h 27 (Int32.toNatClampNeg 5))))) h))))) ∧ (¬ (((ah_i h b4 (Int32.toNatClampNeg x1)) >>> (3 &&& 31)) &&& 1) = 0 → (((((ah_i h b4 (Int32.toNatClampNeg x1)) >>> (4 &&& 31)) &&& 1) = 0 → (((((ah_i h b4 (Int32.toNatClampNeg x1)) >>> (5 &&& 31)) &&& 1) = 0 → Q (some (.int ((((((((((((x1 * 12) + 0) * 8) + (ah_i h 27 (Int32.toNatClampNeg 1))) * 8) + ((ah_i h 27 (Int32.toNatClampNeg 2)) + 1)) * 16) + ((ah_i h 27 (Int32.toNatClampNeg 3)) + 1)) * 4) + 0) * 128) + 0))) h) ∧ (¬ (((ah_i h b4 (Int32.toNatClampNeg x1)) >>> (5 &&& 31)) &&& 1) = 0 → Q (some (.int ((((((((((((x1 * 12) + 0) * 8) + (ah_i h 27 (Int32.toNatClampNeg 1))) * 8) + ((ah_i h 27 (Int32.toNatClampNeg 2)) + 1)) * 16) + ((ah_i h 27 (Int32.toNatClampNeg 3)) + 1)) * 4) + 0) * 128) + (ah_i h 27 (Int32.toNatClampNeg 5))))) h))) ∧ (¬ (((ah_i h b4 (Int32.toNatClampNeg x1)) >>> (4 &&& 31)) &&& 1) = 0 → (((((ah_i h b4 (Int32.toNatClampNeg x1)) >>> (5 &&& 31)) &&& 1) = 0 → Q (some (.int ((((((((((((x1 * 12) + 0) * 8) + (ah_i h 27 (Int32.toNatClampNeg 1))) * 8) + ((ah_i h 27 (Int32.toNatClampNeg 2)) + 1)) * 16) + ((ah_i h 27 (Int32.toNatClampNeg 3)) + 1)) * 4) + ((ah_i h 27 (Int32.toNatClampNeg 4)) + 1)) * 128) + 0))) h) ∧ (¬ (((ah_i h b4 (Int32.toNatClampNeg x1)) >>> (5 &&& 31)) &&& 1) = 0 → Q (some (.int ((((((((((((x1 * 12) + 0) * 8) + (ah_i h 27 (Int32.toNatClampNeg 1))) * 8) + ((ah_i h 27 (Int32.toNatClampNeg 2)) + 1)) * 16) + ((ah_i h 27 (Int32.toNatClampNeg 3)) + 1)) * 4) + ((ah_i h 27 (Int32.toNatClampNeg 4)) + 1)) * 128) + (ah_i h 27 (Int32.toNatClampNeg 5))))) h))))))))))) ∧ (¬ (((ah_i h b4 (Int32.toNatClampNeg x1)) >>> (0 &&& 31)) &&& 1) = 0 → (((((ah_i h b4 (Int32.toNatClampNeg x1)) >>> (1 &&& 31)) &&& 1) = 0 → (((((ah_i h b4 (Int32.toNatClampNeg x1)) >>> (2 &&& 31)) &&& 1) = 0 → (((((ah_i h b4 (Int32.toNatClampNeg x1)) >>> (3 &&& 31)) &&& 1) = 0 → (((((ah_i h b4 (Int32.toNatClampNeg x1)) >>> (4 &&& 31)) &&& 1) = 0 → (((((ah_i h b4 (Int32.toNatClampNeg x1)) >>> (5 &&& 31)) &&& 1) = 0 → Q (some (.int ((((((((((((x1 * 12) + ((ah_i h 27 (Int32.toNatClampNeg 0)) + 1)) * 8) + 0) * 8) + 0) * 16) + 0) * 4) + 0) * 128) + 0))) h) ∧ (¬ (((ah_i h b4 (Int32.toNatClampNeg x1)) >>> (5 &&& 31)) &&& 1) = 0 → Q (some (.int ((((((((((((x1 * 12) + ((ah_i h 27 (Int32.toNatClampNeg 0)) + 1)) * 8) + 0) * 8) + 0) * 16) + 0) * 4) + 0) * 128) + (ah_i h 27 (Int32.toNatClampNeg 5))))) h))) ∧ (¬ (((ah_i h b4 (Int32.toNatClampNeg x1)) >>> (4 &&& 31)) &&& 1) = 0 → (((((ah_i h b4 (Int32.toNatClampNeg x1)) >>> (5 &&& 31)) &&& 1) = 0 → Q (some (.int ((((((((((((x1 * 12) + ((ah_i h 27 (Int32.toNatClampNeg 0)) + 1)) * 8) + 0) * 8) + 0) * 16) + 0) * 4) + ((ah_i h 27 (Int32.toNatClampNeg 4)) + 1)) * 128) + 0))) h) ∧ (¬ (((ah_i h b4 (Int32.toNatClampNeg x1)) >>> (5 &&& 31)) &&& 1) = 0 → Q (some (.int ((((((((((((x1 * 12) + ((ah_i h 27 (Int32.toNatClampNeg 0)) + 1)) * 8) + 0) * 8) + 0) * 16) + 0) * 4) + ((ah_i h 27 (Int32.toNatClampNeg 4)) + 1)) * 128) + (ah_i h 27 (Int32.toNatClampNeg 5))))) h))))) ∧ (¬ (((ah_i h b4 (Int32.toNatClampNeg x1)) >>> (3 &&& 31)) &&& 1) = 0 → (((((ah_i h b4 (Int32.toNatClampNeg x1)) >>> (4 &&& 31)) &&& 1) = 0 → (((((ah_i h b4 (Int32.toNatClampNeg x1)) >>> (5 &&& 31)) &&& 1) = 0 → Q (some (.int ((((((((((((x1 * 12) + ((ah_i h 27 (Int32.toNatClampNeg 0)) + 1)) * 8) + 0) * 8) + 0) * 16) + ((ah_i h 27 (Int32.toNatClampNeg 3)) + 1)) * 4) + 0) * 128) + 0))) h) ∧ (¬ (((ah_i h b4 (Int32.toNatClampNeg x1)) >>> (5 &&& 31)) &&& 1) = 0 → Q (some (.int ((((((((((((x1 * 12) + ((ah_i h 27 (Int32.toNatClampNeg 0)) + 1)) * 8) + 0) * 8) + 0) * 16) + ((ah_i h 27 (Int32.toNatClampNeg 3)) + 1)) * 4) + 0) * 128) + (ah_i h 27 (Int32.toNatClampNeg 5))))) h))) ∧ (¬ (((ah_i h b4 (Int32.toNatClampNeg x1)) >>> (4 &&& 31)) &&& 1) = 0 → (((((ah_i h b4 (Int32.toNatClampNeg x1)) >>> (5 &&& 31)) &&& 1) = 0 → Q (some (.int ((((((((((((x1 * 12) + ((ah_i h 27 (Int32.toNatClampNeg 0)) + 1)) * 8) + 0) * 8) + 0) * 16) + ((ah_i h 27 (Int32.toNatClampNeg 3)) + 1)) * 4) + ((ah_i h 27 (Int32.toNatClampNeg 4)) + 1)) * 128) + 0))) h) ∧ (¬ (((ah_i h b4 (Int32.toNatClampNeg x1)) >>> (5 &&& 31)) &&& 1) = 0 → Q (some (.int ((((((((((((x1 * 12) + ((ah_i h 27 (Int32.toNatClampNeg 0)) + 1)) * 8) + 0) * 8) + 0) * 16) + ((ah_i h 27 (Int32.toNatClampNeg 3)) + 1)) * 4) + ((ah_i h 27 (Int32.toNatClampNeg 4)) + 1)) * 128) + (ah_i h 27 (Int32.toNatClampNeg 5))))) h))))))) ∧ (¬ (((ah_i h b4 (Int32.toNatClampNeg x1)) >>> (2 &&& 31)) &&& 1) = 0 → (((((ah_i h b4 (Int32.toNatClampNeg x1)) >>> (3 &&& 31)) &&& 1) = 0 → (((((ah_i h b4 (Int32.toNatClampNeg x1)) >>> (4 &&& 31)) &&& 1) = 0 → (((((ah_i h b4 (Int32.toNatClampNeg x1)) >>> (5 &&& 31)) &&& 1) = 0 → Q (some (.int ((((((((((((x1 * 12) + ((ah_i h 27 (Int32.toNatClampNeg 0)) + 1)) * 8) + 0) * 8) + ((ah_i h 27 (Int32.toNatClampNeg 2)) + 1)) * 16) + 0) * 4) + 0) * 128) + 0))) h) ∧ (¬ (((ah_i h b4 (Int32.toNatClampNeg x1)) >>> (5 &&& 31)) &&& 1) = 0 → Q (some (.int ((((((((((((x1 * 12) + ((ah_i h 27 (Int32.toNatClampNeg 0)) + 1)) * 8) + 0) * 8) + ((ah_i h 27 (Int32.toNatClampNeg 2)) + 1)) * 16) + 0) * 4) + 0) * 128) + (ah_i h 27 (Int32.toNatClampNeg 5))))) h))) ∧ (¬ (((ah_i h b4 (Int32.toNatClampNeg x1)) >>> (4 &&& 31)) &&& 1) = 0 → (((((ah_i h b4 (Int32.toNatClampNeg x1)) >>> (5 &&& 31)) &&& 1) = 0 → Q (some (.int ((((((((((((x1 * 12) + ((ah_i h 27 (Int32.toNatClampNeg 0)) + 1)) * 8) + 0) * 8) + ((ah_i h 27 (Int32.toNatClampNeg 2)) + 1)) * 16) + 0) * 4) + ((ah_i h 27 (Int32.toNatClampNeg 4)) + 1)) * 128) + 0))) h) ∧ (¬ (((ah_i h b4 (Int32.toNatClampNeg x1)) >>> (5 &&& 31)) &&& 1) = 0 → Q (some (.int ((((((((((((x1 * 12) + ((ah_i h 27 (Int32.toNatClampNeg 0)) + 1)) * 8) + 0) * 8) + ((ah_i h 27 (Int32.toNatClampNeg 2)) + 1)) * 16) + 0) * 4) + ((ah_i h 27 (Int32.toNatClampNeg 4)) + 1)) * 128) + (ah_i h 27 (Int32.toNatClampNeg 5))))) h))))) ∧ (¬ (((ah_i h b4 (Int32.toNatClampNeg x1)) >>> (3 &&& 31)) &&& 1) = 0 → (((((ah_i h b4 (Int32.toNatClampNeg x1)) >>> (4 &&& 31)) &&& 1) = 0 → (((((ah_i h b4 (Int32.toNatClampNeg x1)) >>> (5 &&& 31)) &&& 1) = 0 → Q (some (.int ((((((((((((x1 * 12) + ((ah_i h 27 (Int32.toNatClampNeg 0)) + 1)) * 8) + 0) * 8) + ((ah_i h 27 (Int32.toNatClampNeg 2)) + 1)) * 16) + ((ah_i h 27 (Int32.toNatClampNeg 3)) + 1)) * 4) + 0) * 128) + 0))) h) ∧ (¬ (((ah_i h b4 (Int32.toNatClampNeg x1)) >>> (5 &&& 31)) &&& 1) = 0 → Q (some (.int ((((((((((((x1 * 12) + ((ah_i h 27 (Int32.toNatClampNeg 0)) + 1)) * 8) + 0) * 8) + ((ah_i h 27 (Int32.toNatClampNeg 2)) + 1)) * 16) + ((ah_i h 27 (Int32.toNatClampNeg 3)) + 1)) * 4) + 0) * 128) + (ah_i h 27 (Int32.toNatClampNeg 5))))) h))) ∧ (¬ (((ah_i h b4 (Int32.toNatClampNeg x1)) >>> (4 &&& 31)) &&& 1) = 0 → (((((ah_i h b4 (Int32.toNatClampNeg x1)) >>> (5 &&& 31)) &&& 1) = 0 → Q (some (.int ((((((((((((x1 * 12) + ((ah_i h 27 (Int32.toNatClampNeg 0)) + 1)) * 8) + 0) * 8) + ((ah_i h 27 (Int32.toNatClampNeg 2)) + 1)) * 16) + ((ah_i h 27 (Int32.toNatClampNeg 3)) + 1)) * 4) + ((ah_i h 27 (Int32.toNatClampNeg 4)) + 1)) * 128) + 0))) h) ∧ (¬ (((ah_i h b4 (Int32.toNatClampNeg x1)) >>> (5 &&& 31)) &&& 1) = 0 → Q (some (.int ((((((((((((x1 * 12) + ((ah_i h 27 (Int32.toNatClampNeg 0)) + 1)) * 8) + 0) * 8) + ((ah_i h 27 (Int32.toNatClampNeg 2)) + 1)) * 16) + ((ah_i h 27 (Int32.toNatClampNeg 3)) + 1)) * 4) + ((ah_i h 27 (Int32.toNatClampNeg 4)) + 1)) * 128) + (ah_i h 27 (Int32.toNatClampNeg 5))))) h))))))))) ∧ (¬ (((ah_i h b4 (Int32.toNatClampNeg x1)) >>> (1 &&& 31)) &&& 1) = 0 → (((((ah_i h b4 (Int32.toNatClampNeg x1)) >>> (2 &&& 31)) &&& 1) = 0 → (((((ah_i h b4 (Int32.toNatClampNeg x1)) >>> (3 &&& 31)) &&& 1) = 0 → (((((ah_i h b4 (Int32.toNatClampNeg x1)) >>> (4 &&& 31)) &&& 1) = 0 → (((((ah_i h b4 (Int32.toNatClampNeg x1)) >>> (5 &&& 31)) &&& 1) = 0 → Q (some (.int ((((((((((((x1 * 12) + ((ah_i h 27 (Int32.toNatClampNeg 0)) + 1)) * 8) + (ah_i h 27 (Int32.toNatClampNeg 1))) * 8) + 0) * 16) + 0) * 4) + 0) * 128) + 0))) h) ∧ (¬ (((ah_i h b4 (Int32.toNatClampNeg x1)) >>> (5 &&& 31)) &&& 1) = 0 → Q (some (.int ((((((((((((x1 * 12) + ((ah_i h 27 (Int32.toNatClampNeg 0)) + 1)) * 8) + (ah_i h 27 (Int32.toNatClampNeg 1))) * 8) + 0) * 16) + 0) * 4) + 0) * 128) + (ah_i h 27 (Int32.toNatClampNeg 5))))) h))) ∧ (¬ (((ah_i h b4 (Int32.toNatClampNeg x1)) >>> (4 &&& 31)) &&& 1) = 0 → (((((ah_i h b4 (Int32.toNatClampNeg x1)) >>> (5 &&& 31)) &&& 1) = 0 → Q (some (.int ((((((((((((x1 * 12) + ((ah_i h 27 (Int32.toNatClampNeg 0)) + 1)) * 8) + (ah_i h 27 (Int32.toNatClampNeg 1))) * 8) + 0) * 16) + 0) * 4) + ((ah_i h 27 (Int32.toNatClampNeg 4)) + 1)) * 128) + 0))) h) ∧ (¬ (((ah_i h b4 (Int32.toNatClampNeg x1)) >>> (5 &&& 31)) &&& 1) = 0 → Q (some (.int ((((((((((((x1 * 12) + ((ah_i h 27 (Int32.toNatClampNeg 0)) + 1)) * 8) + (ah_i h 27 (Int32.toNatClampNeg 1))) * 8) + 0) * 16) + 0) * 4) + ((ah_i h 27 (Int32.toNatClampNeg 4)) + 1)) * 128) + (ah_i h 27 (Int32.toNatClampNeg 5))))) h))))) ∧ (¬ (((ah_i h b4 (Int32.toNatClampNeg x1)) >>> (3 &&& 31)) &&& 1) = 0 → (((((ah_i h b4 (Int32.toNatClampNeg x1)) >>> (4 &&& 31)) &&& 1) = 0 → (((((ah_i h b4 (Int32.toNatClampNeg x1)) >>> (5 &&& 31)) &&& 1) = 0 → Q (some (.int ((((((((((((x1 * 12) + ((ah_i h 27 (Int32.toNatClampNeg 0)) + 1)) * 8) + (ah_i h 27 (Int32.toNatClampNeg 1))) * 8) + 0) * 16) + ((ah_i h 27 (Int32.toNatClampNeg 3)) + 1)) * 4) + 0) * 128) + 0))) h) ∧ (¬ (((ah_i h b4 (Int32.toNatClampNeg x1)) >>> (5 &&& 31)) &&& 1) = 0 → Q (some (.int ((((((((((((x1 * 12) + ((ah_i h 27 (Int32.toNatClampNeg 0)) + 1)) * 8) + (ah_i h 27 (Int32.toNatClampNeg 1))) * 8) + 0) * 16) + ((ah_i h 27 (Int32.toNatClampNeg 3)) + 1)) * 4) + 0) * 128) + (ah_i h 27 (Int32.toNatClampNeg 5))))) h))) ∧ (¬ (((ah_i h b4 (Int32.toNatClampNeg x1)) >>> (4 &&& 31)) &&& 1) = 0 → (((((ah_i h b4 (Int32.toNatClampNeg x1)) >>> (5 &&& 31)) &&& 1) = 0 → Q (some (.int ((((((((((((x1 * 12) + ((ah_i h 27 (Int32.toNatClampNeg 0)) + 1)) * 8) + (ah_i h 27 (Int32.toNatClampNeg 1))) * 8) + 0) * 16) + ((ah_i h 27 (Int32.toNatClampNeg 3)) + 1)) * 4) + ((ah_i h 27 (Int32.toNatClampNeg 4)) + 1)) * 128) + 0))) h) ∧ (¬ (((ah_i h b4 (Int32.toNatClampNeg x1)) >>> (5 &&& 31)) &&& 1) = 0 → Q (some (.int ((((((((((((x1 * 12) + ((ah_i h 27 (Int32.toNatClampNeg 0)) + 1)) * 8) + (ah_i h 27 (Int32.toNatClampNeg 1))) * 8) + 0) * 16) + ((ah_i h 27 (Int32.toNatClampNeg 3)) + 1)) * 4) + ((ah_i h 27 (Int32.toNatClampNeg 4)) + 1)) * 128) + (ah_i h 27 (Int32.toNatClampNeg 5))))) h))))))) ∧ (¬ (((ah_i h b4 (Int32.toNatClampNeg x1)) >>> (2 &&& 31)) &&& 1) = 0 → (((((ah_i h b4 (Int32.toNatClampNeg x1)) >>> (3 &&& 31)) &&& 1) = 0 → (((((ah_i h b4 (Int32.toNatClampNeg x1)) >>> (4 &&& 31)) &&& 1) = 0 → (((((ah_i h b4 (Int32.toNatClampNeg x1)) >>> (5 &&& 31)) &&& 1) = 0 → Q (some (.int ((((((((((((x1 * 12) + ((ah_i h 27 (Int32.toNatClampNeg 0)) + 1)) * 8) + (ah_i h 27 (Int32.toNatClampNeg 1))) * 8) + ((ah_i h 27 (Int32.toNatClampNeg 2)) + 1)) * 16) + 0) * 4) + 0) * 128) + 0))) h) ∧ (¬ (((ah_i h b4 (Int32.toNatClampNeg x1)) >>> (5 &&& 31)) &&& 1) = 0 → Q (some (.int ((((((((((((x1 * 12) + ((ah_i h 27 (Int32.toNatClampNeg 0)) + 1)) * 8) + (ah_i h 27 (Int32.toNatClampNeg 1))) * 8) + ((ah_i h 27 (Int32.toNatClampNeg 2)) + 1)) * 16) + 0) * 4) + 0) * 128) + (ah_i h 27 (Int32.toNatClampNeg 5))))) h))) ∧ (¬ (((ah_i h b4 (Int32.toNatClampNeg x1)) >>> (4 &&& 31)) &&& 1) = 0 → (((((ah_i h b4 (Int32.toNatClampNeg x1)) >>> (5 &&& 31)) &&& 1) = 0 → Q (some (.int ((((((((((((x1 * 12) + ((ah_i h 27 (Int32.toNatClampNeg 0)) + 1)) * 8) + (ah_i h 27 (Int32.toNatClampNeg 1))) * 8) + ((ah_i h 27 (Int32.toNatClampNeg 2)) + 1)) * 16) + 0) * 4) + ((ah_i h 27 (Int32.toNatClampNeg 4)) + 1)) * 128) + 0))) h) ∧ (¬ (((ah_i h b4 (Int32.toNatClampNeg x1)) >>> (5 &&& 31)) &&& 1) = 0 → Q (some (.int ((((((((((((x1 * 12) + ((ah_i h 27 (Int32.toNatClampNeg 0)) + 1)) * 8) + (ah_i h 27 (Int32.toNatClampNeg 1))) * 8) + ((ah_i h 27 (Int32.toNatClampNeg 2)) + 1)) * 16) + 0) * 4) + ((ah_i h 27 (Int32.toNatClampNeg 4)) + 1)) * 128) + (ah_i h 27 (Int32.toNatClampNeg 5))))) h))))) ∧ (¬ (((ah_i h b4 (Int32.toNatClampNeg x1)) >>> (3 &&& 31)) &&& 1) = 0 → (((((ah_i h b4 (Int32.toNatClampNeg x1)) >>> (4 &&& 31)) &&& 1) = 0 → (((((ah_i h b4 (Int32.toNatClampNeg x1)) >>> (5 &&& 31)) &&& 1) = 0 → Q (some (.int ((((((((((((x1 * 12) + ((ah_i h 27 (Int32.toNatClampNeg 0)) + 1)) * 8) + (ah_i h 27 (Int32.toNatClampNeg 1))) * 8) + ((ah_i h 27 (Int32.toNatClampNeg 2)) + 1)) * 16) + ((ah_i h 27 (Int32.toNatClampNeg 3)) + 1)) * 4) + 0) * 128) + 0))) h) ∧ (¬ (((ah_i h b4 (Int32.toNatClampNeg x1)) >>> (5 &&& 31)) &&& 1) = 0 → Q (some (.int ((((((((((((x1 * 12) + ((ah_i h 27 (Int32.toNatClampNeg 0)) + 1)) * 8) + (ah_i h 27 (Int32.toNatClampNeg 1))) * 8) + ((ah_i h 27 (Int32.toNatClampNeg 2)) + 1)) * 16) + ((ah_i h 27 (Int32.toNatClampNeg 3)) + 1)) * 4) + 0) * 128) + (ah_i h 27 (Int32.toNatClampNeg 5))))) h))) ∧ (¬ (((ah_i h b4 (Int32.toNatClampNeg x1)) >>> (4 &&& 31)) &&& 1) = 0 → (((((ah_i h b4 (Int32.toNatClampNeg x1)) >>> (5 &&& 31)) &&& 1) = 0 → Q (some (.int ((((((((((((x1 * 12) + ((ah_i h 27 (Int32.toNatClampNeg 0)) + 1)) * 8) + (ah_i h 27 (Int32.toNatClampNeg 1))) * 8) + ((ah_i h 27 (Int32.toNatClampNeg 2)) + 1)) * 16) + ((ah_i h 27 (Int32.toNatClampNeg 3)) + 1)) * 4) + ((ah_i h 27 (Int32.toNatClampNeg 4)) + 1)) * 128) + 0))) h) ∧ (¬ (((ah_i h b4 (Int32.toNatClampNeg x1)) >>> (5 &&& 31)) &&& 1) = 0 → Q (some (.int ((((((((((((x1 * 12) + ((ah_i h 27 (Int32.toNatClampNeg 0)) + 1)) * 8) + (ah_i h 27 (Int32.toNatClampNeg 1))) * 8) + ((ah_i h 27 (Int32.toNatClampNeg 2)) + 1)) * 16) + ((ah_i h 27 (Int32.toNatClampNeg 3)) + 1)) * 4) + ((ah_i h 27 (Int32.toNatClampNeg 4)) + 1)) * 128) + (ah_i h 27 (Int32.toNatClampNeg 5))))) h)))))))))))))))) : Mt mX8_keyOf [.ref 38, .int x1] h Q := by
  refine Mt.ofWp rfl (by exact (Nat.le_of_ble_eq_true rfl)) (Wp.fewer (L' := [some (.ref 38), some (.int x1), none, none, none]) (show ab_leL _ _ from ⟨rfl, ⟨rfl, trivial⟩⟩) ?_)
  refine ab_aload_n (i := 0) dX8_keyOf_0 rfl rfl ?_
  refine ab_getR (b := 26) f_X8_44 rfl (sh_k hs 38 8 (by decide) rfl) (sh_r hs 44 rfl) dX8_keyOf_1 ?_
  refine ab_getR (b := 27) f_X8_98 rfl (sh_k hs 26 2 (by decide) rfl) (sh_r hs 32 rfl) dX8_keyOf_4 ?_
  refine ab_astore_n (i := 2) (L' := [some (.ref 38), some (.int x1), some (.ref 27), none, none]) dX8_keyOf_7 rfl (by exact (Nat.le_of_ble_eq_true rfl)) rfl rfl ?_
  refine ab_aload_n (i := 0) dX8_keyOf_8 rfl rfl ?_
  rcases hr1 : ah_r h 38 3 with _ | b2
  · have ht := ht.1 hr1
    refine ab_getN f_X8_9 rfl (sh_k hs 38 8 (by decide) rfl) hr1 dX8_keyOf_9 ?_
    exact False.elim ht
  · obtain ⟨hk3, ht⟩ := ht.2 b2 hr1
    refine ab_getR (b := b2) f_X8_9 rfl (sh_k hs 38 8 (by decide) rfl) hr1 dX8_keyOf_9 ?_
    obtain ⟨b4, hr5, hk6, ht⟩ := ht
    refine ab_getR (b := b4) f_X8_71 rfl hk3 hr5 dX8_keyOf_12 ?_
    refine ab_iload_n (i := 1) dX8_keyOf_15 rfl rfl ?_
    obtain ⟨hc7, ht⟩ := ht
    refine ab_iald hk6 hc7 dX8_keyOf_16 ?_
    refine ab_istore_n (i := 3) (L' := [some (.ref 38), some (.int x1), some (.ref 27), some (.int (ah_i h b4 (Int32.toNatClampNeg x1))), none]) dX8_keyOf_17 rfl (by exact (Nat.le_of_ble_eq_true rfl)) rfl rfl ?_
    refine ab_iload_n (i := 1) dX8_keyOf_18 rfl rfl ?_
    refine ab_bipush (v := 12) dX8_keyOf_19 (by decide) ?_
    refine ab_imul dX8_keyOf_21 ?_
    refine ab_iload_n (i := 3) dX8_keyOf_22 rfl rfl ?_
    refine ab_iconst (v := 0) dX8_keyOf_23 (by decide) ?_
    refine ab_ishr dX8_keyOf_24 ?_
    refine ab_iconst (v := 1) dX8_keyOf_25 (by decide) ?_
    refine ab_iand dX8_keyOf_26 ?_
    refine ab_if_eq (tgt := 38) dX8_keyOf_27 (by decide) (fun c8 => ?_) (fun c8 => ?_)
    · have ht := ht.1 c8
      refine ab_iconst (v := 0) dX8_keyOf_38 (by decide) ?_
      refine ab_iadd dX8_keyOf_39 ?_
      refine ab_istore (i := 4) (L' := [some (.ref 38), some (.int x1), some (.ref 27), some (.int (ah_i h b4 (Int32.toNatClampNeg x1))), some (.int ((x1 * 12) + 0))]) dX8_keyOf_40 (by exact (Nat.le_of_ble_eq_true rfl)) rfl rfl ?_
      refine ab_iload (i := 4) dX8_keyOf_42 rfl ?_
      refine ab_bipush (v := 8) dX8_keyOf_44 (by decide) ?_
      refine ab_imul dX8_keyOf_46 ?_
      refine ab_iload_n (i := 3) dX8_keyOf_47 rfl rfl ?_
      refine ab_iconst (v := 1) dX8_keyOf_48 (by decide) ?_
      refine ab_ishr dX8_keyOf_49 ?_
      refine ab_iconst (v := 1) dX8_keyOf_50 (by decide) ?_
      refine ab_iand dX8_keyOf_51 ?_
      refine ab_if_eq (tgt := 61) dX8_keyOf_52 (by decide) (fun c9 => ?_) (fun c9 => ?_)
      · have ht := ht.1 c9
        refine ab_iconst (v := 0) dX8_keyOf_61 (by decide) ?_
        refine ab_iadd dX8_keyOf_62 ?_
        refine ab_istore (i := 4) (L' := [some (.ref 38), some (.int x1), some (.ref 27), some (.int (ah_i h b4 (Int32.toNatClampNeg x1))), some (.int ((((x1 * 12) + 0) * 8) + 0))]) dX8_keyOf_63 (by exact (Nat.le_of_ble_eq_true rfl)) rfl rfl ?_
        refine ab_iload (i := 4) dX8_keyOf_65 rfl ?_
        refine ab_bipush (v := 8) dX8_keyOf_67 (by decide) ?_
        refine ab_imul dX8_keyOf_69 ?_
        refine ab_iload_n (i := 3) dX8_keyOf_70 rfl rfl ?_
        refine ab_iconst (v := 2) dX8_keyOf_71 (by decide) ?_
        refine ab_ishr dX8_keyOf_72 ?_
        refine ab_iconst (v := 1) dX8_keyOf_73 (by decide) ?_
        refine ab_iand dX8_keyOf_74 ?_
        refine ab_if_eq (tgt := 86) dX8_keyOf_75 (by decide) (fun c10 => ?_) (fun c10 => ?_)
        · have ht := ht.1 c10
          refine ab_iconst (v := 0) dX8_keyOf_86 (by decide) ?_
          refine ab_iadd dX8_keyOf_87 ?_
          refine ab_istore (i := 4) (L' := [some (.ref 38), some (.int x1), some (.ref 27), some (.int (ah_i h b4 (Int32.toNatClampNeg x1))), some (.int ((((((x1 * 12) + 0) * 8) + 0) * 8) + 0))]) dX8_keyOf_88 (by exact (Nat.le_of_ble_eq_true rfl)) rfl rfl ?_
          refine ab_iload (i := 4) dX8_keyOf_90 rfl ?_
          refine ab_bipush (v := 16) dX8_keyOf_92 (by decide) ?_
          refine ab_imul dX8_keyOf_94 ?_
          refine ab_iload_n (i := 3) dX8_keyOf_95 rfl rfl ?_
          refine ab_iconst (v := 3) dX8_keyOf_96 (by decide) ?_
          refine ab_ishr dX8_keyOf_97 ?_
          refine ab_iconst (v := 1) dX8_keyOf_98 (by decide) ?_
          refine ab_iand dX8_keyOf_99 ?_
          refine ab_if_eq (tgt := 111) dX8_keyOf_100 (by decide) (fun c11 => ?_) (fun c11 => ?_)
          · have ht := ht.1 c11
            refine ab_iconst (v := 0) dX8_keyOf_111 (by decide) ?_
            refine ab_iadd dX8_keyOf_112 ?_
            refine ab_istore (i := 4) (L' := [some (.ref 38), some (.int x1), some (.ref 27), some (.int (ah_i h b4 (Int32.toNatClampNeg x1))), some (.int ((((((((x1 * 12) + 0) * 8) + 0) * 8) + 0) * 16) + 0))]) dX8_keyOf_113 (by exact (Nat.le_of_ble_eq_true rfl)) rfl rfl ?_
            refine ab_iload (i := 4) dX8_keyOf_115 rfl ?_
            refine ab_iconst (v := 4) dX8_keyOf_117 (by decide) ?_
            refine ab_imul dX8_keyOf_118 ?_
            refine ab_iload_n (i := 3) dX8_keyOf_119 rfl rfl ?_
            refine ab_iconst (v := 4) dX8_keyOf_120 (by decide) ?_
            refine ab_ishr dX8_keyOf_121 ?_
            refine ab_iconst (v := 1) dX8_keyOf_122 (by decide) ?_
            refine ab_iand dX8_keyOf_123 ?_
            refine ab_if_eq (tgt := 135) dX8_keyOf_124 (by decide) (fun c12 => ?_) (fun c12 => ?_)
            · have ht := ht.1 c12
              refine ab_iconst (v := 0) dX8_keyOf_135 (by decide) ?_
              refine ab_iadd dX8_keyOf_136 ?_
              refine ab_istore (i := 4) (L' := [some (.ref 38), some (.int x1), some (.ref 27), some (.int (ah_i h b4 (Int32.toNatClampNeg x1))), some (.int ((((((((((x1 * 12) + 0) * 8) + 0) * 8) + 0) * 16) + 0) * 4) + 0))]) dX8_keyOf_137 (by exact (Nat.le_of_ble_eq_true rfl)) rfl rfl ?_
              refine ab_iload (i := 4) dX8_keyOf_139 rfl ?_
              refine ab_sipush (v := 128) dX8_keyOf_141 (by decide) ?_
              refine ab_imul dX8_keyOf_144 ?_
              refine ab_iload_n (i := 3) dX8_keyOf_145 rfl rfl ?_
              refine ab_iconst (v := 5) dX8_keyOf_146 (by decide) ?_
              refine ab_ishr dX8_keyOf_147 ?_
              refine ab_iconst (v := 1) dX8_keyOf_148 (by decide) ?_
              refine ab_iand dX8_keyOf_149 ?_
              refine ab_if_eq (tgt := 159) dX8_keyOf_150 (by decide) (fun c13 => ?_) (fun c13 => ?_)
              · have ht := ht.1 c13
                refine ab_iconst (v := 0) dX8_keyOf_159 (by decide) ?_
                refine ab_iadd dX8_keyOf_160 ?_
                exact ab_iret rfl dX8_keyOf_161 (Nat.le_of_ble_eq_true rfl) (Nat.le_of_ble_eq_true rfl) ht
              · have ht := ht.2 c13
                refine ab_aload_n (i := 2) dX8_keyOf_153 rfl rfl ?_
                refine ab_iconst (v := 5) dX8_keyOf_154 (by decide) ?_
                refine ab_iald (sh_k hs 27 14 (by decide) rfl) (sh_in hs 27 13 (by decide) (by decide) rfl (by unfold vp_in; decide)) dX8_keyOf_155 ?_
                refine ab_goto (tgt := 160) dX8_keyOf_156 (by decide) ?_
                refine ab_iadd dX8_keyOf_160 ?_
                exact ab_iret rfl dX8_keyOf_161 (Nat.le_of_ble_eq_true rfl) (Nat.le_of_ble_eq_true rfl) ht
            · have ht := ht.2 c12
              refine ab_aload_n (i := 2) dX8_keyOf_127 rfl rfl ?_
              refine ab_iconst (v := 4) dX8_keyOf_128 (by decide) ?_
              refine ab_iald (sh_k hs 27 14 (by decide) rfl) (sh_in hs 27 13 (by decide) (by decide) rfl (by unfold vp_in; decide)) dX8_keyOf_129 ?_
              refine ab_iconst (v := 1) dX8_keyOf_130 (by decide) ?_
              refine ab_iadd dX8_keyOf_131 ?_
              refine ab_goto (tgt := 136) dX8_keyOf_132 (by decide) ?_
              refine ab_iadd dX8_keyOf_136 ?_
              refine ab_istore (i := 4) (L' := [some (.ref 38), some (.int x1), some (.ref 27), some (.int (ah_i h b4 (Int32.toNatClampNeg x1))), some (.int ((((((((((x1 * 12) + 0) * 8) + 0) * 8) + 0) * 16) + 0) * 4) + ((ah_i h 27 (Int32.toNatClampNeg 4)) + 1)))]) dX8_keyOf_137 (by exact (Nat.le_of_ble_eq_true rfl)) rfl rfl ?_
              refine ab_iload (i := 4) dX8_keyOf_139 rfl ?_
              refine ab_sipush (v := 128) dX8_keyOf_141 (by decide) ?_
              refine ab_imul dX8_keyOf_144 ?_
              refine ab_iload_n (i := 3) dX8_keyOf_145 rfl rfl ?_
              refine ab_iconst (v := 5) dX8_keyOf_146 (by decide) ?_
              refine ab_ishr dX8_keyOf_147 ?_
              refine ab_iconst (v := 1) dX8_keyOf_148 (by decide) ?_
              refine ab_iand dX8_keyOf_149 ?_
              refine ab_if_eq (tgt := 159) dX8_keyOf_150 (by decide) (fun c14 => ?_) (fun c14 => ?_)
              · have ht := ht.1 c14
                refine ab_iconst (v := 0) dX8_keyOf_159 (by decide) ?_
                refine ab_iadd dX8_keyOf_160 ?_
                exact ab_iret rfl dX8_keyOf_161 (Nat.le_of_ble_eq_true rfl) (Nat.le_of_ble_eq_true rfl) ht
              · have ht := ht.2 c14
                refine ab_aload_n (i := 2) dX8_keyOf_153 rfl rfl ?_
                refine ab_iconst (v := 5) dX8_keyOf_154 (by decide) ?_
                refine ab_iald (sh_k hs 27 14 (by decide) rfl) (sh_in hs 27 13 (by decide) (by decide) rfl (by unfold vp_in; decide)) dX8_keyOf_155 ?_
                refine ab_goto (tgt := 160) dX8_keyOf_156 (by decide) ?_
                refine ab_iadd dX8_keyOf_160 ?_
                exact ab_iret rfl dX8_keyOf_161 (Nat.le_of_ble_eq_true rfl) (Nat.le_of_ble_eq_true rfl) ht
          · have ht := ht.2 c11
            refine ab_aload_n (i := 2) dX8_keyOf_103 rfl rfl ?_
            refine ab_iconst (v := 3) dX8_keyOf_104 (by decide) ?_
            refine ab_iald (sh_k hs 27 14 (by decide) rfl) (sh_in hs 27 13 (by decide) (by decide) rfl (by unfold vp_in; decide)) dX8_keyOf_105 ?_
            refine ab_iconst (v := 1) dX8_keyOf_106 (by decide) ?_
            refine ab_iadd dX8_keyOf_107 ?_
            refine ab_goto (tgt := 112) dX8_keyOf_108 (by decide) ?_
            refine ab_iadd dX8_keyOf_112 ?_
            refine ab_istore (i := 4) (L' := [some (.ref 38), some (.int x1), some (.ref 27), some (.int (ah_i h b4 (Int32.toNatClampNeg x1))), some (.int ((((((((x1 * 12) + 0) * 8) + 0) * 8) + 0) * 16) + ((ah_i h 27 (Int32.toNatClampNeg 3)) + 1)))]) dX8_keyOf_113 (by exact (Nat.le_of_ble_eq_true rfl)) rfl rfl ?_
            refine ab_iload (i := 4) dX8_keyOf_115 rfl ?_
            refine ab_iconst (v := 4) dX8_keyOf_117 (by decide) ?_
            refine ab_imul dX8_keyOf_118 ?_
            refine ab_iload_n (i := 3) dX8_keyOf_119 rfl rfl ?_
            refine ab_iconst (v := 4) dX8_keyOf_120 (by decide) ?_
            refine ab_ishr dX8_keyOf_121 ?_
            refine ab_iconst (v := 1) dX8_keyOf_122 (by decide) ?_
            refine ab_iand dX8_keyOf_123 ?_
            refine ab_if_eq (tgt := 135) dX8_keyOf_124 (by decide) (fun c15 => ?_) (fun c15 => ?_)
            · have ht := ht.1 c15
              refine ab_iconst (v := 0) dX8_keyOf_135 (by decide) ?_
              refine ab_iadd dX8_keyOf_136 ?_
              refine ab_istore (i := 4) (L' := [some (.ref 38), some (.int x1), some (.ref 27), some (.int (ah_i h b4 (Int32.toNatClampNeg x1))), some (.int ((((((((((x1 * 12) + 0) * 8) + 0) * 8) + 0) * 16) + ((ah_i h 27 (Int32.toNatClampNeg 3)) + 1)) * 4) + 0))]) dX8_keyOf_137 (by exact (Nat.le_of_ble_eq_true rfl)) rfl rfl ?_
              refine ab_iload (i := 4) dX8_keyOf_139 rfl ?_
              refine ab_sipush (v := 128) dX8_keyOf_141 (by decide) ?_
              refine ab_imul dX8_keyOf_144 ?_
              refine ab_iload_n (i := 3) dX8_keyOf_145 rfl rfl ?_
              refine ab_iconst (v := 5) dX8_keyOf_146 (by decide) ?_
              refine ab_ishr dX8_keyOf_147 ?_
              refine ab_iconst (v := 1) dX8_keyOf_148 (by decide) ?_
              refine ab_iand dX8_keyOf_149 ?_
              refine ab_if_eq (tgt := 159) dX8_keyOf_150 (by decide) (fun c16 => ?_) (fun c16 => ?_)
              · have ht := ht.1 c16
                refine ab_iconst (v := 0) dX8_keyOf_159 (by decide) ?_
                refine ab_iadd dX8_keyOf_160 ?_
                exact ab_iret rfl dX8_keyOf_161 (Nat.le_of_ble_eq_true rfl) (Nat.le_of_ble_eq_true rfl) ht
              · have ht := ht.2 c16
                refine ab_aload_n (i := 2) dX8_keyOf_153 rfl rfl ?_
                refine ab_iconst (v := 5) dX8_keyOf_154 (by decide) ?_
                refine ab_iald (sh_k hs 27 14 (by decide) rfl) (sh_in hs 27 13 (by decide) (by decide) rfl (by unfold vp_in; decide)) dX8_keyOf_155 ?_
                refine ab_goto (tgt := 160) dX8_keyOf_156 (by decide) ?_
                refine ab_iadd dX8_keyOf_160 ?_
                exact ab_iret rfl dX8_keyOf_161 (Nat.le_of_ble_eq_true rfl) (Nat.le_of_ble_eq_true rfl) ht
            · have ht := ht.2 c15
              refine ab_aload_n (i := 2) dX8_keyOf_127 rfl rfl ?_
              refine ab_iconst (v := 4) dX8_keyOf_128 (by decide) ?_
              refine ab_iald (sh_k hs 27 14 (by decide) rfl) (sh_in hs 27 13 (by decide) (by decide) rfl (by unfold vp_in; decide)) dX8_keyOf_129 ?_
              refine ab_iconst (v := 1) dX8_keyOf_130 (by decide) ?_
              refine ab_iadd dX8_keyOf_131 ?_
              refine ab_goto (tgt := 136) dX8_keyOf_132 (by decide) ?_
              refine ab_iadd dX8_keyOf_136 ?_
              refine ab_istore (i := 4) (L' := [some (.ref 38), some (.int x1), some (.ref 27), some (.int (ah_i h b4 (Int32.toNatClampNeg x1))), some (.int ((((((((((x1 * 12) + 0) * 8) + 0) * 8) + 0) * 16) + ((ah_i h 27 (Int32.toNatClampNeg 3)) + 1)) * 4) + ((ah_i h 27 (Int32.toNatClampNeg 4)) + 1)))]) dX8_keyOf_137 (by exact (Nat.le_of_ble_eq_true rfl)) rfl rfl ?_
              refine ab_iload (i := 4) dX8_keyOf_139 rfl ?_
              refine ab_sipush (v := 128) dX8_keyOf_141 (by decide) ?_
              refine ab_imul dX8_keyOf_144 ?_
              refine ab_iload_n (i := 3) dX8_keyOf_145 rfl rfl ?_
              refine ab_iconst (v := 5) dX8_keyOf_146 (by decide) ?_
              refine ab_ishr dX8_keyOf_147 ?_
              refine ab_iconst (v := 1) dX8_keyOf_148 (by decide) ?_
              refine ab_iand dX8_keyOf_149 ?_
              refine ab_if_eq (tgt := 159) dX8_keyOf_150 (by decide) (fun c17 => ?_) (fun c17 => ?_)
              · have ht := ht.1 c17
                refine ab_iconst (v := 0) dX8_keyOf_159 (by decide) ?_
                refine ab_iadd dX8_keyOf_160 ?_
                exact ab_iret rfl dX8_keyOf_161 (Nat.le_of_ble_eq_true rfl) (Nat.le_of_ble_eq_true rfl) ht
              · have ht := ht.2 c17
                refine ab_aload_n (i := 2) dX8_keyOf_153 rfl rfl ?_
                refine ab_iconst (v := 5) dX8_keyOf_154 (by decide) ?_
                refine ab_iald (sh_k hs 27 14 (by decide) rfl) (sh_in hs 27 13 (by decide) (by decide) rfl (by unfold vp_in; decide)) dX8_keyOf_155 ?_
                refine ab_goto (tgt := 160) dX8_keyOf_156 (by decide) ?_
                refine ab_iadd dX8_keyOf_160 ?_
                exact ab_iret rfl dX8_keyOf_161 (Nat.le_of_ble_eq_true rfl) (Nat.le_of_ble_eq_true rfl) ht
        · have ht := ht.2 c10
          refine ab_aload_n (i := 2) dX8_keyOf_78 rfl rfl ?_
          refine ab_iconst (v := 2) dX8_keyOf_79 (by decide) ?_
          refine ab_iald (sh_k hs 27 14 (by decide) rfl) (sh_in hs 27 13 (by decide) (by decide) rfl (by unfold vp_in; decide)) dX8_keyOf_80 ?_
          refine ab_iconst (v := 1) dX8_keyOf_81 (by decide) ?_
          refine ab_iadd dX8_keyOf_82 ?_
          refine ab_goto (tgt := 87) dX8_keyOf_83 (by decide) ?_
          refine ab_iadd dX8_keyOf_87 ?_
          refine ab_istore (i := 4) (L' := [some (.ref 38), some (.int x1), some (.ref 27), some (.int (ah_i h b4 (Int32.toNatClampNeg x1))), some (.int ((((((x1 * 12) + 0) * 8) + 0) * 8) + ((ah_i h 27 (Int32.toNatClampNeg 2)) + 1)))]) dX8_keyOf_88 (by exact (Nat.le_of_ble_eq_true rfl)) rfl rfl ?_
          refine ab_iload (i := 4) dX8_keyOf_90 rfl ?_
          refine ab_bipush (v := 16) dX8_keyOf_92 (by decide) ?_
          refine ab_imul dX8_keyOf_94 ?_
          refine ab_iload_n (i := 3) dX8_keyOf_95 rfl rfl ?_
          refine ab_iconst (v := 3) dX8_keyOf_96 (by decide) ?_
          refine ab_ishr dX8_keyOf_97 ?_
          refine ab_iconst (v := 1) dX8_keyOf_98 (by decide) ?_
          refine ab_iand dX8_keyOf_99 ?_
          refine ab_if_eq (tgt := 111) dX8_keyOf_100 (by decide) (fun c18 => ?_) (fun c18 => ?_)
          · have ht := ht.1 c18
            refine ab_iconst (v := 0) dX8_keyOf_111 (by decide) ?_
            refine ab_iadd dX8_keyOf_112 ?_
            refine ab_istore (i := 4) (L' := [some (.ref 38), some (.int x1), some (.ref 27), some (.int (ah_i h b4 (Int32.toNatClampNeg x1))), some (.int ((((((((x1 * 12) + 0) * 8) + 0) * 8) + ((ah_i h 27 (Int32.toNatClampNeg 2)) + 1)) * 16) + 0))]) dX8_keyOf_113 (by exact (Nat.le_of_ble_eq_true rfl)) rfl rfl ?_
            refine ab_iload (i := 4) dX8_keyOf_115 rfl ?_
            refine ab_iconst (v := 4) dX8_keyOf_117 (by decide) ?_
            refine ab_imul dX8_keyOf_118 ?_
            refine ab_iload_n (i := 3) dX8_keyOf_119 rfl rfl ?_
            refine ab_iconst (v := 4) dX8_keyOf_120 (by decide) ?_
            refine ab_ishr dX8_keyOf_121 ?_
            refine ab_iconst (v := 1) dX8_keyOf_122 (by decide) ?_
            refine ab_iand dX8_keyOf_123 ?_
            refine ab_if_eq (tgt := 135) dX8_keyOf_124 (by decide) (fun c19 => ?_) (fun c19 => ?_)
            · have ht := ht.1 c19
              refine ab_iconst (v := 0) dX8_keyOf_135 (by decide) ?_
              refine ab_iadd dX8_keyOf_136 ?_
              refine ab_istore (i := 4) (L' := [some (.ref 38), some (.int x1), some (.ref 27), some (.int (ah_i h b4 (Int32.toNatClampNeg x1))), some (.int ((((((((((x1 * 12) + 0) * 8) + 0) * 8) + ((ah_i h 27 (Int32.toNatClampNeg 2)) + 1)) * 16) + 0) * 4) + 0))]) dX8_keyOf_137 (by exact (Nat.le_of_ble_eq_true rfl)) rfl rfl ?_
              refine ab_iload (i := 4) dX8_keyOf_139 rfl ?_
              refine ab_sipush (v := 128) dX8_keyOf_141 (by decide) ?_
              refine ab_imul dX8_keyOf_144 ?_
              refine ab_iload_n (i := 3) dX8_keyOf_145 rfl rfl ?_
              refine ab_iconst (v := 5) dX8_keyOf_146 (by decide) ?_
              refine ab_ishr dX8_keyOf_147 ?_
              refine ab_iconst (v := 1) dX8_keyOf_148 (by decide) ?_
              refine ab_iand dX8_keyOf_149 ?_
              refine ab_if_eq (tgt := 159) dX8_keyOf_150 (by decide) (fun c20 => ?_) (fun c20 => ?_)
              · have ht := ht.1 c20
                refine ab_iconst (v := 0) dX8_keyOf_159 (by decide) ?_
                refine ab_iadd dX8_keyOf_160 ?_
                exact ab_iret rfl dX8_keyOf_161 (Nat.le_of_ble_eq_true rfl) (Nat.le_of_ble_eq_true rfl) ht
              · have ht := ht.2 c20
                refine ab_aload_n (i := 2) dX8_keyOf_153 rfl rfl ?_
                refine ab_iconst (v := 5) dX8_keyOf_154 (by decide) ?_
                refine ab_iald (sh_k hs 27 14 (by decide) rfl) (sh_in hs 27 13 (by decide) (by decide) rfl (by unfold vp_in; decide)) dX8_keyOf_155 ?_
                refine ab_goto (tgt := 160) dX8_keyOf_156 (by decide) ?_
                refine ab_iadd dX8_keyOf_160 ?_
                exact ab_iret rfl dX8_keyOf_161 (Nat.le_of_ble_eq_true rfl) (Nat.le_of_ble_eq_true rfl) ht
            · have ht := ht.2 c19
              refine ab_aload_n (i := 2) dX8_keyOf_127 rfl rfl ?_
              refine ab_iconst (v := 4) dX8_keyOf_128 (by decide) ?_
              refine ab_iald (sh_k hs 27 14 (by decide) rfl) (sh_in hs 27 13 (by decide) (by decide) rfl (by unfold vp_in; decide)) dX8_keyOf_129 ?_
              refine ab_iconst (v := 1) dX8_keyOf_130 (by decide) ?_
              refine ab_iadd dX8_keyOf_131 ?_
              refine ab_goto (tgt := 136) dX8_keyOf_132 (by decide) ?_
              refine ab_iadd dX8_keyOf_136 ?_
              refine ab_istore (i := 4) (L' := [some (.ref 38), some (.int x1), some (.ref 27), some (.int (ah_i h b4 (Int32.toNatClampNeg x1))), some (.int ((((((((((x1 * 12) + 0) * 8) + 0) * 8) + ((ah_i h 27 (Int32.toNatClampNeg 2)) + 1)) * 16) + 0) * 4) + ((ah_i h 27 (Int32.toNatClampNeg 4)) + 1)))]) dX8_keyOf_137 (by exact (Nat.le_of_ble_eq_true rfl)) rfl rfl ?_
              refine ab_iload (i := 4) dX8_keyOf_139 rfl ?_
              refine ab_sipush (v := 128) dX8_keyOf_141 (by decide) ?_
              refine ab_imul dX8_keyOf_144 ?_
              refine ab_iload_n (i := 3) dX8_keyOf_145 rfl rfl ?_
              refine ab_iconst (v := 5) dX8_keyOf_146 (by decide) ?_
              refine ab_ishr dX8_keyOf_147 ?_
              refine ab_iconst (v := 1) dX8_keyOf_148 (by decide) ?_
              refine ab_iand dX8_keyOf_149 ?_
              refine ab_if_eq (tgt := 159) dX8_keyOf_150 (by decide) (fun c21 => ?_) (fun c21 => ?_)
              · have ht := ht.1 c21
                refine ab_iconst (v := 0) dX8_keyOf_159 (by decide) ?_
                refine ab_iadd dX8_keyOf_160 ?_
                exact ab_iret rfl dX8_keyOf_161 (Nat.le_of_ble_eq_true rfl) (Nat.le_of_ble_eq_true rfl) ht
              · have ht := ht.2 c21
                refine ab_aload_n (i := 2) dX8_keyOf_153 rfl rfl ?_
                refine ab_iconst (v := 5) dX8_keyOf_154 (by decide) ?_
                refine ab_iald (sh_k hs 27 14 (by decide) rfl) (sh_in hs 27 13 (by decide) (by decide) rfl (by unfold vp_in; decide)) dX8_keyOf_155 ?_
                refine ab_goto (tgt := 160) dX8_keyOf_156 (by decide) ?_
                refine ab_iadd dX8_keyOf_160 ?_
                exact ab_iret rfl dX8_keyOf_161 (Nat.le_of_ble_eq_true rfl) (Nat.le_of_ble_eq_true rfl) ht
          · have ht := ht.2 c18
            refine ab_aload_n (i := 2) dX8_keyOf_103 rfl rfl ?_
            refine ab_iconst (v := 3) dX8_keyOf_104 (by decide) ?_
            refine ab_iald (sh_k hs 27 14 (by decide) rfl) (sh_in hs 27 13 (by decide) (by decide) rfl (by unfold vp_in; decide)) dX8_keyOf_105 ?_
            refine ab_iconst (v := 1) dX8_keyOf_106 (by decide) ?_
            refine ab_iadd dX8_keyOf_107 ?_
            refine ab_goto (tgt := 112) dX8_keyOf_108 (by decide) ?_
            refine ab_iadd dX8_keyOf_112 ?_
            refine ab_istore (i := 4) (L' := [some (.ref 38), some (.int x1), some (.ref 27), some (.int (ah_i h b4 (Int32.toNatClampNeg x1))), some (.int ((((((((x1 * 12) + 0) * 8) + 0) * 8) + ((ah_i h 27 (Int32.toNatClampNeg 2)) + 1)) * 16) + ((ah_i h 27 (Int32.toNatClampNeg 3)) + 1)))]) dX8_keyOf_113 (by exact (Nat.le_of_ble_eq_true rfl)) rfl rfl ?_
            refine ab_iload (i := 4) dX8_keyOf_115 rfl ?_
            refine ab_iconst (v := 4) dX8_keyOf_117 (by decide) ?_
            refine ab_imul dX8_keyOf_118 ?_
            refine ab_iload_n (i := 3) dX8_keyOf_119 rfl rfl ?_
            refine ab_iconst (v := 4) dX8_keyOf_120 (by decide) ?_
            refine ab_ishr dX8_keyOf_121 ?_
            refine ab_iconst (v := 1) dX8_keyOf_122 (by decide) ?_
            refine ab_iand dX8_keyOf_123 ?_
            refine ab_if_eq (tgt := 135) dX8_keyOf_124 (by decide) (fun c22 => ?_) (fun c22 => ?_)
            · have ht := ht.1 c22
              refine ab_iconst (v := 0) dX8_keyOf_135 (by decide) ?_
              refine ab_iadd dX8_keyOf_136 ?_
              refine ab_istore (i := 4) (L' := [some (.ref 38), some (.int x1), some (.ref 27), some (.int (ah_i h b4 (Int32.toNatClampNeg x1))), some (.int ((((((((((x1 * 12) + 0) * 8) + 0) * 8) + ((ah_i h 27 (Int32.toNatClampNeg 2)) + 1)) * 16) + ((ah_i h 27 (Int32.toNatClampNeg 3)) + 1)) * 4) + 0))]) dX8_keyOf_137 (by exact (Nat.le_of_ble_eq_true rfl)) rfl rfl ?_
              refine ab_iload (i := 4) dX8_keyOf_139 rfl ?_
              refine ab_sipush (v := 128) dX8_keyOf_141 (by decide) ?_
              refine ab_imul dX8_keyOf_144 ?_
              refine ab_iload_n (i := 3) dX8_keyOf_145 rfl rfl ?_
              refine ab_iconst (v := 5) dX8_keyOf_146 (by decide) ?_
              refine ab_ishr dX8_keyOf_147 ?_
              refine ab_iconst (v := 1) dX8_keyOf_148 (by decide) ?_
              refine ab_iand dX8_keyOf_149 ?_
              refine ab_if_eq (tgt := 159) dX8_keyOf_150 (by decide) (fun c23 => ?_) (fun c23 => ?_)
              · have ht := ht.1 c23
                refine ab_iconst (v := 0) dX8_keyOf_159 (by decide) ?_
                refine ab_iadd dX8_keyOf_160 ?_
                exact ab_iret rfl dX8_keyOf_161 (Nat.le_of_ble_eq_true rfl) (Nat.le_of_ble_eq_true rfl) ht
              · have ht := ht.2 c23
                refine ab_aload_n (i := 2) dX8_keyOf_153 rfl rfl ?_
                refine ab_iconst (v := 5) dX8_keyOf_154 (by decide) ?_
                refine ab_iald (sh_k hs 27 14 (by decide) rfl) (sh_in hs 27 13 (by decide) (by decide) rfl (by unfold vp_in; decide)) dX8_keyOf_155 ?_
                refine ab_goto (tgt := 160) dX8_keyOf_156 (by decide) ?_
                refine ab_iadd dX8_keyOf_160 ?_
                exact ab_iret rfl dX8_keyOf_161 (Nat.le_of_ble_eq_true rfl) (Nat.le_of_ble_eq_true rfl) ht
            · have ht := ht.2 c22
              refine ab_aload_n (i := 2) dX8_keyOf_127 rfl rfl ?_
              refine ab_iconst (v := 4) dX8_keyOf_128 (by decide) ?_
              refine ab_iald (sh_k hs 27 14 (by decide) rfl) (sh_in hs 27 13 (by decide) (by decide) rfl (by unfold vp_in; decide)) dX8_keyOf_129 ?_
              refine ab_iconst (v := 1) dX8_keyOf_130 (by decide) ?_
              refine ab_iadd dX8_keyOf_131 ?_
              refine ab_goto (tgt := 136) dX8_keyOf_132 (by decide) ?_
              refine ab_iadd dX8_keyOf_136 ?_
              refine ab_istore (i := 4) (L' := [some (.ref 38), some (.int x1), some (.ref 27), some (.int (ah_i h b4 (Int32.toNatClampNeg x1))), some (.int ((((((((((x1 * 12) + 0) * 8) + 0) * 8) + ((ah_i h 27 (Int32.toNatClampNeg 2)) + 1)) * 16) + ((ah_i h 27 (Int32.toNatClampNeg 3)) + 1)) * 4) + ((ah_i h 27 (Int32.toNatClampNeg 4)) + 1)))]) dX8_keyOf_137 (by exact (Nat.le_of_ble_eq_true rfl)) rfl rfl ?_
              refine ab_iload (i := 4) dX8_keyOf_139 rfl ?_
              refine ab_sipush (v := 128) dX8_keyOf_141 (by decide) ?_
              refine ab_imul dX8_keyOf_144 ?_
              refine ab_iload_n (i := 3) dX8_keyOf_145 rfl rfl ?_
              refine ab_iconst (v := 5) dX8_keyOf_146 (by decide) ?_
              refine ab_ishr dX8_keyOf_147 ?_
              refine ab_iconst (v := 1) dX8_keyOf_148 (by decide) ?_
              refine ab_iand dX8_keyOf_149 ?_
              refine ab_if_eq (tgt := 159) dX8_keyOf_150 (by decide) (fun c24 => ?_) (fun c24 => ?_)
              · have ht := ht.1 c24
                refine ab_iconst (v := 0) dX8_keyOf_159 (by decide) ?_
                refine ab_iadd dX8_keyOf_160 ?_
                exact ab_iret rfl dX8_keyOf_161 (Nat.le_of_ble_eq_true rfl) (Nat.le_of_ble_eq_true rfl) ht
              · have ht := ht.2 c24
                refine ab_aload_n (i := 2) dX8_keyOf_153 rfl rfl ?_
                refine ab_iconst (v := 5) dX8_keyOf_154 (by decide) ?_
                refine ab_iald (sh_k hs 27 14 (by decide) rfl) (sh_in hs 27 13 (by decide) (by decide) rfl (by unfold vp_in; decide)) dX8_keyOf_155 ?_
                refine ab_goto (tgt := 160) dX8_keyOf_156 (by decide) ?_
                refine ab_iadd dX8_keyOf_160 ?_
                exact ab_iret rfl dX8_keyOf_161 (Nat.le_of_ble_eq_true rfl) (Nat.le_of_ble_eq_true rfl) ht
      · have ht := ht.2 c9
        refine ab_aload_n (i := 2) dX8_keyOf_55 rfl rfl ?_
        refine ab_iconst (v := 1) dX8_keyOf_56 (by decide) ?_
        refine ab_iald (sh_k hs 27 14 (by decide) rfl) (sh_in hs 27 13 (by decide) (by decide) rfl (by unfold vp_in; decide)) dX8_keyOf_57 ?_
        refine ab_goto (tgt := 62) dX8_keyOf_58 (by decide) ?_
        refine ab_iadd dX8_keyOf_62 ?_
        refine ab_istore (i := 4) (L' := [some (.ref 38), some (.int x1), some (.ref 27), some (.int (ah_i h b4 (Int32.toNatClampNeg x1))), some (.int ((((x1 * 12) + 0) * 8) + (ah_i h 27 (Int32.toNatClampNeg 1))))]) dX8_keyOf_63 (by exact (Nat.le_of_ble_eq_true rfl)) rfl rfl ?_
        refine ab_iload (i := 4) dX8_keyOf_65 rfl ?_
        refine ab_bipush (v := 8) dX8_keyOf_67 (by decide) ?_
        refine ab_imul dX8_keyOf_69 ?_
        refine ab_iload_n (i := 3) dX8_keyOf_70 rfl rfl ?_
        refine ab_iconst (v := 2) dX8_keyOf_71 (by decide) ?_
        refine ab_ishr dX8_keyOf_72 ?_
        refine ab_iconst (v := 1) dX8_keyOf_73 (by decide) ?_
        refine ab_iand dX8_keyOf_74 ?_
        refine ab_if_eq (tgt := 86) dX8_keyOf_75 (by decide) (fun c25 => ?_) (fun c25 => ?_)
        · have ht := ht.1 c25
          refine ab_iconst (v := 0) dX8_keyOf_86 (by decide) ?_
          refine ab_iadd dX8_keyOf_87 ?_
          refine ab_istore (i := 4) (L' := [some (.ref 38), some (.int x1), some (.ref 27), some (.int (ah_i h b4 (Int32.toNatClampNeg x1))), some (.int ((((((x1 * 12) + 0) * 8) + (ah_i h 27 (Int32.toNatClampNeg 1))) * 8) + 0))]) dX8_keyOf_88 (by exact (Nat.le_of_ble_eq_true rfl)) rfl rfl ?_
          refine ab_iload (i := 4) dX8_keyOf_90 rfl ?_
          refine ab_bipush (v := 16) dX8_keyOf_92 (by decide) ?_
          refine ab_imul dX8_keyOf_94 ?_
          refine ab_iload_n (i := 3) dX8_keyOf_95 rfl rfl ?_
          refine ab_iconst (v := 3) dX8_keyOf_96 (by decide) ?_
          refine ab_ishr dX8_keyOf_97 ?_
          refine ab_iconst (v := 1) dX8_keyOf_98 (by decide) ?_
          refine ab_iand dX8_keyOf_99 ?_
          refine ab_if_eq (tgt := 111) dX8_keyOf_100 (by decide) (fun c26 => ?_) (fun c26 => ?_)
          · have ht := ht.1 c26
            refine ab_iconst (v := 0) dX8_keyOf_111 (by decide) ?_
            refine ab_iadd dX8_keyOf_112 ?_
            refine ab_istore (i := 4) (L' := [some (.ref 38), some (.int x1), some (.ref 27), some (.int (ah_i h b4 (Int32.toNatClampNeg x1))), some (.int ((((((((x1 * 12) + 0) * 8) + (ah_i h 27 (Int32.toNatClampNeg 1))) * 8) + 0) * 16) + 0))]) dX8_keyOf_113 (by exact (Nat.le_of_ble_eq_true rfl)) rfl rfl ?_
            refine ab_iload (i := 4) dX8_keyOf_115 rfl ?_
            refine ab_iconst (v := 4) dX8_keyOf_117 (by decide) ?_
            refine ab_imul dX8_keyOf_118 ?_
            refine ab_iload_n (i := 3) dX8_keyOf_119 rfl rfl ?_
            refine ab_iconst (v := 4) dX8_keyOf_120 (by decide) ?_
            refine ab_ishr dX8_keyOf_121 ?_
            refine ab_iconst (v := 1) dX8_keyOf_122 (by decide) ?_
            refine ab_iand dX8_keyOf_123 ?_
            refine ab_if_eq (tgt := 135) dX8_keyOf_124 (by decide) (fun c27 => ?_) (fun c27 => ?_)
            · have ht := ht.1 c27
              refine ab_iconst (v := 0) dX8_keyOf_135 (by decide) ?_
              refine ab_iadd dX8_keyOf_136 ?_
              refine ab_istore (i := 4) (L' := [some (.ref 38), some (.int x1), some (.ref 27), some (.int (ah_i h b4 (Int32.toNatClampNeg x1))), some (.int ((((((((((x1 * 12) + 0) * 8) + (ah_i h 27 (Int32.toNatClampNeg 1))) * 8) + 0) * 16) + 0) * 4) + 0))]) dX8_keyOf_137 (by exact (Nat.le_of_ble_eq_true rfl)) rfl rfl ?_
              refine ab_iload (i := 4) dX8_keyOf_139 rfl ?_
              refine ab_sipush (v := 128) dX8_keyOf_141 (by decide) ?_
              refine ab_imul dX8_keyOf_144 ?_
              refine ab_iload_n (i := 3) dX8_keyOf_145 rfl rfl ?_
              refine ab_iconst (v := 5) dX8_keyOf_146 (by decide) ?_
              refine ab_ishr dX8_keyOf_147 ?_
              refine ab_iconst (v := 1) dX8_keyOf_148 (by decide) ?_
              refine ab_iand dX8_keyOf_149 ?_
              refine ab_if_eq (tgt := 159) dX8_keyOf_150 (by decide) (fun c28 => ?_) (fun c28 => ?_)
              · have ht := ht.1 c28
                refine ab_iconst (v := 0) dX8_keyOf_159 (by decide) ?_
                refine ab_iadd dX8_keyOf_160 ?_
                exact ab_iret rfl dX8_keyOf_161 (Nat.le_of_ble_eq_true rfl) (Nat.le_of_ble_eq_true rfl) ht
              · have ht := ht.2 c28
                refine ab_aload_n (i := 2) dX8_keyOf_153 rfl rfl ?_
                refine ab_iconst (v := 5) dX8_keyOf_154 (by decide) ?_
                refine ab_iald (sh_k hs 27 14 (by decide) rfl) (sh_in hs 27 13 (by decide) (by decide) rfl (by unfold vp_in; decide)) dX8_keyOf_155 ?_
                refine ab_goto (tgt := 160) dX8_keyOf_156 (by decide) ?_
                refine ab_iadd dX8_keyOf_160 ?_
                exact ab_iret rfl dX8_keyOf_161 (Nat.le_of_ble_eq_true rfl) (Nat.le_of_ble_eq_true rfl) ht
            · have ht := ht.2 c27
              refine ab_aload_n (i := 2) dX8_keyOf_127 rfl rfl ?_
              refine ab_iconst (v := 4) dX8_keyOf_128 (by decide) ?_
              refine ab_iald (sh_k hs 27 14 (by decide) rfl) (sh_in hs 27 13 (by decide) (by decide) rfl (by unfold vp_in; decide)) dX8_keyOf_129 ?_
              refine ab_iconst (v := 1) dX8_keyOf_130 (by decide) ?_
              refine ab_iadd dX8_keyOf_131 ?_
              refine ab_goto (tgt := 136) dX8_keyOf_132 (by decide) ?_
              refine ab_iadd dX8_keyOf_136 ?_
              refine ab_istore (i := 4) (L' := [some (.ref 38), some (.int x1), some (.ref 27), some (.int (ah_i h b4 (Int32.toNatClampNeg x1))), some (.int ((((((((((x1 * 12) + 0) * 8) + (ah_i h 27 (Int32.toNatClampNeg 1))) * 8) + 0) * 16) + 0) * 4) + ((ah_i h 27 (Int32.toNatClampNeg 4)) + 1)))]) dX8_keyOf_137 (by exact (Nat.le_of_ble_eq_true rfl)) rfl rfl ?_
              refine ab_iload (i := 4) dX8_keyOf_139 rfl ?_
              refine ab_sipush (v := 128) dX8_keyOf_141 (by decide) ?_
              refine ab_imul dX8_keyOf_144 ?_
              refine ab_iload_n (i := 3) dX8_keyOf_145 rfl rfl ?_
              refine ab_iconst (v := 5) dX8_keyOf_146 (by decide) ?_
              refine ab_ishr dX8_keyOf_147 ?_
              refine ab_iconst (v := 1) dX8_keyOf_148 (by decide) ?_
              refine ab_iand dX8_keyOf_149 ?_
              refine ab_if_eq (tgt := 159) dX8_keyOf_150 (by decide) (fun c29 => ?_) (fun c29 => ?_)
              · have ht := ht.1 c29
                refine ab_iconst (v := 0) dX8_keyOf_159 (by decide) ?_
                refine ab_iadd dX8_keyOf_160 ?_
                exact ab_iret rfl dX8_keyOf_161 (Nat.le_of_ble_eq_true rfl) (Nat.le_of_ble_eq_true rfl) ht
              · have ht := ht.2 c29
                refine ab_aload_n (i := 2) dX8_keyOf_153 rfl rfl ?_
                refine ab_iconst (v := 5) dX8_keyOf_154 (by decide) ?_
                refine ab_iald (sh_k hs 27 14 (by decide) rfl) (sh_in hs 27 13 (by decide) (by decide) rfl (by unfold vp_in; decide)) dX8_keyOf_155 ?_
                refine ab_goto (tgt := 160) dX8_keyOf_156 (by decide) ?_
                refine ab_iadd dX8_keyOf_160 ?_
                exact ab_iret rfl dX8_keyOf_161 (Nat.le_of_ble_eq_true rfl) (Nat.le_of_ble_eq_true rfl) ht
          · have ht := ht.2 c26
            refine ab_aload_n (i := 2) dX8_keyOf_103 rfl rfl ?_
            refine ab_iconst (v := 3) dX8_keyOf_104 (by decide) ?_
            refine ab_iald (sh_k hs 27 14 (by decide) rfl) (sh_in hs 27 13 (by decide) (by decide) rfl (by unfold vp_in; decide)) dX8_keyOf_105 ?_
            refine ab_iconst (v := 1) dX8_keyOf_106 (by decide) ?_
            refine ab_iadd dX8_keyOf_107 ?_
            refine ab_goto (tgt := 112) dX8_keyOf_108 (by decide) ?_
            refine ab_iadd dX8_keyOf_112 ?_
            refine ab_istore (i := 4) (L' := [some (.ref 38), some (.int x1), some (.ref 27), some (.int (ah_i h b4 (Int32.toNatClampNeg x1))), some (.int ((((((((x1 * 12) + 0) * 8) + (ah_i h 27 (Int32.toNatClampNeg 1))) * 8) + 0) * 16) + ((ah_i h 27 (Int32.toNatClampNeg 3)) + 1)))]) dX8_keyOf_113 (by exact (Nat.le_of_ble_eq_true rfl)) rfl rfl ?_
            refine ab_iload (i := 4) dX8_keyOf_115 rfl ?_
            refine ab_iconst (v := 4) dX8_keyOf_117 (by decide) ?_
            refine ab_imul dX8_keyOf_118 ?_
            refine ab_iload_n (i := 3) dX8_keyOf_119 rfl rfl ?_
            refine ab_iconst (v := 4) dX8_keyOf_120 (by decide) ?_
            refine ab_ishr dX8_keyOf_121 ?_
            refine ab_iconst (v := 1) dX8_keyOf_122 (by decide) ?_
            refine ab_iand dX8_keyOf_123 ?_
            refine ab_if_eq (tgt := 135) dX8_keyOf_124 (by decide) (fun c30 => ?_) (fun c30 => ?_)
            · have ht := ht.1 c30
              refine ab_iconst (v := 0) dX8_keyOf_135 (by decide) ?_
              refine ab_iadd dX8_keyOf_136 ?_
              refine ab_istore (i := 4) (L' := [some (.ref 38), some (.int x1), some (.ref 27), some (.int (ah_i h b4 (Int32.toNatClampNeg x1))), some (.int ((((((((((x1 * 12) + 0) * 8) + (ah_i h 27 (Int32.toNatClampNeg 1))) * 8) + 0) * 16) + ((ah_i h 27 (Int32.toNatClampNeg 3)) + 1)) * 4) + 0))]) dX8_keyOf_137 (by exact (Nat.le_of_ble_eq_true rfl)) rfl rfl ?_
              refine ab_iload (i := 4) dX8_keyOf_139 rfl ?_
              refine ab_sipush (v := 128) dX8_keyOf_141 (by decide) ?_
              refine ab_imul dX8_keyOf_144 ?_
              refine ab_iload_n (i := 3) dX8_keyOf_145 rfl rfl ?_
              refine ab_iconst (v := 5) dX8_keyOf_146 (by decide) ?_
              refine ab_ishr dX8_keyOf_147 ?_
              refine ab_iconst (v := 1) dX8_keyOf_148 (by decide) ?_
              refine ab_iand dX8_keyOf_149 ?_
              refine ab_if_eq (tgt := 159) dX8_keyOf_150 (by decide) (fun c31 => ?_) (fun c31 => ?_)
              · have ht := ht.1 c31
                refine ab_iconst (v := 0) dX8_keyOf_159 (by decide) ?_
                refine ab_iadd dX8_keyOf_160 ?_
                exact ab_iret rfl dX8_keyOf_161 (Nat.le_of_ble_eq_true rfl) (Nat.le_of_ble_eq_true rfl) ht
              · have ht := ht.2 c31
                refine ab_aload_n (i := 2) dX8_keyOf_153 rfl rfl ?_
                refine ab_iconst (v := 5) dX8_keyOf_154 (by decide) ?_
                refine ab_iald (sh_k hs 27 14 (by decide) rfl) (sh_in hs 27 13 (by decide) (by decide) rfl (by unfold vp_in; decide)) dX8_keyOf_155 ?_
                refine ab_goto (tgt := 160) dX8_keyOf_156 (by decide) ?_
                refine ab_iadd dX8_keyOf_160 ?_
                exact ab_iret rfl dX8_keyOf_161 (Nat.le_of_ble_eq_true rfl) (Nat.le_of_ble_eq_true rfl) ht
            · have ht := ht.2 c30
              refine ab_aload_n (i := 2) dX8_keyOf_127 rfl rfl ?_
              refine ab_iconst (v := 4) dX8_keyOf_128 (by decide) ?_
              refine ab_iald (sh_k hs 27 14 (by decide) rfl) (sh_in hs 27 13 (by decide) (by decide) rfl (by unfold vp_in; decide)) dX8_keyOf_129 ?_
              refine ab_iconst (v := 1) dX8_keyOf_130 (by decide) ?_
              refine ab_iadd dX8_keyOf_131 ?_
              refine ab_goto (tgt := 136) dX8_keyOf_132 (by decide) ?_
              refine ab_iadd dX8_keyOf_136 ?_
              refine ab_istore (i := 4) (L' := [some (.ref 38), some (.int x1), some (.ref 27), some (.int (ah_i h b4 (Int32.toNatClampNeg x1))), some (.int ((((((((((x1 * 12) + 0) * 8) + (ah_i h 27 (Int32.toNatClampNeg 1))) * 8) + 0) * 16) + ((ah_i h 27 (Int32.toNatClampNeg 3)) + 1)) * 4) + ((ah_i h 27 (Int32.toNatClampNeg 4)) + 1)))]) dX8_keyOf_137 (by exact (Nat.le_of_ble_eq_true rfl)) rfl rfl ?_
              refine ab_iload (i := 4) dX8_keyOf_139 rfl ?_
              refine ab_sipush (v := 128) dX8_keyOf_141 (by decide) ?_
              refine ab_imul dX8_keyOf_144 ?_
              refine ab_iload_n (i := 3) dX8_keyOf_145 rfl rfl ?_
              refine ab_iconst (v := 5) dX8_keyOf_146 (by decide) ?_
              refine ab_ishr dX8_keyOf_147 ?_
              refine ab_iconst (v := 1) dX8_keyOf_148 (by decide) ?_
              refine ab_iand dX8_keyOf_149 ?_
              refine ab_if_eq (tgt := 159) dX8_keyOf_150 (by decide) (fun c32 => ?_) (fun c32 => ?_)
              · have ht := ht.1 c32
                refine ab_iconst (v := 0) dX8_keyOf_159 (by decide) ?_
                refine ab_iadd dX8_keyOf_160 ?_
                exact ab_iret rfl dX8_keyOf_161 (Nat.le_of_ble_eq_true rfl) (Nat.le_of_ble_eq_true rfl) ht
              · have ht := ht.2 c32
                refine ab_aload_n (i := 2) dX8_keyOf_153 rfl rfl ?_
                refine ab_iconst (v := 5) dX8_keyOf_154 (by decide) ?_
                refine ab_iald (sh_k hs 27 14 (by decide) rfl) (sh_in hs 27 13 (by decide) (by decide) rfl (by unfold vp_in; decide)) dX8_keyOf_155 ?_
                refine ab_goto (tgt := 160) dX8_keyOf_156 (by decide) ?_
                refine ab_iadd dX8_keyOf_160 ?_
                exact ab_iret rfl dX8_keyOf_161 (Nat.le_of_ble_eq_true rfl) (Nat.le_of_ble_eq_true rfl) ht
        · have ht := ht.2 c25
          refine ab_aload_n (i := 2) dX8_keyOf_78 rfl rfl ?_
          refine ab_iconst (v := 2) dX8_keyOf_79 (by decide) ?_
          refine ab_iald (sh_k hs 27 14 (by decide) rfl) (sh_in hs 27 13 (by decide) (by decide) rfl (by unfold vp_in; decide)) dX8_keyOf_80 ?_
          refine ab_iconst (v := 1) dX8_keyOf_81 (by decide) ?_
          refine ab_iadd dX8_keyOf_82 ?_
          refine ab_goto (tgt := 87) dX8_keyOf_83 (by decide) ?_
          refine ab_iadd dX8_keyOf_87 ?_
          refine ab_istore (i := 4) (L' := [some (.ref 38), some (.int x1), some (.ref 27), some (.int (ah_i h b4 (Int32.toNatClampNeg x1))), some (.int ((((((x1 * 12) + 0) * 8) + (ah_i h 27 (Int32.toNatClampNeg 1))) * 8) + ((ah_i h 27 (Int32.toNatClampNeg 2)) + 1)))]) dX8_keyOf_88 (by exact (Nat.le_of_ble_eq_true rfl)) rfl rfl ?_
          refine ab_iload (i := 4) dX8_keyOf_90 rfl ?_
          refine ab_bipush (v := 16) dX8_keyOf_92 (by decide) ?_
          refine ab_imul dX8_keyOf_94 ?_
          refine ab_iload_n (i := 3) dX8_keyOf_95 rfl rfl ?_
          refine ab_iconst (v := 3) dX8_keyOf_96 (by decide) ?_
          refine ab_ishr dX8_keyOf_97 ?_
          refine ab_iconst (v := 1) dX8_keyOf_98 (by decide) ?_
          refine ab_iand dX8_keyOf_99 ?_
          refine ab_if_eq (tgt := 111) dX8_keyOf_100 (by decide) (fun c33 => ?_) (fun c33 => ?_)
          · have ht := ht.1 c33
            refine ab_iconst (v := 0) dX8_keyOf_111 (by decide) ?_
            refine ab_iadd dX8_keyOf_112 ?_
            refine ab_istore (i := 4) (L' := [some (.ref 38), some (.int x1), some (.ref 27), some (.int (ah_i h b4 (Int32.toNatClampNeg x1))), some (.int ((((((((x1 * 12) + 0) * 8) + (ah_i h 27 (Int32.toNatClampNeg 1))) * 8) + ((ah_i h 27 (Int32.toNatClampNeg 2)) + 1)) * 16) + 0))]) dX8_keyOf_113 (by exact (Nat.le_of_ble_eq_true rfl)) rfl rfl ?_
            refine ab_iload (i := 4) dX8_keyOf_115 rfl ?_
            refine ab_iconst (v := 4) dX8_keyOf_117 (by decide) ?_
            refine ab_imul dX8_keyOf_118 ?_
            refine ab_iload_n (i := 3) dX8_keyOf_119 rfl rfl ?_
            refine ab_iconst (v := 4) dX8_keyOf_120 (by decide) ?_
            refine ab_ishr dX8_keyOf_121 ?_
            refine ab_iconst (v := 1) dX8_keyOf_122 (by decide) ?_
            refine ab_iand dX8_keyOf_123 ?_
            refine ab_if_eq (tgt := 135) dX8_keyOf_124 (by decide) (fun c34 => ?_) (fun c34 => ?_)
            · have ht := ht.1 c34
              refine ab_iconst (v := 0) dX8_keyOf_135 (by decide) ?_
              refine ab_iadd dX8_keyOf_136 ?_
              refine ab_istore (i := 4) (L' := [some (.ref 38), some (.int x1), some (.ref 27), some (.int (ah_i h b4 (Int32.toNatClampNeg x1))), some (.int ((((((((((x1 * 12) + 0) * 8) + (ah_i h 27 (Int32.toNatClampNeg 1))) * 8) + ((ah_i h 27 (Int32.toNatClampNeg 2)) + 1)) * 16) + 0) * 4) + 0))]) dX8_keyOf_137 (by exact (Nat.le_of_ble_eq_true rfl)) rfl rfl ?_
              refine ab_iload (i := 4) dX8_keyOf_139 rfl ?_
              refine ab_sipush (v := 128) dX8_keyOf_141 (by decide) ?_
              refine ab_imul dX8_keyOf_144 ?_
              refine ab_iload_n (i := 3) dX8_keyOf_145 rfl rfl ?_
              refine ab_iconst (v := 5) dX8_keyOf_146 (by decide) ?_
              refine ab_ishr dX8_keyOf_147 ?_
              refine ab_iconst (v := 1) dX8_keyOf_148 (by decide) ?_
              refine ab_iand dX8_keyOf_149 ?_
              refine ab_if_eq (tgt := 159) dX8_keyOf_150 (by decide) (fun c35 => ?_) (fun c35 => ?_)
              · have ht := ht.1 c35
                refine ab_iconst (v := 0) dX8_keyOf_159 (by decide) ?_
                refine ab_iadd dX8_keyOf_160 ?_
                exact ab_iret rfl dX8_keyOf_161 (Nat.le_of_ble_eq_true rfl) (Nat.le_of_ble_eq_true rfl) ht
              · have ht := ht.2 c35
                refine ab_aload_n (i := 2) dX8_keyOf_153 rfl rfl ?_
                refine ab_iconst (v := 5) dX8_keyOf_154 (by decide) ?_
                refine ab_iald (sh_k hs 27 14 (by decide) rfl) (sh_in hs 27 13 (by decide) (by decide) rfl (by unfold vp_in; decide)) dX8_keyOf_155 ?_
                refine ab_goto (tgt := 160) dX8_keyOf_156 (by decide) ?_
                refine ab_iadd dX8_keyOf_160 ?_
                exact ab_iret rfl dX8_keyOf_161 (Nat.le_of_ble_eq_true rfl) (Nat.le_of_ble_eq_true rfl) ht
            · have ht := ht.2 c34
              refine ab_aload_n (i := 2) dX8_keyOf_127 rfl rfl ?_
              refine ab_iconst (v := 4) dX8_keyOf_128 (by decide) ?_
              refine ab_iald (sh_k hs 27 14 (by decide) rfl) (sh_in hs 27 13 (by decide) (by decide) rfl (by unfold vp_in; decide)) dX8_keyOf_129 ?_
              refine ab_iconst (v := 1) dX8_keyOf_130 (by decide) ?_
              refine ab_iadd dX8_keyOf_131 ?_
              refine ab_goto (tgt := 136) dX8_keyOf_132 (by decide) ?_
              refine ab_iadd dX8_keyOf_136 ?_
              refine ab_istore (i := 4) (L' := [some (.ref 38), some (.int x1), some (.ref 27), some (.int (ah_i h b4 (Int32.toNatClampNeg x1))), some (.int ((((((((((x1 * 12) + 0) * 8) + (ah_i h 27 (Int32.toNatClampNeg 1))) * 8) + ((ah_i h 27 (Int32.toNatClampNeg 2)) + 1)) * 16) + 0) * 4) + ((ah_i h 27 (Int32.toNatClampNeg 4)) + 1)))]) dX8_keyOf_137 (by exact (Nat.le_of_ble_eq_true rfl)) rfl rfl ?_
              refine ab_iload (i := 4) dX8_keyOf_139 rfl ?_
              refine ab_sipush (v := 128) dX8_keyOf_141 (by decide) ?_
              refine ab_imul dX8_keyOf_144 ?_
              refine ab_iload_n (i := 3) dX8_keyOf_145 rfl rfl ?_
              refine ab_iconst (v := 5) dX8_keyOf_146 (by decide) ?_
              refine ab_ishr dX8_keyOf_147 ?_
              refine ab_iconst (v := 1) dX8_keyOf_148 (by decide) ?_
              refine ab_iand dX8_keyOf_149 ?_
              refine ab_if_eq (tgt := 159) dX8_keyOf_150 (by decide) (fun c36 => ?_) (fun c36 => ?_)
              · have ht := ht.1 c36
                refine ab_iconst (v := 0) dX8_keyOf_159 (by decide) ?_
                refine ab_iadd dX8_keyOf_160 ?_
                exact ab_iret rfl dX8_keyOf_161 (Nat.le_of_ble_eq_true rfl) (Nat.le_of_ble_eq_true rfl) ht
              · have ht := ht.2 c36
                refine ab_aload_n (i := 2) dX8_keyOf_153 rfl rfl ?_
                refine ab_iconst (v := 5) dX8_keyOf_154 (by decide) ?_
                refine ab_iald (sh_k hs 27 14 (by decide) rfl) (sh_in hs 27 13 (by decide) (by decide) rfl (by unfold vp_in; decide)) dX8_keyOf_155 ?_
                refine ab_goto (tgt := 160) dX8_keyOf_156 (by decide) ?_
                refine ab_iadd dX8_keyOf_160 ?_
                exact ab_iret rfl dX8_keyOf_161 (Nat.le_of_ble_eq_true rfl) (Nat.le_of_ble_eq_true rfl) ht
          · have ht := ht.2 c33
            refine ab_aload_n (i := 2) dX8_keyOf_103 rfl rfl ?_
            refine ab_iconst (v := 3) dX8_keyOf_104 (by decide) ?_
            refine ab_iald (sh_k hs 27 14 (by decide) rfl) (sh_in hs 27 13 (by decide) (by decide) rfl (by unfold vp_in; decide)) dX8_keyOf_105 ?_
            refine ab_iconst (v := 1) dX8_keyOf_106 (by decide) ?_
            refine ab_iadd dX8_keyOf_107 ?_
            refine ab_goto (tgt := 112) dX8_keyOf_108 (by decide) ?_
            refine ab_iadd dX8_keyOf_112 ?_
            refine ab_istore (i := 4) (L' := [some (.ref 38), some (.int x1), some (.ref 27), some (.int (ah_i h b4 (Int32.toNatClampNeg x1))), some (.int ((((((((x1 * 12) + 0) * 8) + (ah_i h 27 (Int32.toNatClampNeg 1))) * 8) + ((ah_i h 27 (Int32.toNatClampNeg 2)) + 1)) * 16) + ((ah_i h 27 (Int32.toNatClampNeg 3)) + 1)))]) dX8_keyOf_113 (by exact (Nat.le_of_ble_eq_true rfl)) rfl rfl ?_
            refine ab_iload (i := 4) dX8_keyOf_115 rfl ?_
            refine ab_iconst (v := 4) dX8_keyOf_117 (by decide) ?_
            refine ab_imul dX8_keyOf_118 ?_
            refine ab_iload_n (i := 3) dX8_keyOf_119 rfl rfl ?_
            refine ab_iconst (v := 4) dX8_keyOf_120 (by decide) ?_
            refine ab_ishr dX8_keyOf_121 ?_
            refine ab_iconst (v := 1) dX8_keyOf_122 (by decide) ?_
            refine ab_iand dX8_keyOf_123 ?_
            refine ab_if_eq (tgt := 135) dX8_keyOf_124 (by decide) (fun c37 => ?_) (fun c37 => ?_)
            · have ht := ht.1 c37
              refine ab_iconst (v := 0) dX8_keyOf_135 (by decide) ?_
              refine ab_iadd dX8_keyOf_136 ?_
              refine ab_istore (i := 4) (L' := [some (.ref 38), some (.int x1), some (.ref 27), some (.int (ah_i h b4 (Int32.toNatClampNeg x1))), some (.int ((((((((((x1 * 12) + 0) * 8) + (ah_i h 27 (Int32.toNatClampNeg 1))) * 8) + ((ah_i h 27 (Int32.toNatClampNeg 2)) + 1)) * 16) + ((ah_i h 27 (Int32.toNatClampNeg 3)) + 1)) * 4) + 0))]) dX8_keyOf_137 (by exact (Nat.le_of_ble_eq_true rfl)) rfl rfl ?_
              refine ab_iload (i := 4) dX8_keyOf_139 rfl ?_
              refine ab_sipush (v := 128) dX8_keyOf_141 (by decide) ?_
              refine ab_imul dX8_keyOf_144 ?_
              refine ab_iload_n (i := 3) dX8_keyOf_145 rfl rfl ?_
              refine ab_iconst (v := 5) dX8_keyOf_146 (by decide) ?_
              refine ab_ishr dX8_keyOf_147 ?_
              refine ab_iconst (v := 1) dX8_keyOf_148 (by decide) ?_
              refine ab_iand dX8_keyOf_149 ?_
              refine ab_if_eq (tgt := 159) dX8_keyOf_150 (by decide) (fun c38 => ?_) (fun c38 => ?_)
              · have ht := ht.1 c38
                refine ab_iconst (v := 0) dX8_keyOf_159 (by decide) ?_
                refine ab_iadd dX8_keyOf_160 ?_
                exact ab_iret rfl dX8_keyOf_161 (Nat.le_of_ble_eq_true rfl) (Nat.le_of_ble_eq_true rfl) ht
              · have ht := ht.2 c38
                refine ab_aload_n (i := 2) dX8_keyOf_153 rfl rfl ?_
                refine ab_iconst (v := 5) dX8_keyOf_154 (by decide) ?_
                refine ab_iald (sh_k hs 27 14 (by decide) rfl) (sh_in hs 27 13 (by decide) (by decide) rfl (by unfold vp_in; decide)) dX8_keyOf_155 ?_
                refine ab_goto (tgt := 160) dX8_keyOf_156 (by decide) ?_
                refine ab_iadd dX8_keyOf_160 ?_
                exact ab_iret rfl dX8_keyOf_161 (Nat.le_of_ble_eq_true rfl) (Nat.le_of_ble_eq_true rfl) ht
            · have ht := ht.2 c37
              refine ab_aload_n (i := 2) dX8_keyOf_127 rfl rfl ?_
              refine ab_iconst (v := 4) dX8_keyOf_128 (by decide) ?_
              refine ab_iald (sh_k hs 27 14 (by decide) rfl) (sh_in hs 27 13 (by decide) (by decide) rfl (by unfold vp_in; decide)) dX8_keyOf_129 ?_
              refine ab_iconst (v := 1) dX8_keyOf_130 (by decide) ?_
              refine ab_iadd dX8_keyOf_131 ?_
              refine ab_goto (tgt := 136) dX8_keyOf_132 (by decide) ?_
              refine ab_iadd dX8_keyOf_136 ?_
              refine ab_istore (i := 4) (L' := [some (.ref 38), some (.int x1), some (.ref 27), some (.int (ah_i h b4 (Int32.toNatClampNeg x1))), some (.int ((((((((((x1 * 12) + 0) * 8) + (ah_i h 27 (Int32.toNatClampNeg 1))) * 8) + ((ah_i h 27 (Int32.toNatClampNeg 2)) + 1)) * 16) + ((ah_i h 27 (Int32.toNatClampNeg 3)) + 1)) * 4) + ((ah_i h 27 (Int32.toNatClampNeg 4)) + 1)))]) dX8_keyOf_137 (by exact (Nat.le_of_ble_eq_true rfl)) rfl rfl ?_
              refine ab_iload (i := 4) dX8_keyOf_139 rfl ?_
              refine ab_sipush (v := 128) dX8_keyOf_141 (by decide) ?_
              refine ab_imul dX8_keyOf_144 ?_
              refine ab_iload_n (i := 3) dX8_keyOf_145 rfl rfl ?_
              refine ab_iconst (v := 5) dX8_keyOf_146 (by decide) ?_
              refine ab_ishr dX8_keyOf_147 ?_
              refine ab_iconst (v := 1) dX8_keyOf_148 (by decide) ?_
              refine ab_iand dX8_keyOf_149 ?_
              refine ab_if_eq (tgt := 159) dX8_keyOf_150 (by decide) (fun c39 => ?_) (fun c39 => ?_)
              · have ht := ht.1 c39
                refine ab_iconst (v := 0) dX8_keyOf_159 (by decide) ?_
                refine ab_iadd dX8_keyOf_160 ?_
                exact ab_iret rfl dX8_keyOf_161 (Nat.le_of_ble_eq_true rfl) (Nat.le_of_ble_eq_true rfl) ht
              · have ht := ht.2 c39
                refine ab_aload_n (i := 2) dX8_keyOf_153 rfl rfl ?_
                refine ab_iconst (v := 5) dX8_keyOf_154 (by decide) ?_
                refine ab_iald (sh_k hs 27 14 (by decide) rfl) (sh_in hs 27 13 (by decide) (by decide) rfl (by unfold vp_in; decide)) dX8_keyOf_155 ?_
                refine ab_goto (tgt := 160) dX8_keyOf_156 (by decide) ?_
                refine ab_iadd dX8_keyOf_160 ?_
                exact ab_iret rfl dX8_keyOf_161 (Nat.le_of_ble_eq_true rfl) (Nat.le_of_ble_eq_true rfl) ht
    · have ht := ht.2 c8
      refine ab_aload_n (i := 2) dX8_keyOf_30 rfl rfl ?_
      refine ab_iconst (v := 0) dX8_keyOf_31 (by decide) ?_
      refine ab_iald (sh_k hs 27 14 (by decide) rfl) (sh_in hs 27 13 (by decide) (by decide) rfl (by unfold vp_in; decide)) dX8_keyOf_32 ?_
      refine ab_iconst (v := 1) dX8_keyOf_33 (by decide) ?_
      refine ab_iadd dX8_keyOf_34 ?_
      refine ab_goto (tgt := 39) dX8_keyOf_35 (by decide) ?_
      refine ab_iadd dX8_keyOf_39 ?_
      refine ab_istore (i := 4) (L' := [some (.ref 38), some (.int x1), some (.ref 27), some (.int (ah_i h b4 (Int32.toNatClampNeg x1))), some (.int ((x1 * 12) + ((ah_i h 27 (Int32.toNatClampNeg 0)) + 1)))]) dX8_keyOf_40 (by exact (Nat.le_of_ble_eq_true rfl)) rfl rfl ?_
      refine ab_iload (i := 4) dX8_keyOf_42 rfl ?_
      refine ab_bipush (v := 8) dX8_keyOf_44 (by decide) ?_
      refine ab_imul dX8_keyOf_46 ?_
      refine ab_iload_n (i := 3) dX8_keyOf_47 rfl rfl ?_
      refine ab_iconst (v := 1) dX8_keyOf_48 (by decide) ?_
      refine ab_ishr dX8_keyOf_49 ?_
      refine ab_iconst (v := 1) dX8_keyOf_50 (by decide) ?_
      refine ab_iand dX8_keyOf_51 ?_
      refine ab_if_eq (tgt := 61) dX8_keyOf_52 (by decide) (fun c40 => ?_) (fun c40 => ?_)
      · have ht := ht.1 c40
        refine ab_iconst (v := 0) dX8_keyOf_61 (by decide) ?_
        refine ab_iadd dX8_keyOf_62 ?_
        refine ab_istore (i := 4) (L' := [some (.ref 38), some (.int x1), some (.ref 27), some (.int (ah_i h b4 (Int32.toNatClampNeg x1))), some (.int ((((x1 * 12) + ((ah_i h 27 (Int32.toNatClampNeg 0)) + 1)) * 8) + 0))]) dX8_keyOf_63 (by exact (Nat.le_of_ble_eq_true rfl)) rfl rfl ?_
        refine ab_iload (i := 4) dX8_keyOf_65 rfl ?_
        refine ab_bipush (v := 8) dX8_keyOf_67 (by decide) ?_
        refine ab_imul dX8_keyOf_69 ?_
        refine ab_iload_n (i := 3) dX8_keyOf_70 rfl rfl ?_
        refine ab_iconst (v := 2) dX8_keyOf_71 (by decide) ?_
        refine ab_ishr dX8_keyOf_72 ?_
        refine ab_iconst (v := 1) dX8_keyOf_73 (by decide) ?_
        refine ab_iand dX8_keyOf_74 ?_
        refine ab_if_eq (tgt := 86) dX8_keyOf_75 (by decide) (fun c41 => ?_) (fun c41 => ?_)
        · have ht := ht.1 c41
          refine ab_iconst (v := 0) dX8_keyOf_86 (by decide) ?_
          refine ab_iadd dX8_keyOf_87 ?_
          refine ab_istore (i := 4) (L' := [some (.ref 38), some (.int x1), some (.ref 27), some (.int (ah_i h b4 (Int32.toNatClampNeg x1))), some (.int ((((((x1 * 12) + ((ah_i h 27 (Int32.toNatClampNeg 0)) + 1)) * 8) + 0) * 8) + 0))]) dX8_keyOf_88 (by exact (Nat.le_of_ble_eq_true rfl)) rfl rfl ?_
          refine ab_iload (i := 4) dX8_keyOf_90 rfl ?_
          refine ab_bipush (v := 16) dX8_keyOf_92 (by decide) ?_
          refine ab_imul dX8_keyOf_94 ?_
          refine ab_iload_n (i := 3) dX8_keyOf_95 rfl rfl ?_
          refine ab_iconst (v := 3) dX8_keyOf_96 (by decide) ?_
          refine ab_ishr dX8_keyOf_97 ?_
          refine ab_iconst (v := 1) dX8_keyOf_98 (by decide) ?_
          refine ab_iand dX8_keyOf_99 ?_
          refine ab_if_eq (tgt := 111) dX8_keyOf_100 (by decide) (fun c42 => ?_) (fun c42 => ?_)
          · have ht := ht.1 c42
            refine ab_iconst (v := 0) dX8_keyOf_111 (by decide) ?_
            refine ab_iadd dX8_keyOf_112 ?_
            refine ab_istore (i := 4) (L' := [some (.ref 38), some (.int x1), some (.ref 27), some (.int (ah_i h b4 (Int32.toNatClampNeg x1))), some (.int ((((((((x1 * 12) + ((ah_i h 27 (Int32.toNatClampNeg 0)) + 1)) * 8) + 0) * 8) + 0) * 16) + 0))]) dX8_keyOf_113 (by exact (Nat.le_of_ble_eq_true rfl)) rfl rfl ?_
            refine ab_iload (i := 4) dX8_keyOf_115 rfl ?_
            refine ab_iconst (v := 4) dX8_keyOf_117 (by decide) ?_
            refine ab_imul dX8_keyOf_118 ?_
            refine ab_iload_n (i := 3) dX8_keyOf_119 rfl rfl ?_
            refine ab_iconst (v := 4) dX8_keyOf_120 (by decide) ?_
            refine ab_ishr dX8_keyOf_121 ?_
            refine ab_iconst (v := 1) dX8_keyOf_122 (by decide) ?_
            refine ab_iand dX8_keyOf_123 ?_
            refine ab_if_eq (tgt := 135) dX8_keyOf_124 (by decide) (fun c43 => ?_) (fun c43 => ?_)
            · have ht := ht.1 c43
              refine ab_iconst (v := 0) dX8_keyOf_135 (by decide) ?_
              refine ab_iadd dX8_keyOf_136 ?_
              refine ab_istore (i := 4) (L' := [some (.ref 38), some (.int x1), some (.ref 27), some (.int (ah_i h b4 (Int32.toNatClampNeg x1))), some (.int ((((((((((x1 * 12) + ((ah_i h 27 (Int32.toNatClampNeg 0)) + 1)) * 8) + 0) * 8) + 0) * 16) + 0) * 4) + 0))]) dX8_keyOf_137 (by exact (Nat.le_of_ble_eq_true rfl)) rfl rfl ?_
              refine ab_iload (i := 4) dX8_keyOf_139 rfl ?_
              refine ab_sipush (v := 128) dX8_keyOf_141 (by decide) ?_
              refine ab_imul dX8_keyOf_144 ?_
              refine ab_iload_n (i := 3) dX8_keyOf_145 rfl rfl ?_
              refine ab_iconst (v := 5) dX8_keyOf_146 (by decide) ?_
              refine ab_ishr dX8_keyOf_147 ?_
              refine ab_iconst (v := 1) dX8_keyOf_148 (by decide) ?_
              refine ab_iand dX8_keyOf_149 ?_
              refine ab_if_eq (tgt := 159) dX8_keyOf_150 (by decide) (fun c44 => ?_) (fun c44 => ?_)
              · have ht := ht.1 c44
                refine ab_iconst (v := 0) dX8_keyOf_159 (by decide) ?_
                refine ab_iadd dX8_keyOf_160 ?_
                exact ab_iret rfl dX8_keyOf_161 (Nat.le_of_ble_eq_true rfl) (Nat.le_of_ble_eq_true rfl) ht
              · have ht := ht.2 c44
                refine ab_aload_n (i := 2) dX8_keyOf_153 rfl rfl ?_
                refine ab_iconst (v := 5) dX8_keyOf_154 (by decide) ?_
                refine ab_iald (sh_k hs 27 14 (by decide) rfl) (sh_in hs 27 13 (by decide) (by decide) rfl (by unfold vp_in; decide)) dX8_keyOf_155 ?_
                refine ab_goto (tgt := 160) dX8_keyOf_156 (by decide) ?_
                refine ab_iadd dX8_keyOf_160 ?_
                exact ab_iret rfl dX8_keyOf_161 (Nat.le_of_ble_eq_true rfl) (Nat.le_of_ble_eq_true rfl) ht
            · have ht := ht.2 c43
              refine ab_aload_n (i := 2) dX8_keyOf_127 rfl rfl ?_
              refine ab_iconst (v := 4) dX8_keyOf_128 (by decide) ?_
              refine ab_iald (sh_k hs 27 14 (by decide) rfl) (sh_in hs 27 13 (by decide) (by decide) rfl (by unfold vp_in; decide)) dX8_keyOf_129 ?_
              refine ab_iconst (v := 1) dX8_keyOf_130 (by decide) ?_
              refine ab_iadd dX8_keyOf_131 ?_
              refine ab_goto (tgt := 136) dX8_keyOf_132 (by decide) ?_
              refine ab_iadd dX8_keyOf_136 ?_
              refine ab_istore (i := 4) (L' := [some (.ref 38), some (.int x1), some (.ref 27), some (.int (ah_i h b4 (Int32.toNatClampNeg x1))), some (.int ((((((((((x1 * 12) + ((ah_i h 27 (Int32.toNatClampNeg 0)) + 1)) * 8) + 0) * 8) + 0) * 16) + 0) * 4) + ((ah_i h 27 (Int32.toNatClampNeg 4)) + 1)))]) dX8_keyOf_137 (by exact (Nat.le_of_ble_eq_true rfl)) rfl rfl ?_
              refine ab_iload (i := 4) dX8_keyOf_139 rfl ?_
              refine ab_sipush (v := 128) dX8_keyOf_141 (by decide) ?_
              refine ab_imul dX8_keyOf_144 ?_
              refine ab_iload_n (i := 3) dX8_keyOf_145 rfl rfl ?_
              refine ab_iconst (v := 5) dX8_keyOf_146 (by decide) ?_
              refine ab_ishr dX8_keyOf_147 ?_
              refine ab_iconst (v := 1) dX8_keyOf_148 (by decide) ?_
              refine ab_iand dX8_keyOf_149 ?_
              refine ab_if_eq (tgt := 159) dX8_keyOf_150 (by decide) (fun c45 => ?_) (fun c45 => ?_)
              · have ht := ht.1 c45
                refine ab_iconst (v := 0) dX8_keyOf_159 (by decide) ?_
                refine ab_iadd dX8_keyOf_160 ?_
                exact ab_iret rfl dX8_keyOf_161 (Nat.le_of_ble_eq_true rfl) (Nat.le_of_ble_eq_true rfl) ht
              · have ht := ht.2 c45
                refine ab_aload_n (i := 2) dX8_keyOf_153 rfl rfl ?_
                refine ab_iconst (v := 5) dX8_keyOf_154 (by decide) ?_
                refine ab_iald (sh_k hs 27 14 (by decide) rfl) (sh_in hs 27 13 (by decide) (by decide) rfl (by unfold vp_in; decide)) dX8_keyOf_155 ?_
                refine ab_goto (tgt := 160) dX8_keyOf_156 (by decide) ?_
                refine ab_iadd dX8_keyOf_160 ?_
                exact ab_iret rfl dX8_keyOf_161 (Nat.le_of_ble_eq_true rfl) (Nat.le_of_ble_eq_true rfl) ht
          · have ht := ht.2 c42
            refine ab_aload_n (i := 2) dX8_keyOf_103 rfl rfl ?_
            refine ab_iconst (v := 3) dX8_keyOf_104 (by decide) ?_
            refine ab_iald (sh_k hs 27 14 (by decide) rfl) (sh_in hs 27 13 (by decide) (by decide) rfl (by unfold vp_in; decide)) dX8_keyOf_105 ?_
            refine ab_iconst (v := 1) dX8_keyOf_106 (by decide) ?_
            refine ab_iadd dX8_keyOf_107 ?_
            refine ab_goto (tgt := 112) dX8_keyOf_108 (by decide) ?_
            refine ab_iadd dX8_keyOf_112 ?_
            refine ab_istore (i := 4) (L' := [some (.ref 38), some (.int x1), some (.ref 27), some (.int (ah_i h b4 (Int32.toNatClampNeg x1))), some (.int ((((((((x1 * 12) + ((ah_i h 27 (Int32.toNatClampNeg 0)) + 1)) * 8) + 0) * 8) + 0) * 16) + ((ah_i h 27 (Int32.toNatClampNeg 3)) + 1)))]) dX8_keyOf_113 (by exact (Nat.le_of_ble_eq_true rfl)) rfl rfl ?_
            refine ab_iload (i := 4) dX8_keyOf_115 rfl ?_
            refine ab_iconst (v := 4) dX8_keyOf_117 (by decide) ?_
            refine ab_imul dX8_keyOf_118 ?_
            refine ab_iload_n (i := 3) dX8_keyOf_119 rfl rfl ?_
            refine ab_iconst (v := 4) dX8_keyOf_120 (by decide) ?_
            refine ab_ishr dX8_keyOf_121 ?_
            refine ab_iconst (v := 1) dX8_keyOf_122 (by decide) ?_
            refine ab_iand dX8_keyOf_123 ?_
            refine ab_if_eq (tgt := 135) dX8_keyOf_124 (by decide) (fun c46 => ?_) (fun c46 => ?_)
            · have ht := ht.1 c46
              refine ab_iconst (v := 0) dX8_keyOf_135 (by decide) ?_
              refine ab_iadd dX8_keyOf_136 ?_
              refine ab_istore (i := 4) (L' := [some (.ref 38), some (.int x1), some (.ref 27), some (.int (ah_i h b4 (Int32.toNatClampNeg x1))), some (.int ((((((((((x1 * 12) + ((ah_i h 27 (Int32.toNatClampNeg 0)) + 1)) * 8) + 0) * 8) + 0) * 16) + ((ah_i h 27 (Int32.toNatClampNeg 3)) + 1)) * 4) + 0))]) dX8_keyOf_137 (by exact (Nat.le_of_ble_eq_true rfl)) rfl rfl ?_
              refine ab_iload (i := 4) dX8_keyOf_139 rfl ?_
              refine ab_sipush (v := 128) dX8_keyOf_141 (by decide) ?_
              refine ab_imul dX8_keyOf_144 ?_
              refine ab_iload_n (i := 3) dX8_keyOf_145 rfl rfl ?_
              refine ab_iconst (v := 5) dX8_keyOf_146 (by decide) ?_
              refine ab_ishr dX8_keyOf_147 ?_
              refine ab_iconst (v := 1) dX8_keyOf_148 (by decide) ?_
              refine ab_iand dX8_keyOf_149 ?_
              refine ab_if_eq (tgt := 159) dX8_keyOf_150 (by decide) (fun c47 => ?_) (fun c47 => ?_)
              · have ht := ht.1 c47
                refine ab_iconst (v := 0) dX8_keyOf_159 (by decide) ?_
                refine ab_iadd dX8_keyOf_160 ?_
                exact ab_iret rfl dX8_keyOf_161 (Nat.le_of_ble_eq_true rfl) (Nat.le_of_ble_eq_true rfl) ht
              · have ht := ht.2 c47
                refine ab_aload_n (i := 2) dX8_keyOf_153 rfl rfl ?_
                refine ab_iconst (v := 5) dX8_keyOf_154 (by decide) ?_
                refine ab_iald (sh_k hs 27 14 (by decide) rfl) (sh_in hs 27 13 (by decide) (by decide) rfl (by unfold vp_in; decide)) dX8_keyOf_155 ?_
                refine ab_goto (tgt := 160) dX8_keyOf_156 (by decide) ?_
                refine ab_iadd dX8_keyOf_160 ?_
                exact ab_iret rfl dX8_keyOf_161 (Nat.le_of_ble_eq_true rfl) (Nat.le_of_ble_eq_true rfl) ht
            · have ht := ht.2 c46
              refine ab_aload_n (i := 2) dX8_keyOf_127 rfl rfl ?_
              refine ab_iconst (v := 4) dX8_keyOf_128 (by decide) ?_
              refine ab_iald (sh_k hs 27 14 (by decide) rfl) (sh_in hs 27 13 (by decide) (by decide) rfl (by unfold vp_in; decide)) dX8_keyOf_129 ?_
              refine ab_iconst (v := 1) dX8_keyOf_130 (by decide) ?_
              refine ab_iadd dX8_keyOf_131 ?_
              refine ab_goto (tgt := 136) dX8_keyOf_132 (by decide) ?_
              refine ab_iadd dX8_keyOf_136 ?_
              refine ab_istore (i := 4) (L' := [some (.ref 38), some (.int x1), some (.ref 27), some (.int (ah_i h b4 (Int32.toNatClampNeg x1))), some (.int ((((((((((x1 * 12) + ((ah_i h 27 (Int32.toNatClampNeg 0)) + 1)) * 8) + 0) * 8) + 0) * 16) + ((ah_i h 27 (Int32.toNatClampNeg 3)) + 1)) * 4) + ((ah_i h 27 (Int32.toNatClampNeg 4)) + 1)))]) dX8_keyOf_137 (by exact (Nat.le_of_ble_eq_true rfl)) rfl rfl ?_
              refine ab_iload (i := 4) dX8_keyOf_139 rfl ?_
              refine ab_sipush (v := 128) dX8_keyOf_141 (by decide) ?_
              refine ab_imul dX8_keyOf_144 ?_
              refine ab_iload_n (i := 3) dX8_keyOf_145 rfl rfl ?_
              refine ab_iconst (v := 5) dX8_keyOf_146 (by decide) ?_
              refine ab_ishr dX8_keyOf_147 ?_
              refine ab_iconst (v := 1) dX8_keyOf_148 (by decide) ?_
              refine ab_iand dX8_keyOf_149 ?_
              refine ab_if_eq (tgt := 159) dX8_keyOf_150 (by decide) (fun c48 => ?_) (fun c48 => ?_)
              · have ht := ht.1 c48
                refine ab_iconst (v := 0) dX8_keyOf_159 (by decide) ?_
                refine ab_iadd dX8_keyOf_160 ?_
                exact ab_iret rfl dX8_keyOf_161 (Nat.le_of_ble_eq_true rfl) (Nat.le_of_ble_eq_true rfl) ht
              · have ht := ht.2 c48
                refine ab_aload_n (i := 2) dX8_keyOf_153 rfl rfl ?_
                refine ab_iconst (v := 5) dX8_keyOf_154 (by decide) ?_
                refine ab_iald (sh_k hs 27 14 (by decide) rfl) (sh_in hs 27 13 (by decide) (by decide) rfl (by unfold vp_in; decide)) dX8_keyOf_155 ?_
                refine ab_goto (tgt := 160) dX8_keyOf_156 (by decide) ?_
                refine ab_iadd dX8_keyOf_160 ?_
                exact ab_iret rfl dX8_keyOf_161 (Nat.le_of_ble_eq_true rfl) (Nat.le_of_ble_eq_true rfl) ht
        · have ht := ht.2 c41
          refine ab_aload_n (i := 2) dX8_keyOf_78 rfl rfl ?_
          refine ab_iconst (v := 2) dX8_keyOf_79 (by decide) ?_
          refine ab_iald (sh_k hs 27 14 (by decide) rfl) (sh_in hs 27 13 (by decide) (by decide) rfl (by unfold vp_in; decide)) dX8_keyOf_80 ?_
          refine ab_iconst (v := 1) dX8_keyOf_81 (by decide) ?_
          refine ab_iadd dX8_keyOf_82 ?_
          refine ab_goto (tgt := 87) dX8_keyOf_83 (by decide) ?_
          refine ab_iadd dX8_keyOf_87 ?_
          refine ab_istore (i := 4) (L' := [some (.ref 38), some (.int x1), some (.ref 27), some (.int (ah_i h b4 (Int32.toNatClampNeg x1))), some (.int ((((((x1 * 12) + ((ah_i h 27 (Int32.toNatClampNeg 0)) + 1)) * 8) + 0) * 8) + ((ah_i h 27 (Int32.toNatClampNeg 2)) + 1)))]) dX8_keyOf_88 (by exact (Nat.le_of_ble_eq_true rfl)) rfl rfl ?_
          refine ab_iload (i := 4) dX8_keyOf_90 rfl ?_
          refine ab_bipush (v := 16) dX8_keyOf_92 (by decide) ?_
          refine ab_imul dX8_keyOf_94 ?_
          refine ab_iload_n (i := 3) dX8_keyOf_95 rfl rfl ?_
          refine ab_iconst (v := 3) dX8_keyOf_96 (by decide) ?_
          refine ab_ishr dX8_keyOf_97 ?_
          refine ab_iconst (v := 1) dX8_keyOf_98 (by decide) ?_
          refine ab_iand dX8_keyOf_99 ?_
          refine ab_if_eq (tgt := 111) dX8_keyOf_100 (by decide) (fun c49 => ?_) (fun c49 => ?_)
          · have ht := ht.1 c49
            refine ab_iconst (v := 0) dX8_keyOf_111 (by decide) ?_
            refine ab_iadd dX8_keyOf_112 ?_
            refine ab_istore (i := 4) (L' := [some (.ref 38), some (.int x1), some (.ref 27), some (.int (ah_i h b4 (Int32.toNatClampNeg x1))), some (.int ((((((((x1 * 12) + ((ah_i h 27 (Int32.toNatClampNeg 0)) + 1)) * 8) + 0) * 8) + ((ah_i h 27 (Int32.toNatClampNeg 2)) + 1)) * 16) + 0))]) dX8_keyOf_113 (by exact (Nat.le_of_ble_eq_true rfl)) rfl rfl ?_
            refine ab_iload (i := 4) dX8_keyOf_115 rfl ?_
            refine ab_iconst (v := 4) dX8_keyOf_117 (by decide) ?_
            refine ab_imul dX8_keyOf_118 ?_
            refine ab_iload_n (i := 3) dX8_keyOf_119 rfl rfl ?_
            refine ab_iconst (v := 4) dX8_keyOf_120 (by decide) ?_
            refine ab_ishr dX8_keyOf_121 ?_
            refine ab_iconst (v := 1) dX8_keyOf_122 (by decide) ?_
            refine ab_iand dX8_keyOf_123 ?_
            refine ab_if_eq (tgt := 135) dX8_keyOf_124 (by decide) (fun c50 => ?_) (fun c50 => ?_)
            · have ht := ht.1 c50
              refine ab_iconst (v := 0) dX8_keyOf_135 (by decide) ?_
              refine ab_iadd dX8_keyOf_136 ?_
              refine ab_istore (i := 4) (L' := [some (.ref 38), some (.int x1), some (.ref 27), some (.int (ah_i h b4 (Int32.toNatClampNeg x1))), some (.int ((((((((((x1 * 12) + ((ah_i h 27 (Int32.toNatClampNeg 0)) + 1)) * 8) + 0) * 8) + ((ah_i h 27 (Int32.toNatClampNeg 2)) + 1)) * 16) + 0) * 4) + 0))]) dX8_keyOf_137 (by exact (Nat.le_of_ble_eq_true rfl)) rfl rfl ?_
              refine ab_iload (i := 4) dX8_keyOf_139 rfl ?_
              refine ab_sipush (v := 128) dX8_keyOf_141 (by decide) ?_
              refine ab_imul dX8_keyOf_144 ?_
              refine ab_iload_n (i := 3) dX8_keyOf_145 rfl rfl ?_
              refine ab_iconst (v := 5) dX8_keyOf_146 (by decide) ?_
              refine ab_ishr dX8_keyOf_147 ?_
              refine ab_iconst (v := 1) dX8_keyOf_148 (by decide) ?_
              refine ab_iand dX8_keyOf_149 ?_
              refine ab_if_eq (tgt := 159) dX8_keyOf_150 (by decide) (fun c51 => ?_) (fun c51 => ?_)
              · have ht := ht.1 c51
                refine ab_iconst (v := 0) dX8_keyOf_159 (by decide) ?_
                refine ab_iadd dX8_keyOf_160 ?_
                exact ab_iret rfl dX8_keyOf_161 (Nat.le_of_ble_eq_true rfl) (Nat.le_of_ble_eq_true rfl) ht
              · have ht := ht.2 c51
                refine ab_aload_n (i := 2) dX8_keyOf_153 rfl rfl ?_
                refine ab_iconst (v := 5) dX8_keyOf_154 (by decide) ?_
                refine ab_iald (sh_k hs 27 14 (by decide) rfl) (sh_in hs 27 13 (by decide) (by decide) rfl (by unfold vp_in; decide)) dX8_keyOf_155 ?_
                refine ab_goto (tgt := 160) dX8_keyOf_156 (by decide) ?_
                refine ab_iadd dX8_keyOf_160 ?_
                exact ab_iret rfl dX8_keyOf_161 (Nat.le_of_ble_eq_true rfl) (Nat.le_of_ble_eq_true rfl) ht
            · have ht := ht.2 c50
              refine ab_aload_n (i := 2) dX8_keyOf_127 rfl rfl ?_
              refine ab_iconst (v := 4) dX8_keyOf_128 (by decide) ?_
              refine ab_iald (sh_k hs 27 14 (by decide) rfl) (sh_in hs 27 13 (by decide) (by decide) rfl (by unfold vp_in; decide)) dX8_keyOf_129 ?_
              refine ab_iconst (v := 1) dX8_keyOf_130 (by decide) ?_
              refine ab_iadd dX8_keyOf_131 ?_
              refine ab_goto (tgt := 136) dX8_keyOf_132 (by decide) ?_
              refine ab_iadd dX8_keyOf_136 ?_
              refine ab_istore (i := 4) (L' := [some (.ref 38), some (.int x1), some (.ref 27), some (.int (ah_i h b4 (Int32.toNatClampNeg x1))), some (.int ((((((((((x1 * 12) + ((ah_i h 27 (Int32.toNatClampNeg 0)) + 1)) * 8) + 0) * 8) + ((ah_i h 27 (Int32.toNatClampNeg 2)) + 1)) * 16) + 0) * 4) + ((ah_i h 27 (Int32.toNatClampNeg 4)) + 1)))]) dX8_keyOf_137 (by exact (Nat.le_of_ble_eq_true rfl)) rfl rfl ?_
              refine ab_iload (i := 4) dX8_keyOf_139 rfl ?_
              refine ab_sipush (v := 128) dX8_keyOf_141 (by decide) ?_
              refine ab_imul dX8_keyOf_144 ?_
              refine ab_iload_n (i := 3) dX8_keyOf_145 rfl rfl ?_
              refine ab_iconst (v := 5) dX8_keyOf_146 (by decide) ?_
              refine ab_ishr dX8_keyOf_147 ?_
              refine ab_iconst (v := 1) dX8_keyOf_148 (by decide) ?_
              refine ab_iand dX8_keyOf_149 ?_
              refine ab_if_eq (tgt := 159) dX8_keyOf_150 (by decide) (fun c52 => ?_) (fun c52 => ?_)
              · have ht := ht.1 c52
                refine ab_iconst (v := 0) dX8_keyOf_159 (by decide) ?_
                refine ab_iadd dX8_keyOf_160 ?_
                exact ab_iret rfl dX8_keyOf_161 (Nat.le_of_ble_eq_true rfl) (Nat.le_of_ble_eq_true rfl) ht
              · have ht := ht.2 c52
                refine ab_aload_n (i := 2) dX8_keyOf_153 rfl rfl ?_
                refine ab_iconst (v := 5) dX8_keyOf_154 (by decide) ?_
                refine ab_iald (sh_k hs 27 14 (by decide) rfl) (sh_in hs 27 13 (by decide) (by decide) rfl (by unfold vp_in; decide)) dX8_keyOf_155 ?_
                refine ab_goto (tgt := 160) dX8_keyOf_156 (by decide) ?_
                refine ab_iadd dX8_keyOf_160 ?_
                exact ab_iret rfl dX8_keyOf_161 (Nat.le_of_ble_eq_true rfl) (Nat.le_of_ble_eq_true rfl) ht
          · have ht := ht.2 c49
            refine ab_aload_n (i := 2) dX8_keyOf_103 rfl rfl ?_
            refine ab_iconst (v := 3) dX8_keyOf_104 (by decide) ?_
            refine ab_iald (sh_k hs 27 14 (by decide) rfl) (sh_in hs 27 13 (by decide) (by decide) rfl (by unfold vp_in; decide)) dX8_keyOf_105 ?_
            refine ab_iconst (v := 1) dX8_keyOf_106 (by decide) ?_
            refine ab_iadd dX8_keyOf_107 ?_
            refine ab_goto (tgt := 112) dX8_keyOf_108 (by decide) ?_
            refine ab_iadd dX8_keyOf_112 ?_
            refine ab_istore (i := 4) (L' := [some (.ref 38), some (.int x1), some (.ref 27), some (.int (ah_i h b4 (Int32.toNatClampNeg x1))), some (.int ((((((((x1 * 12) + ((ah_i h 27 (Int32.toNatClampNeg 0)) + 1)) * 8) + 0) * 8) + ((ah_i h 27 (Int32.toNatClampNeg 2)) + 1)) * 16) + ((ah_i h 27 (Int32.toNatClampNeg 3)) + 1)))]) dX8_keyOf_113 (by exact (Nat.le_of_ble_eq_true rfl)) rfl rfl ?_
            refine ab_iload (i := 4) dX8_keyOf_115 rfl ?_
            refine ab_iconst (v := 4) dX8_keyOf_117 (by decide) ?_
            refine ab_imul dX8_keyOf_118 ?_
            refine ab_iload_n (i := 3) dX8_keyOf_119 rfl rfl ?_
            refine ab_iconst (v := 4) dX8_keyOf_120 (by decide) ?_
            refine ab_ishr dX8_keyOf_121 ?_
            refine ab_iconst (v := 1) dX8_keyOf_122 (by decide) ?_
            refine ab_iand dX8_keyOf_123 ?_
            refine ab_if_eq (tgt := 135) dX8_keyOf_124 (by decide) (fun c53 => ?_) (fun c53 => ?_)
            · have ht := ht.1 c53
              refine ab_iconst (v := 0) dX8_keyOf_135 (by decide) ?_
              refine ab_iadd dX8_keyOf_136 ?_
              refine ab_istore (i := 4) (L' := [some (.ref 38), some (.int x1), some (.ref 27), some (.int (ah_i h b4 (Int32.toNatClampNeg x1))), some (.int ((((((((((x1 * 12) + ((ah_i h 27 (Int32.toNatClampNeg 0)) + 1)) * 8) + 0) * 8) + ((ah_i h 27 (Int32.toNatClampNeg 2)) + 1)) * 16) + ((ah_i h 27 (Int32.toNatClampNeg 3)) + 1)) * 4) + 0))]) dX8_keyOf_137 (by exact (Nat.le_of_ble_eq_true rfl)) rfl rfl ?_
              refine ab_iload (i := 4) dX8_keyOf_139 rfl ?_
              refine ab_sipush (v := 128) dX8_keyOf_141 (by decide) ?_
              refine ab_imul dX8_keyOf_144 ?_
              refine ab_iload_n (i := 3) dX8_keyOf_145 rfl rfl ?_
              refine ab_iconst (v := 5) dX8_keyOf_146 (by decide) ?_
              refine ab_ishr dX8_keyOf_147 ?_
              refine ab_iconst (v := 1) dX8_keyOf_148 (by decide) ?_
              refine ab_iand dX8_keyOf_149 ?_
              refine ab_if_eq (tgt := 159) dX8_keyOf_150 (by decide) (fun c54 => ?_) (fun c54 => ?_)
              · have ht := ht.1 c54
                refine ab_iconst (v := 0) dX8_keyOf_159 (by decide) ?_
                refine ab_iadd dX8_keyOf_160 ?_
                exact ab_iret rfl dX8_keyOf_161 (Nat.le_of_ble_eq_true rfl) (Nat.le_of_ble_eq_true rfl) ht
              · have ht := ht.2 c54
                refine ab_aload_n (i := 2) dX8_keyOf_153 rfl rfl ?_
                refine ab_iconst (v := 5) dX8_keyOf_154 (by decide) ?_
                refine ab_iald (sh_k hs 27 14 (by decide) rfl) (sh_in hs 27 13 (by decide) (by decide) rfl (by unfold vp_in; decide)) dX8_keyOf_155 ?_
                refine ab_goto (tgt := 160) dX8_keyOf_156 (by decide) ?_
                refine ab_iadd dX8_keyOf_160 ?_
                exact ab_iret rfl dX8_keyOf_161 (Nat.le_of_ble_eq_true rfl) (Nat.le_of_ble_eq_true rfl) ht
            · have ht := ht.2 c53
              refine ab_aload_n (i := 2) dX8_keyOf_127 rfl rfl ?_
              refine ab_iconst (v := 4) dX8_keyOf_128 (by decide) ?_
              refine ab_iald (sh_k hs 27 14 (by decide) rfl) (sh_in hs 27 13 (by decide) (by decide) rfl (by unfold vp_in; decide)) dX8_keyOf_129 ?_
              refine ab_iconst (v := 1) dX8_keyOf_130 (by decide) ?_
              refine ab_iadd dX8_keyOf_131 ?_
              refine ab_goto (tgt := 136) dX8_keyOf_132 (by decide) ?_
              refine ab_iadd dX8_keyOf_136 ?_
              refine ab_istore (i := 4) (L' := [some (.ref 38), some (.int x1), some (.ref 27), some (.int (ah_i h b4 (Int32.toNatClampNeg x1))), some (.int ((((((((((x1 * 12) + ((ah_i h 27 (Int32.toNatClampNeg 0)) + 1)) * 8) + 0) * 8) + ((ah_i h 27 (Int32.toNatClampNeg 2)) + 1)) * 16) + ((ah_i h 27 (Int32.toNatClampNeg 3)) + 1)) * 4) + ((ah_i h 27 (Int32.toNatClampNeg 4)) + 1)))]) dX8_keyOf_137 (by exact (Nat.le_of_ble_eq_true rfl)) rfl rfl ?_
              refine ab_iload (i := 4) dX8_keyOf_139 rfl ?_
              refine ab_sipush (v := 128) dX8_keyOf_141 (by decide) ?_
              refine ab_imul dX8_keyOf_144 ?_
              refine ab_iload_n (i := 3) dX8_keyOf_145 rfl rfl ?_
              refine ab_iconst (v := 5) dX8_keyOf_146 (by decide) ?_
              refine ab_ishr dX8_keyOf_147 ?_
              refine ab_iconst (v := 1) dX8_keyOf_148 (by decide) ?_
              refine ab_iand dX8_keyOf_149 ?_
              refine ab_if_eq (tgt := 159) dX8_keyOf_150 (by decide) (fun c55 => ?_) (fun c55 => ?_)
              · have ht := ht.1 c55
                refine ab_iconst (v := 0) dX8_keyOf_159 (by decide) ?_
                refine ab_iadd dX8_keyOf_160 ?_
                exact ab_iret rfl dX8_keyOf_161 (Nat.le_of_ble_eq_true rfl) (Nat.le_of_ble_eq_true rfl) ht
              · have ht := ht.2 c55
                refine ab_aload_n (i := 2) dX8_keyOf_153 rfl rfl ?_
                refine ab_iconst (v := 5) dX8_keyOf_154 (by decide) ?_
                refine ab_iald (sh_k hs 27 14 (by decide) rfl) (sh_in hs 27 13 (by decide) (by decide) rfl (by unfold vp_in; decide)) dX8_keyOf_155 ?_
                refine ab_goto (tgt := 160) dX8_keyOf_156 (by decide) ?_
                refine ab_iadd dX8_keyOf_160 ?_
                exact ab_iret rfl dX8_keyOf_161 (Nat.le_of_ble_eq_true rfl) (Nat.le_of_ble_eq_true rfl) ht
      · have ht := ht.2 c40
        refine ab_aload_n (i := 2) dX8_keyOf_55 rfl rfl ?_
        refine ab_iconst (v := 1) dX8_keyOf_56 (by decide) ?_
        refine ab_iald (sh_k hs 27 14 (by decide) rfl) (sh_in hs 27 13 (by decide) (by decide) rfl (by unfold vp_in; decide)) dX8_keyOf_57 ?_
        refine ab_goto (tgt := 62) dX8_keyOf_58 (by decide) ?_
        refine ab_iadd dX8_keyOf_62 ?_
        refine ab_istore (i := 4) (L' := [some (.ref 38), some (.int x1), some (.ref 27), some (.int (ah_i h b4 (Int32.toNatClampNeg x1))), some (.int ((((x1 * 12) + ((ah_i h 27 (Int32.toNatClampNeg 0)) + 1)) * 8) + (ah_i h 27 (Int32.toNatClampNeg 1))))]) dX8_keyOf_63 (by exact (Nat.le_of_ble_eq_true rfl)) rfl rfl ?_
        refine ab_iload (i := 4) dX8_keyOf_65 rfl ?_
        refine ab_bipush (v := 8) dX8_keyOf_67 (by decide) ?_
        refine ab_imul dX8_keyOf_69 ?_
        refine ab_iload_n (i := 3) dX8_keyOf_70 rfl rfl ?_
        refine ab_iconst (v := 2) dX8_keyOf_71 (by decide) ?_
        refine ab_ishr dX8_keyOf_72 ?_
        refine ab_iconst (v := 1) dX8_keyOf_73 (by decide) ?_
        refine ab_iand dX8_keyOf_74 ?_
        refine ab_if_eq (tgt := 86) dX8_keyOf_75 (by decide) (fun c56 => ?_) (fun c56 => ?_)
        · have ht := ht.1 c56
          refine ab_iconst (v := 0) dX8_keyOf_86 (by decide) ?_
          refine ab_iadd dX8_keyOf_87 ?_
          refine ab_istore (i := 4) (L' := [some (.ref 38), some (.int x1), some (.ref 27), some (.int (ah_i h b4 (Int32.toNatClampNeg x1))), some (.int ((((((x1 * 12) + ((ah_i h 27 (Int32.toNatClampNeg 0)) + 1)) * 8) + (ah_i h 27 (Int32.toNatClampNeg 1))) * 8) + 0))]) dX8_keyOf_88 (by exact (Nat.le_of_ble_eq_true rfl)) rfl rfl ?_
          refine ab_iload (i := 4) dX8_keyOf_90 rfl ?_
          refine ab_bipush (v := 16) dX8_keyOf_92 (by decide) ?_
          refine ab_imul dX8_keyOf_94 ?_
          refine ab_iload_n (i := 3) dX8_keyOf_95 rfl rfl ?_
          refine ab_iconst (v := 3) dX8_keyOf_96 (by decide) ?_
          refine ab_ishr dX8_keyOf_97 ?_
          refine ab_iconst (v := 1) dX8_keyOf_98 (by decide) ?_
          refine ab_iand dX8_keyOf_99 ?_
          refine ab_if_eq (tgt := 111) dX8_keyOf_100 (by decide) (fun c57 => ?_) (fun c57 => ?_)
          · have ht := ht.1 c57
            refine ab_iconst (v := 0) dX8_keyOf_111 (by decide) ?_
            refine ab_iadd dX8_keyOf_112 ?_
            refine ab_istore (i := 4) (L' := [some (.ref 38), some (.int x1), some (.ref 27), some (.int (ah_i h b4 (Int32.toNatClampNeg x1))), some (.int ((((((((x1 * 12) + ((ah_i h 27 (Int32.toNatClampNeg 0)) + 1)) * 8) + (ah_i h 27 (Int32.toNatClampNeg 1))) * 8) + 0) * 16) + 0))]) dX8_keyOf_113 (by exact (Nat.le_of_ble_eq_true rfl)) rfl rfl ?_
            refine ab_iload (i := 4) dX8_keyOf_115 rfl ?_
            refine ab_iconst (v := 4) dX8_keyOf_117 (by decide) ?_
            refine ab_imul dX8_keyOf_118 ?_
            refine ab_iload_n (i := 3) dX8_keyOf_119 rfl rfl ?_
            refine ab_iconst (v := 4) dX8_keyOf_120 (by decide) ?_
            refine ab_ishr dX8_keyOf_121 ?_
            refine ab_iconst (v := 1) dX8_keyOf_122 (by decide) ?_
            refine ab_iand dX8_keyOf_123 ?_
            refine ab_if_eq (tgt := 135) dX8_keyOf_124 (by decide) (fun c58 => ?_) (fun c58 => ?_)
            · have ht := ht.1 c58
              refine ab_iconst (v := 0) dX8_keyOf_135 (by decide) ?_
              refine ab_iadd dX8_keyOf_136 ?_
              refine ab_istore (i := 4) (L' := [some (.ref 38), some (.int x1), some (.ref 27), some (.int (ah_i h b4 (Int32.toNatClampNeg x1))), some (.int ((((((((((x1 * 12) + ((ah_i h 27 (Int32.toNatClampNeg 0)) + 1)) * 8) + (ah_i h 27 (Int32.toNatClampNeg 1))) * 8) + 0) * 16) + 0) * 4) + 0))]) dX8_keyOf_137 (by exact (Nat.le_of_ble_eq_true rfl)) rfl rfl ?_
              refine ab_iload (i := 4) dX8_keyOf_139 rfl ?_
              refine ab_sipush (v := 128) dX8_keyOf_141 (by decide) ?_
              refine ab_imul dX8_keyOf_144 ?_
              refine ab_iload_n (i := 3) dX8_keyOf_145 rfl rfl ?_
              refine ab_iconst (v := 5) dX8_keyOf_146 (by decide) ?_
              refine ab_ishr dX8_keyOf_147 ?_
              refine ab_iconst (v := 1) dX8_keyOf_148 (by decide) ?_
              refine ab_iand dX8_keyOf_149 ?_
              refine ab_if_eq (tgt := 159) dX8_keyOf_150 (by decide) (fun c59 => ?_) (fun c59 => ?_)
              · have ht := ht.1 c59
                refine ab_iconst (v := 0) dX8_keyOf_159 (by decide) ?_
                refine ab_iadd dX8_keyOf_160 ?_
                exact ab_iret rfl dX8_keyOf_161 (Nat.le_of_ble_eq_true rfl) (Nat.le_of_ble_eq_true rfl) ht
              · have ht := ht.2 c59
                refine ab_aload_n (i := 2) dX8_keyOf_153 rfl rfl ?_
                refine ab_iconst (v := 5) dX8_keyOf_154 (by decide) ?_
                refine ab_iald (sh_k hs 27 14 (by decide) rfl) (sh_in hs 27 13 (by decide) (by decide) rfl (by unfold vp_in; decide)) dX8_keyOf_155 ?_
                refine ab_goto (tgt := 160) dX8_keyOf_156 (by decide) ?_
                refine ab_iadd dX8_keyOf_160 ?_
                exact ab_iret rfl dX8_keyOf_161 (Nat.le_of_ble_eq_true rfl) (Nat.le_of_ble_eq_true rfl) ht
            · have ht := ht.2 c58
              refine ab_aload_n (i := 2) dX8_keyOf_127 rfl rfl ?_
              refine ab_iconst (v := 4) dX8_keyOf_128 (by decide) ?_
              refine ab_iald (sh_k hs 27 14 (by decide) rfl) (sh_in hs 27 13 (by decide) (by decide) rfl (by unfold vp_in; decide)) dX8_keyOf_129 ?_
              refine ab_iconst (v := 1) dX8_keyOf_130 (by decide) ?_
              refine ab_iadd dX8_keyOf_131 ?_
              refine ab_goto (tgt := 136) dX8_keyOf_132 (by decide) ?_
              refine ab_iadd dX8_keyOf_136 ?_
              refine ab_istore (i := 4) (L' := [some (.ref 38), some (.int x1), some (.ref 27), some (.int (ah_i h b4 (Int32.toNatClampNeg x1))), some (.int ((((((((((x1 * 12) + ((ah_i h 27 (Int32.toNatClampNeg 0)) + 1)) * 8) + (ah_i h 27 (Int32.toNatClampNeg 1))) * 8) + 0) * 16) + 0) * 4) + ((ah_i h 27 (Int32.toNatClampNeg 4)) + 1)))]) dX8_keyOf_137 (by exact (Nat.le_of_ble_eq_true rfl)) rfl rfl ?_
              refine ab_iload (i := 4) dX8_keyOf_139 rfl ?_
              refine ab_sipush (v := 128) dX8_keyOf_141 (by decide) ?_
              refine ab_imul dX8_keyOf_144 ?_
              refine ab_iload_n (i := 3) dX8_keyOf_145 rfl rfl ?_
              refine ab_iconst (v := 5) dX8_keyOf_146 (by decide) ?_
              refine ab_ishr dX8_keyOf_147 ?_
              refine ab_iconst (v := 1) dX8_keyOf_148 (by decide) ?_
              refine ab_iand dX8_keyOf_149 ?_
              refine ab_if_eq (tgt := 159) dX8_keyOf_150 (by decide) (fun c60 => ?_) (fun c60 => ?_)
              · have ht := ht.1 c60
                refine ab_iconst (v := 0) dX8_keyOf_159 (by decide) ?_
                refine ab_iadd dX8_keyOf_160 ?_
                exact ab_iret rfl dX8_keyOf_161 (Nat.le_of_ble_eq_true rfl) (Nat.le_of_ble_eq_true rfl) ht
              · have ht := ht.2 c60
                refine ab_aload_n (i := 2) dX8_keyOf_153 rfl rfl ?_
                refine ab_iconst (v := 5) dX8_keyOf_154 (by decide) ?_
                refine ab_iald (sh_k hs 27 14 (by decide) rfl) (sh_in hs 27 13 (by decide) (by decide) rfl (by unfold vp_in; decide)) dX8_keyOf_155 ?_
                refine ab_goto (tgt := 160) dX8_keyOf_156 (by decide) ?_
                refine ab_iadd dX8_keyOf_160 ?_
                exact ab_iret rfl dX8_keyOf_161 (Nat.le_of_ble_eq_true rfl) (Nat.le_of_ble_eq_true rfl) ht
          · have ht := ht.2 c57
            refine ab_aload_n (i := 2) dX8_keyOf_103 rfl rfl ?_
            refine ab_iconst (v := 3) dX8_keyOf_104 (by decide) ?_
            refine ab_iald (sh_k hs 27 14 (by decide) rfl) (sh_in hs 27 13 (by decide) (by decide) rfl (by unfold vp_in; decide)) dX8_keyOf_105 ?_
            refine ab_iconst (v := 1) dX8_keyOf_106 (by decide) ?_
            refine ab_iadd dX8_keyOf_107 ?_
            refine ab_goto (tgt := 112) dX8_keyOf_108 (by decide) ?_
            refine ab_iadd dX8_keyOf_112 ?_
            refine ab_istore (i := 4) (L' := [some (.ref 38), some (.int x1), some (.ref 27), some (.int (ah_i h b4 (Int32.toNatClampNeg x1))), some (.int ((((((((x1 * 12) + ((ah_i h 27 (Int32.toNatClampNeg 0)) + 1)) * 8) + (ah_i h 27 (Int32.toNatClampNeg 1))) * 8) + 0) * 16) + ((ah_i h 27 (Int32.toNatClampNeg 3)) + 1)))]) dX8_keyOf_113 (by exact (Nat.le_of_ble_eq_true rfl)) rfl rfl ?_
            refine ab_iload (i := 4) dX8_keyOf_115 rfl ?_
            refine ab_iconst (v := 4) dX8_keyOf_117 (by decide) ?_
            refine ab_imul dX8_keyOf_118 ?_
            refine ab_iload_n (i := 3) dX8_keyOf_119 rfl rfl ?_
            refine ab_iconst (v := 4) dX8_keyOf_120 (by decide) ?_
            refine ab_ishr dX8_keyOf_121 ?_
            refine ab_iconst (v := 1) dX8_keyOf_122 (by decide) ?_
            refine ab_iand dX8_keyOf_123 ?_
            refine ab_if_eq (tgt := 135) dX8_keyOf_124 (by decide) (fun c61 => ?_) (fun c61 => ?_)
            · have ht := ht.1 c61
              refine ab_iconst (v := 0) dX8_keyOf_135 (by decide) ?_
              refine ab_iadd dX8_keyOf_136 ?_
              refine ab_istore (i := 4) (L' := [some (.ref 38), some (.int x1), some (.ref 27), some (.int (ah_i h b4 (Int32.toNatClampNeg x1))), some (.int ((((((((((x1 * 12) + ((ah_i h 27 (Int32.toNatClampNeg 0)) + 1)) * 8) + (ah_i h 27 (Int32.toNatClampNeg 1))) * 8) + 0) * 16) + ((ah_i h 27 (Int32.toNatClampNeg 3)) + 1)) * 4) + 0))]) dX8_keyOf_137 (by exact (Nat.le_of_ble_eq_true rfl)) rfl rfl ?_
              refine ab_iload (i := 4) dX8_keyOf_139 rfl ?_
              refine ab_sipush (v := 128) dX8_keyOf_141 (by decide) ?_
              refine ab_imul dX8_keyOf_144 ?_
              refine ab_iload_n (i := 3) dX8_keyOf_145 rfl rfl ?_
              refine ab_iconst (v := 5) dX8_keyOf_146 (by decide) ?_
              refine ab_ishr dX8_keyOf_147 ?_
              refine ab_iconst (v := 1) dX8_keyOf_148 (by decide) ?_
              refine ab_iand dX8_keyOf_149 ?_
              refine ab_if_eq (tgt := 159) dX8_keyOf_150 (by decide) (fun c62 => ?_) (fun c62 => ?_)
              · have ht := ht.1 c62
                refine ab_iconst (v := 0) dX8_keyOf_159 (by decide) ?_
                refine ab_iadd dX8_keyOf_160 ?_
                exact ab_iret rfl dX8_keyOf_161 (Nat.le_of_ble_eq_true rfl) (Nat.le_of_ble_eq_true rfl) ht
              · have ht := ht.2 c62
                refine ab_aload_n (i := 2) dX8_keyOf_153 rfl rfl ?_
                refine ab_iconst (v := 5) dX8_keyOf_154 (by decide) ?_
                refine ab_iald (sh_k hs 27 14 (by decide) rfl) (sh_in hs 27 13 (by decide) (by decide) rfl (by unfold vp_in; decide)) dX8_keyOf_155 ?_
                refine ab_goto (tgt := 160) dX8_keyOf_156 (by decide) ?_
                refine ab_iadd dX8_keyOf_160 ?_
                exact ab_iret rfl dX8_keyOf_161 (Nat.le_of_ble_eq_true rfl) (Nat.le_of_ble_eq_true rfl) ht
            · have ht := ht.2 c61
              refine ab_aload_n (i := 2) dX8_keyOf_127 rfl rfl ?_
              refine ab_iconst (v := 4) dX8_keyOf_128 (by decide) ?_
              refine ab_iald (sh_k hs 27 14 (by decide) rfl) (sh_in hs 27 13 (by decide) (by decide) rfl (by unfold vp_in; decide)) dX8_keyOf_129 ?_
              refine ab_iconst (v := 1) dX8_keyOf_130 (by decide) ?_
              refine ab_iadd dX8_keyOf_131 ?_
              refine ab_goto (tgt := 136) dX8_keyOf_132 (by decide) ?_
              refine ab_iadd dX8_keyOf_136 ?_
              refine ab_istore (i := 4) (L' := [some (.ref 38), some (.int x1), some (.ref 27), some (.int (ah_i h b4 (Int32.toNatClampNeg x1))), some (.int ((((((((((x1 * 12) + ((ah_i h 27 (Int32.toNatClampNeg 0)) + 1)) * 8) + (ah_i h 27 (Int32.toNatClampNeg 1))) * 8) + 0) * 16) + ((ah_i h 27 (Int32.toNatClampNeg 3)) + 1)) * 4) + ((ah_i h 27 (Int32.toNatClampNeg 4)) + 1)))]) dX8_keyOf_137 (by exact (Nat.le_of_ble_eq_true rfl)) rfl rfl ?_
              refine ab_iload (i := 4) dX8_keyOf_139 rfl ?_
              refine ab_sipush (v := 128) dX8_keyOf_141 (by decide) ?_
              refine ab_imul dX8_keyOf_144 ?_
              refine ab_iload_n (i := 3) dX8_keyOf_145 rfl rfl ?_
              refine ab_iconst (v := 5) dX8_keyOf_146 (by decide) ?_
              refine ab_ishr dX8_keyOf_147 ?_
              refine ab_iconst (v := 1) dX8_keyOf_148 (by decide) ?_
              refine ab_iand dX8_keyOf_149 ?_
              refine ab_if_eq (tgt := 159) dX8_keyOf_150 (by decide) (fun c63 => ?_) (fun c63 => ?_)
              · have ht := ht.1 c63
                refine ab_iconst (v := 0) dX8_keyOf_159 (by decide) ?_
                refine ab_iadd dX8_keyOf_160 ?_
                exact ab_iret rfl dX8_keyOf_161 (Nat.le_of_ble_eq_true rfl) (Nat.le_of_ble_eq_true rfl) ht
              · have ht := ht.2 c63
                refine ab_aload_n (i := 2) dX8_keyOf_153 rfl rfl ?_
                refine ab_iconst (v := 5) dX8_keyOf_154 (by decide) ?_
                refine ab_iald (sh_k hs 27 14 (by decide) rfl) (sh_in hs 27 13 (by decide) (by decide) rfl (by unfold vp_in; decide)) dX8_keyOf_155 ?_
                refine ab_goto (tgt := 160) dX8_keyOf_156 (by decide) ?_
                refine ab_iadd dX8_keyOf_160 ?_
                exact ab_iret rfl dX8_keyOf_161 (Nat.le_of_ble_eq_true rfl) (Nat.le_of_ble_eq_true rfl) ht
        · have ht := ht.2 c56
          refine ab_aload_n (i := 2) dX8_keyOf_78 rfl rfl ?_
          refine ab_iconst (v := 2) dX8_keyOf_79 (by decide) ?_
          refine ab_iald (sh_k hs 27 14 (by decide) rfl) (sh_in hs 27 13 (by decide) (by decide) rfl (by unfold vp_in; decide)) dX8_keyOf_80 ?_
          refine ab_iconst (v := 1) dX8_keyOf_81 (by decide) ?_
          refine ab_iadd dX8_keyOf_82 ?_
          refine ab_goto (tgt := 87) dX8_keyOf_83 (by decide) ?_
          refine ab_iadd dX8_keyOf_87 ?_
          refine ab_istore (i := 4) (L' := [some (.ref 38), some (.int x1), some (.ref 27), some (.int (ah_i h b4 (Int32.toNatClampNeg x1))), some (.int ((((((x1 * 12) + ((ah_i h 27 (Int32.toNatClampNeg 0)) + 1)) * 8) + (ah_i h 27 (Int32.toNatClampNeg 1))) * 8) + ((ah_i h 27 (Int32.toNatClampNeg 2)) + 1)))]) dX8_keyOf_88 (by exact (Nat.le_of_ble_eq_true rfl)) rfl rfl ?_
          refine ab_iload (i := 4) dX8_keyOf_90 rfl ?_
          refine ab_bipush (v := 16) dX8_keyOf_92 (by decide) ?_
          refine ab_imul dX8_keyOf_94 ?_
          refine ab_iload_n (i := 3) dX8_keyOf_95 rfl rfl ?_
          refine ab_iconst (v := 3) dX8_keyOf_96 (by decide) ?_
          refine ab_ishr dX8_keyOf_97 ?_
          refine ab_iconst (v := 1) dX8_keyOf_98 (by decide) ?_
          refine ab_iand dX8_keyOf_99 ?_
          refine ab_if_eq (tgt := 111) dX8_keyOf_100 (by decide) (fun c64 => ?_) (fun c64 => ?_)
          · have ht := ht.1 c64
            refine ab_iconst (v := 0) dX8_keyOf_111 (by decide) ?_
            refine ab_iadd dX8_keyOf_112 ?_
            refine ab_istore (i := 4) (L' := [some (.ref 38), some (.int x1), some (.ref 27), some (.int (ah_i h b4 (Int32.toNatClampNeg x1))), some (.int ((((((((x1 * 12) + ((ah_i h 27 (Int32.toNatClampNeg 0)) + 1)) * 8) + (ah_i h 27 (Int32.toNatClampNeg 1))) * 8) + ((ah_i h 27 (Int32.toNatClampNeg 2)) + 1)) * 16) + 0))]) dX8_keyOf_113 (by exact (Nat.le_of_ble_eq_true rfl)) rfl rfl ?_
            refine ab_iload (i := 4) dX8_keyOf_115 rfl ?_
            refine ab_iconst (v := 4) dX8_keyOf_117 (by decide) ?_
            refine ab_imul dX8_keyOf_118 ?_
            refine ab_iload_n (i := 3) dX8_keyOf_119 rfl rfl ?_
            refine ab_iconst (v := 4) dX8_keyOf_120 (by decide) ?_
            refine ab_ishr dX8_keyOf_121 ?_
            refine ab_iconst (v := 1) dX8_keyOf_122 (by decide) ?_
            refine ab_iand dX8_keyOf_123 ?_
            refine ab_if_eq (tgt := 135) dX8_keyOf_124 (by decide) (fun c65 => ?_) (fun c65 => ?_)
            · have ht := ht.1 c65
              refine ab_iconst (v := 0) dX8_keyOf_135 (by decide) ?_
              refine ab_iadd dX8_keyOf_136 ?_
              refine ab_istore (i := 4) (L' := [some (.ref 38), some (.int x1), some (.ref 27), some (.int (ah_i h b4 (Int32.toNatClampNeg x1))), some (.int ((((((((((x1 * 12) + ((ah_i h 27 (Int32.toNatClampNeg 0)) + 1)) * 8) + (ah_i h 27 (Int32.toNatClampNeg 1))) * 8) + ((ah_i h 27 (Int32.toNatClampNeg 2)) + 1)) * 16) + 0) * 4) + 0))]) dX8_keyOf_137 (by exact (Nat.le_of_ble_eq_true rfl)) rfl rfl ?_
              refine ab_iload (i := 4) dX8_keyOf_139 rfl ?_
              refine ab_sipush (v := 128) dX8_keyOf_141 (by decide) ?_
              refine ab_imul dX8_keyOf_144 ?_
              refine ab_iload_n (i := 3) dX8_keyOf_145 rfl rfl ?_
              refine ab_iconst (v := 5) dX8_keyOf_146 (by decide) ?_
              refine ab_ishr dX8_keyOf_147 ?_
              refine ab_iconst (v := 1) dX8_keyOf_148 (by decide) ?_
              refine ab_iand dX8_keyOf_149 ?_
              refine ab_if_eq (tgt := 159) dX8_keyOf_150 (by decide) (fun c66 => ?_) (fun c66 => ?_)
              · have ht := ht.1 c66
                refine ab_iconst (v := 0) dX8_keyOf_159 (by decide) ?_
                refine ab_iadd dX8_keyOf_160 ?_
                exact ab_iret rfl dX8_keyOf_161 (Nat.le_of_ble_eq_true rfl) (Nat.le_of_ble_eq_true rfl) ht
              · have ht := ht.2 c66
                refine ab_aload_n (i := 2) dX8_keyOf_153 rfl rfl ?_
                refine ab_iconst (v := 5) dX8_keyOf_154 (by decide) ?_
                refine ab_iald (sh_k hs 27 14 (by decide) rfl) (sh_in hs 27 13 (by decide) (by decide) rfl (by unfold vp_in; decide)) dX8_keyOf_155 ?_
                refine ab_goto (tgt := 160) dX8_keyOf_156 (by decide) ?_
                refine ab_iadd dX8_keyOf_160 ?_
                exact ab_iret rfl dX8_keyOf_161 (Nat.le_of_ble_eq_true rfl) (Nat.le_of_ble_eq_true rfl) ht
            · have ht := ht.2 c65
              refine ab_aload_n (i := 2) dX8_keyOf_127 rfl rfl ?_
              refine ab_iconst (v := 4) dX8_keyOf_128 (by decide) ?_
              refine ab_iald (sh_k hs 27 14 (by decide) rfl) (sh_in hs 27 13 (by decide) (by decide) rfl (by unfold vp_in; decide)) dX8_keyOf_129 ?_
              refine ab_iconst (v := 1) dX8_keyOf_130 (by decide) ?_
              refine ab_iadd dX8_keyOf_131 ?_
              refine ab_goto (tgt := 136) dX8_keyOf_132 (by decide) ?_
              refine ab_iadd dX8_keyOf_136 ?_
              refine ab_istore (i := 4) (L' := [some (.ref 38), some (.int x1), some (.ref 27), some (.int (ah_i h b4 (Int32.toNatClampNeg x1))), some (.int ((((((((((x1 * 12) + ((ah_i h 27 (Int32.toNatClampNeg 0)) + 1)) * 8) + (ah_i h 27 (Int32.toNatClampNeg 1))) * 8) + ((ah_i h 27 (Int32.toNatClampNeg 2)) + 1)) * 16) + 0) * 4) + ((ah_i h 27 (Int32.toNatClampNeg 4)) + 1)))]) dX8_keyOf_137 (by exact (Nat.le_of_ble_eq_true rfl)) rfl rfl ?_
              refine ab_iload (i := 4) dX8_keyOf_139 rfl ?_
              refine ab_sipush (v := 128) dX8_keyOf_141 (by decide) ?_
              refine ab_imul dX8_keyOf_144 ?_
              refine ab_iload_n (i := 3) dX8_keyOf_145 rfl rfl ?_
              refine ab_iconst (v := 5) dX8_keyOf_146 (by decide) ?_
              refine ab_ishr dX8_keyOf_147 ?_
              refine ab_iconst (v := 1) dX8_keyOf_148 (by decide) ?_
              refine ab_iand dX8_keyOf_149 ?_
              refine ab_if_eq (tgt := 159) dX8_keyOf_150 (by decide) (fun c67 => ?_) (fun c67 => ?_)
              · have ht := ht.1 c67
                refine ab_iconst (v := 0) dX8_keyOf_159 (by decide) ?_
                refine ab_iadd dX8_keyOf_160 ?_
                exact ab_iret rfl dX8_keyOf_161 (Nat.le_of_ble_eq_true rfl) (Nat.le_of_ble_eq_true rfl) ht
              · have ht := ht.2 c67
                refine ab_aload_n (i := 2) dX8_keyOf_153 rfl rfl ?_
                refine ab_iconst (v := 5) dX8_keyOf_154 (by decide) ?_
                refine ab_iald (sh_k hs 27 14 (by decide) rfl) (sh_in hs 27 13 (by decide) (by decide) rfl (by unfold vp_in; decide)) dX8_keyOf_155 ?_
                refine ab_goto (tgt := 160) dX8_keyOf_156 (by decide) ?_
                refine ab_iadd dX8_keyOf_160 ?_
                exact ab_iret rfl dX8_keyOf_161 (Nat.le_of_ble_eq_true rfl) (Nat.le_of_ble_eq_true rfl) ht
          · have ht := ht.2 c64
            refine ab_aload_n (i := 2) dX8_keyOf_103 rfl rfl ?_
            refine ab_iconst (v := 3) dX8_keyOf_104 (by decide) ?_
            refine ab_iald (sh_k hs 27 14 (by decide) rfl) (sh_in hs 27 13 (by decide) (by decide) rfl (by unfold vp_in; decide)) dX8_keyOf_105 ?_
            refine ab_iconst (v := 1) dX8_keyOf_106 (by decide) ?_
            refine ab_iadd dX8_keyOf_107 ?_
            refine ab_goto (tgt := 112) dX8_keyOf_108 (by decide) ?_
            refine ab_iadd dX8_keyOf_112 ?_
            refine ab_istore (i := 4) (L' := [some (.ref 38), some (.int x1), some (.ref 27), some (.int (ah_i h b4 (Int32.toNatClampNeg x1))), some (.int ((((((((x1 * 12) + ((ah_i h 27 (Int32.toNatClampNeg 0)) + 1)) * 8) + (ah_i h 27 (Int32.toNatClampNeg 1))) * 8) + ((ah_i h 27 (Int32.toNatClampNeg 2)) + 1)) * 16) + ((ah_i h 27 (Int32.toNatClampNeg 3)) + 1)))]) dX8_keyOf_113 (by exact (Nat.le_of_ble_eq_true rfl)) rfl rfl ?_
            refine ab_iload (i := 4) dX8_keyOf_115 rfl ?_
            refine ab_iconst (v := 4) dX8_keyOf_117 (by decide) ?_
            refine ab_imul dX8_keyOf_118 ?_
            refine ab_iload_n (i := 3) dX8_keyOf_119 rfl rfl ?_
            refine ab_iconst (v := 4) dX8_keyOf_120 (by decide) ?_
            refine ab_ishr dX8_keyOf_121 ?_
            refine ab_iconst (v := 1) dX8_keyOf_122 (by decide) ?_
            refine ab_iand dX8_keyOf_123 ?_
            refine ab_if_eq (tgt := 135) dX8_keyOf_124 (by decide) (fun c68 => ?_) (fun c68 => ?_)
            · have ht := ht.1 c68
              refine ab_iconst (v := 0) dX8_keyOf_135 (by decide) ?_
              refine ab_iadd dX8_keyOf_136 ?_
              refine ab_istore (i := 4) (L' := [some (.ref 38), some (.int x1), some (.ref 27), some (.int (ah_i h b4 (Int32.toNatClampNeg x1))), some (.int ((((((((((x1 * 12) + ((ah_i h 27 (Int32.toNatClampNeg 0)) + 1)) * 8) + (ah_i h 27 (Int32.toNatClampNeg 1))) * 8) + ((ah_i h 27 (Int32.toNatClampNeg 2)) + 1)) * 16) + ((ah_i h 27 (Int32.toNatClampNeg 3)) + 1)) * 4) + 0))]) dX8_keyOf_137 (by exact (Nat.le_of_ble_eq_true rfl)) rfl rfl ?_
              refine ab_iload (i := 4) dX8_keyOf_139 rfl ?_
              refine ab_sipush (v := 128) dX8_keyOf_141 (by decide) ?_
              refine ab_imul dX8_keyOf_144 ?_
              refine ab_iload_n (i := 3) dX8_keyOf_145 rfl rfl ?_
              refine ab_iconst (v := 5) dX8_keyOf_146 (by decide) ?_
              refine ab_ishr dX8_keyOf_147 ?_
              refine ab_iconst (v := 1) dX8_keyOf_148 (by decide) ?_
              refine ab_iand dX8_keyOf_149 ?_
              refine ab_if_eq (tgt := 159) dX8_keyOf_150 (by decide) (fun c69 => ?_) (fun c69 => ?_)
              · have ht := ht.1 c69
                refine ab_iconst (v := 0) dX8_keyOf_159 (by decide) ?_
                refine ab_iadd dX8_keyOf_160 ?_
                exact ab_iret rfl dX8_keyOf_161 (Nat.le_of_ble_eq_true rfl) (Nat.le_of_ble_eq_true rfl) ht
              · have ht := ht.2 c69
                refine ab_aload_n (i := 2) dX8_keyOf_153 rfl rfl ?_
                refine ab_iconst (v := 5) dX8_keyOf_154 (by decide) ?_
                refine ab_iald (sh_k hs 27 14 (by decide) rfl) (sh_in hs 27 13 (by decide) (by decide) rfl (by unfold vp_in; decide)) dX8_keyOf_155 ?_
                refine ab_goto (tgt := 160) dX8_keyOf_156 (by decide) ?_
                refine ab_iadd dX8_keyOf_160 ?_
                exact ab_iret rfl dX8_keyOf_161 (Nat.le_of_ble_eq_true rfl) (Nat.le_of_ble_eq_true rfl) ht
            · have ht := ht.2 c68
              refine ab_aload_n (i := 2) dX8_keyOf_127 rfl rfl ?_
              refine ab_iconst (v := 4) dX8_keyOf_128 (by decide) ?_
              refine ab_iald (sh_k hs 27 14 (by decide) rfl) (sh_in hs 27 13 (by decide) (by decide) rfl (by unfold vp_in; decide)) dX8_keyOf_129 ?_
              refine ab_iconst (v := 1) dX8_keyOf_130 (by decide) ?_
              refine ab_iadd dX8_keyOf_131 ?_
              refine ab_goto (tgt := 136) dX8_keyOf_132 (by decide) ?_
              refine ab_iadd dX8_keyOf_136 ?_
              refine ab_istore (i := 4) (L' := [some (.ref 38), some (.int x1), some (.ref 27), some (.int (ah_i h b4 (Int32.toNatClampNeg x1))), some (.int ((((((((((x1 * 12) + ((ah_i h 27 (Int32.toNatClampNeg 0)) + 1)) * 8) + (ah_i h 27 (Int32.toNatClampNeg 1))) * 8) + ((ah_i h 27 (Int32.toNatClampNeg 2)) + 1)) * 16) + ((ah_i h 27 (Int32.toNatClampNeg 3)) + 1)) * 4) + ((ah_i h 27 (Int32.toNatClampNeg 4)) + 1)))]) dX8_keyOf_137 (by exact (Nat.le_of_ble_eq_true rfl)) rfl rfl ?_
              refine ab_iload (i := 4) dX8_keyOf_139 rfl ?_
              refine ab_sipush (v := 128) dX8_keyOf_141 (by decide) ?_
              refine ab_imul dX8_keyOf_144 ?_
              refine ab_iload_n (i := 3) dX8_keyOf_145 rfl rfl ?_
              refine ab_iconst (v := 5) dX8_keyOf_146 (by decide) ?_
              refine ab_ishr dX8_keyOf_147 ?_
              refine ab_iconst (v := 1) dX8_keyOf_148 (by decide) ?_
              refine ab_iand dX8_keyOf_149 ?_
              refine ab_if_eq (tgt := 159) dX8_keyOf_150 (by decide) (fun c70 => ?_) (fun c70 => ?_)
              · have ht := ht.1 c70
                refine ab_iconst (v := 0) dX8_keyOf_159 (by decide) ?_
                refine ab_iadd dX8_keyOf_160 ?_
                exact ab_iret rfl dX8_keyOf_161 (Nat.le_of_ble_eq_true rfl) (Nat.le_of_ble_eq_true rfl) ht
              · have ht := ht.2 c70
                refine ab_aload_n (i := 2) dX8_keyOf_153 rfl rfl ?_
                refine ab_iconst (v := 5) dX8_keyOf_154 (by decide) ?_
                refine ab_iald (sh_k hs 27 14 (by decide) rfl) (sh_in hs 27 13 (by decide) (by decide) rfl (by unfold vp_in; decide)) dX8_keyOf_155 ?_
                refine ab_goto (tgt := 160) dX8_keyOf_156 (by decide) ?_
                refine ab_iadd dX8_keyOf_160 ?_
                exact ab_iret rfl dX8_keyOf_161 (Nat.le_of_ble_eq_true rfl) (Nat.le_of_ble_eq_true rfl) ht
