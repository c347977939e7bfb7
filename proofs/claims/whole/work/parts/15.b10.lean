/-! ===== blocks of methods (printed by wip/whole/mkall.py) ===== -/
theorem dX9_part_0 : decode cX9_part 0 = .ok (.iload_n 1, 1) := by decide +kernel
theorem dX9_part_1 : decode cX9_part 1 = .ok (.bipush 6, 2) := by decide +kernel
theorem dX9_part_3 : decode cX9_part 3 = .ok (.imul, 1) := by decide +kernel
theorem dX9_part_4 : decode cX9_part 4 = .ok (.iload_n 2, 1) := by decide +kernel
theorem dX9_part_5 : decode cX9_part 5 = .ok (.iadd, 1) := by decide +kernel
theorem dX9_part_6 : decode cX9_part 6 = .ok (.istore_n 3, 1) := by decide +kernel
theorem dX9_part_7 : decode cX9_part 7 = .ok (.iload_n 3, 1) := by decide +kernel
theorem dX9_part_8 : decode cX9_part 8 = .ok (.ifCond .lt 21, 3) := by decide +kernel
theorem dX9_part_11 : decode cX9_part 11 = .ok (.iload_n 3, 1) := by decide +kernel
theorem dX9_part_12 : decode cX9_part 12 = .ok (.aload_n 0, 1) := by decide +kernel
theorem dX9_part_13 : decode cX9_part 13 = .ok (.getfield 15, 3) := by decide +kernel
theorem dX9_part_16 : decode cX9_part 16 = .ok (.arraylength, 1) := by decide +kernel
theorem dX9_part_17 : decode cX9_part 17 = .ok (.if_icmp .ge 12, 3) := by decide +kernel
theorem dX9_part_20 : decode cX9_part 20 = .ok (.aload_n 0, 1) := by decide +kernel
theorem dX9_part_21 : decode cX9_part 21 = .ok (.getfield 15, 3) := by decide +kernel
theorem dX9_part_24 : decode cX9_part 24 = .ok (.iload_n 3, 1) := by decide +kernel
theorem dX9_part_25 : decode cX9_part 25 = .ok (.iaload, 1) := by decide +kernel
theorem dX9_part_26 : decode cX9_part 26 = .ok (.goto 4, 3) := by decide +kernel
theorem dX9_part_29 : decode cX9_part 29 = .ok (.iconst (-1), 1) := by decide +kernel
theorem dX9_part_30 : decode cX9_part 30 = .ok (.ireturn, 1) := by decide +kernel
set_option maxRecDepth 20000 in
theorem T_X9_part {Q : Option Value → ah_T → Prop} {h : ah_T} (hs : Sh h) (t cc : Nat) (x1 : Int32) (x2 : Int32) (hk_t : ah_k h t = 9) (hk_cc : ah_k h cc = 14) (hr_t : ah_r h t 1 = some cc) (ht : ((((x1 * 6) + x2) < 0 → Q (some (.int (-1))) h) ∧ (¬ ((x1 * 6) + x2) < 0 → (((Int32.ofNat (ah_n h cc)) ≤ ((x1 * 6) + x2) → Q (some (.int (-1))) h) ∧ (¬ (Int32.ofNat (ah_n h cc)) ≤ ((x1 * 6) + x2) → (vp_in ((x1 * 6) + x2) (ah_n h cc)) ∧ Q (some (.int (ah_i h cc (Int32.toNatClampNeg ((x1 * 6) + x2))))) h))))) : Mt mX9_part [.ref t, .int x1, .int x2] h Q := by
  refine Mt.ofWp rfl (by exact (Nat.le_of_ble_eq_true rfl)) (Wp.fewer (L' := [some (.ref t), some (.int x1), some (.int x2), none]) (show ab_leL _ _ from ⟨rfl, ⟨rfl, ⟨rfl, trivial⟩⟩⟩) ?_)
  refine ab_iload_n (i := 1) dX9_part_0 rfl rfl ?_
  refine ab_bipush (v := 6) dX9_part_1 (by decide) ?_
  refine ab_imul dX9_part_3 ?_
  refine ab_iload_n (i := 2) dX9_part_4 rfl rfl ?_
  refine ab_iadd dX9_part_5 ?_
  refine ab_istore_n (i := 3) (L' := [some (.ref t), some (.int x1), some (.int x2), some (.int ((x1 * 6) + x2))]) dX9_part_6 rfl (by exact (Nat.le_of_ble_eq_true rfl)) rfl rfl ?_
  refine ab_iload_n (i := 3) dX9_part_7 rfl rfl ?_
  refine ab_if_lt (tgt := 29) dX9_part_8 (by decide) (fun c1 => ?_) (fun c1 => ?_)
  · have ht := ht.1 c1
    refine ab_iconst (v := (-1)) dX9_part_29 (by decide) ?_
    exact ab_iret rfl dX9_part_30 (Nat.le_of_ble_eq_true rfl) (Nat.le_of_ble_eq_true rfl) ht
  · have ht := ht.2 c1
    refine ab_iload_n (i := 3) dX9_part_11 rfl rfl ?_
    refine ab_aload_n (i := 0) dX9_part_12 rfl rfl ?_
    refine ab_getR (b := cc) f_X9_15 rfl hk_t hr_t dX9_part_13 ?_
    refine ab_alen 14 (by decide) hk_cc rfl dX9_part_16 ?_
    refine ab_icmp_ge (tgt := 29) dX9_part_17 (by decide) (fun c2 => ?_) (fun c2 => ?_)
    · have ht := ht.1 c2
      refine ab_iconst (v := (-1)) dX9_part_29 (by decide) ?_
      exact ab_iret rfl dX9_part_30 (Nat.le_of_ble_eq_true rfl) (Nat.le_of_ble_eq_true rfl) ht
    · have ht := ht.2 c2
      refine ab_aload_n (i := 0) dX9_part_20 rfl rfl ?_
      refine ab_getR (b := cc) f_X9_15 rfl hk_t hr_t dX9_part_21 ?_
      refine ab_iload_n (i := 3) dX9_part_24 rfl rfl ?_
      obtain ⟨hc3, ht⟩ := ht
      refine ab_iald hk_cc hc3 dX9_part_25 ?_
      refine ab_goto (tgt := 30) dX9_part_26 (by decide) ?_
      exact ab_iret rfl dX9_part_30 (Nat.le_of_ble_eq_true rfl) (Nat.le_of_ble_eq_true rfl) ht
theorem dX10_isWay_0 : decode cX10_isWay 0 = .ok (.iload_n 1, 1) := by decide +kernel
theorem dX10_isWay_1 : decode cX10_isWay 1 = .ok (.iload_n 2, 1) := by decide +kernel
theorem dX10_isWay_2 : decode cX10_isWay 2 = .ok (.invokestatic 52, 3) := by decide +kernel
theorem dX10_isWay_5 : decode cX10_isWay 5 = .ok (.istore_n 3, 1) := by decide +kernel
theorem dX10_isWay_6 : decode cX10_isWay 6 = .ok (.iload_n 1, 1) := by decide +kernel
theorem dX10_isWay_7 : decode cX10_isWay 7 = .ok (.iload_n 2, 1) := by decide +kernel
theorem dX10_isWay_8 : decode cX10_isWay 8 = .ok (.invokestatic 58, 3) := by decide +kernel
theorem dX10_isWay_11 : decode cX10_isWay 11 = .ok (.istore 4, 2) := by decide +kernel
theorem dX10_isWay_13 : decode cX10_isWay 13 = .ok (.iconst 0, 1) := by decide +kernel
theorem dX10_isWay_14 : decode cX10_isWay 14 = .ok (.istore 5, 2) := by decide +kernel
theorem dX10_isWay_16 : decode cX10_isWay 16 = .ok (.iload 5, 2) := by decide +kernel
theorem dX10_isWay_18 : decode cX10_isWay 18 = .ok (.aload_n 0, 1) := by decide +kernel
theorem dX10_isWay_19 : decode cX10_isWay 19 = .ok (.getfield 14, 3) := by decide +kernel
theorem dX10_isWay_22 : decode cX10_isWay 22 = .ok (.getfield 61, 3) := by decide +kernel
theorem dX10_isWay_25 : decode cX10_isWay 25 = .ok (.if_icmp .ge 40, 3) := by decide +kernel
theorem dX10_isWay_28 : decode cX10_isWay 28 = .ok (.aload_n 0, 1) := by decide +kernel
theorem dX10_isWay_29 : decode cX10_isWay 29 = .ok (.getfield 14, 3) := by decide +kernel
theorem dX10_isWay_32 : decode cX10_isWay 32 = .ok (.iload 5, 2) := by decide +kernel
theorem dX10_isWay_34 : decode cX10_isWay 34 = .ok (.iconst 0, 1) := by decide +kernel
theorem dX10_isWay_35 : decode cX10_isWay 35 = .ok (.invokevirtual 64, 3) := by decide +kernel
theorem dX10_isWay_38 : decode cX10_isWay 38 = .ok (.iload_n 3, 1) := by decide +kernel
theorem dX10_isWay_39 : decode cX10_isWay 39 = .ok (.if_icmp .ne 20, 3) := by decide +kernel
theorem dX10_isWay_42 : decode cX10_isWay 42 = .ok (.aload_n 0, 1) := by decide +kernel
theorem dX10_isWay_43 : decode cX10_isWay 43 = .ok (.getfield 14, 3) := by decide +kernel
theorem dX10_isWay_46 : decode cX10_isWay 46 = .ok (.iload 5, 2) := by decide +kernel
theorem dX10_isWay_48 : decode cX10_isWay 48 = .ok (.iconst 1, 1) := by decide +kernel
theorem dX10_isWay_49 : decode cX10_isWay 49 = .ok (.invokevirtual 64, 3) := by decide +kernel
theorem dX10_isWay_52 : decode cX10_isWay 52 = .ok (.iload 4, 2) := by decide +kernel
theorem dX10_isWay_54 : decode cX10_isWay 54 = .ok (.if_icmp .ne 5, 3) := by decide +kernel
theorem dX10_isWay_57 : decode cX10_isWay 57 = .ok (.iconst 1, 1) := by decide +kernel
theorem dX10_isWay_58 : decode cX10_isWay 58 = .ok (.ireturn, 1) := by decide +kernel
theorem dX10_isWay_59 : decode cX10_isWay 59 = .ok (.iinc 5 1, 3) := by decide +kernel
theorem dX10_isWay_62 : decode cX10_isWay 62 = .ok (.goto (-46), 3) := by decide +kernel
theorem dX10_isWay_65 : decode cX10_isWay 65 = .ok (.iconst 0, 1) := by decide +kernel
theorem dX10_isWay_66 : decode cX10_isWay 66 = .ok (.ireturn, 1) := by decide +kernel
set_option maxRecDepth 20000 in
theorem T_X10_isWay_16 {Q : Option Value → ah_T → Prop} {h : ah_T} (hs : Sh h) (x3 : Int32) (x4 : Int32) (x5 : Int32) (ht : (((ah_i h 2 3) ≤ x5 → Q (some (.int 0)) h) ∧ (¬ (ah_i h 2 3) ≤ x5 → (Mt mX7_get [.ref 2, .int x5, .int 0] h (ab_qi fun v4 h2 => Sh h2 ∧ ((¬ v4 = x3 → Wp mX10_isWay Q 0 0 16 [some (.ref 1), none, none, some (.int x3), some (.int x4), some (.int (x5 + 1))] [] h2) ∧ (v4 = x3 → (Mt mX7_get [.ref 2, .int x5, .int 1] h2 (ab_qi fun v8 h6 => Sh h6 ∧ ((¬ v8 = x4 → Wp mX10_isWay Q 0 0 16 [some (.ref 1), none, none, some (.int x3), some (.int x4), some (.int (x5 + 1))] [] h6) ∧ (v8 = x4 → Q (some (.int 1)) h6))))))))))) : Wp mX10_isWay Q 0 0 16 [some (.ref 1), none, none, some (.int x3), some (.int x4), some (.int x5)] [] h := by
  refine ab_iload (i := 5) dX10_isWay_16 rfl ?_
  refine ab_aload_n (i := 0) dX10_isWay_18 rfl rfl ?_
  refine ab_getR (b := 2) f_X10_14 rfl (sh_k hs 1 10 (by decide) rfl) (sh_r hs 13 rfl) dX10_isWay_19 ?_
  refine ab_getI f_X10_61 rfl (sh_k hs 2 7 (by decide) rfl) dX10_isWay_22 ?_
  refine ab_icmp_ge (tgt := 65) dX10_isWay_25 (by decide) (fun c1 => ?_) (fun c1 => ?_)
  · have ht := ht.1 c1
    refine ab_iconst (v := 0) dX10_isWay_65 (by decide) ?_
    exact ab_zret rfl rfl dX10_isWay_66 (Nat.le_of_ble_eq_true rfl) (Nat.le_of_ble_eq_true rfl) ht
  · have ht := ht.2 c1
    refine ab_aload_n (i := 0) dX10_isWay_28 rfl rfl ?_
    refine ab_getR (b := 2) f_X10_14 rfl (sh_k hs 1 10 (by decide) rfl) (sh_r hs 13 rfl) dX10_isWay_29 ?_
    refine ab_iload (i := 5) dX10_isWay_32 rfl ?_
    refine ab_iconst (v := 0) dX10_isWay_34 (by decide) ?_
    refine ab_callV (b := 2) (As := [.int x5, .int 0]) ht (Y_X7_get) l_X10_64 in_X7_get se_X7_get (sh_k hs 2 7 (by decide) rfl) (by decide) rfl rfl ⟨(Nat.le_of_ble_eq_true rfl), (Nat.le_of_ble_eq_true rfl), (Nat.le_of_ble_eq_true rfl), (Nat.le_of_ble_eq_true rfl)⟩ dX10_isWay_35 ?_
    rintro _ h2 ⟨v4, rfl, hs3, ht⟩
    refine ab_iload_n (i := 3) dX10_isWay_38 rfl rfl ?_
    refine ab_icmp_ne (tgt := 59) dX10_isWay_39 (by decide) (fun c5 => ?_) (fun c5 => ?_)
    · have ht := ht.1 c5
      refine ab_iinc (i := 5) (x := x5) (v := (x5 + 1)) (L' := [some (.ref 1), none, none, some (.int x3), some (.int x4), some (.int (x5 + 1))]) dX10_isWay_59 rfl rfl (by exact (Nat.le_of_ble_eq_true rfl)) rfl rfl ?_
      refine ab_goto (tgt := 16) dX10_isWay_62 (by decide) ?_
      exact Wp.fewer (L' := [some (.ref 1), none, none, some (.int x3), some (.int x4), some (.int (x5 + 1))]) (show ab_leL _ _ from ⟨rfl, ⟨rfl, ⟨rfl, ⟨rfl, trivial⟩⟩⟩⟩) ht
    · have ht := ht.2 c5
      refine ab_aload_n (i := 0) dX10_isWay_42 rfl rfl ?_
      refine ab_getR (b := 2) f_X10_14 rfl (sh_k hs3 1 10 (by decide) rfl) (sh_r hs3 13 rfl) dX10_isWay_43 ?_
      refine ab_iload (i := 5) dX10_isWay_46 rfl ?_
      refine ab_iconst (v := 1) dX10_isWay_48 (by decide) ?_
      refine ab_callV (b := 2) (As := [.int x5, .int 1]) ht (Y_X7_get) l_X10_64 in_X7_get se_X7_get (sh_k hs3 2 7 (by decide) rfl) (by decide) rfl rfl ⟨(Nat.le_of_ble_eq_true rfl), (Nat.le_of_ble_eq_true rfl), (Nat.le_of_ble_eq_true rfl), (Nat.le_of_ble_eq_true rfl)⟩ dX10_isWay_49 ?_
      rintro _ h6 ⟨v8, rfl, hs7, ht⟩
      refine ab_iload (i := 4) dX10_isWay_52 rfl ?_
      refine ab_icmp_ne (tgt := 59) dX10_isWay_54 (by decide) (fun c9 => ?_) (fun c9 => ?_)
      · have ht := ht.1 c9
        refine ab_iinc (i := 5) (x := x5) (v := (x5 + 1)) (L' := [some (.ref 1), none, none, some (.int x3), some (.int x4), some (.int (x5 + 1))]) dX10_isWay_59 rfl rfl (by exact (Nat.le_of_ble_eq_true rfl)) rfl rfl ?_
        refine ab_goto (tgt := 16) dX10_isWay_62 (by decide) ?_
        exact Wp.fewer (L' := [some (.ref 1), none, none, some (.int x3), some (.int x4), some (.int (x5 + 1))]) (show ab_leL _ _ from ⟨rfl, ⟨rfl, ⟨rfl, ⟨rfl, trivial⟩⟩⟩⟩) ht
      · have ht := ht.2 c9
        refine ab_iconst (v := 1) dX10_isWay_57 (by decide) ?_
        exact ab_zret rfl rfl dX10_isWay_58 (Nat.le_of_ble_eq_true rfl) (Nat.le_of_ble_eq_true rfl) ht
set_option maxRecDepth 20000 in
theorem T_X10_isWay {Q : Option Value → ah_T → Prop} {h : ah_T} (hs : Sh h) (x1 : Int32) (x2 : Int32) (ht : Wp mX10_isWay Q 0 0 16 [some (.ref 1), none, none, some (.int (if x2 < x1 then x2 else x1)), some (.int (if x1 < x2 then x2 else x1)), some (.int 0)] [] h) : Mt mX10_isWay [.ref 1, .int x1, .int x2] h Q := by
  refine Mt.ofWp rfl (by exact (Nat.le_of_ble_eq_true rfl)) (Wp.fewer (L' := [some (.ref 1), some (.int x1), some (.int x2), none, none, none]) (show ab_leL _ _ from ⟨rfl, ⟨rfl, ⟨rfl, trivial⟩⟩⟩) ?_)
  refine ab_iload_n (i := 1) dX10_isWay_0 rfl rfl ?_
  refine ab_iload_n (i := 2) dX10_isWay_1 rfl rfl ?_
  refine ab_mmin (tb_3 (List.mem_of_getElem? (i := 133) (by decide +kernel)) rfl) st_mmin in_m co_mmin (Nat.le_of_ble_eq_true rfl) (Nat.le_of_ble_eq_true rfl) (Nat.le_of_ble_eq_true rfl) (Nat.le_of_ble_eq_true rfl) dX10_isWay_2 ?_
  refine ab_istore_n (i := 3) (L' := [some (.ref 1), some (.int x1), some (.int x2), some (.int (if x2 < x1 then x2 else x1)), none, none]) dX10_isWay_5 rfl (by exact (Nat.le_of_ble_eq_true rfl)) rfl rfl ?_
  refine ab_iload_n (i := 1) dX10_isWay_6 rfl rfl ?_
  refine ab_iload_n (i := 2) dX10_isWay_7 rfl rfl ?_
  refine ab_mmax (tb_3 (List.mem_of_getElem? (i := 136) (by decide +kernel)) rfl) st_mmax in_m co_mmax (Nat.le_of_ble_eq_true rfl) (Nat.le_of_ble_eq_true rfl) (Nat.le_of_ble_eq_true rfl) (Nat.le_of_ble_eq_true rfl) dX10_isWay_8 ?_
  refine ab_istore (i := 4) (L' := [some (.ref 1), some (.int x1), some (.int x2), some (.int (if x2 < x1 then x2 else x1)), some (.int (if x1 < x2 then x2 else x1)), none]) dX10_isWay_11 (by exact (Nat.le_of_ble_eq_true rfl)) rfl rfl ?_
  refine ab_iconst (v := 0) dX10_isWay_13 (by decide) ?_
  refine ab_istore (i := 5) (L' := [some (.ref 1), some (.int x1), some (.int x2), some (.int (if x2 < x1 then x2 else x1)), some (.int (if x1 < x2 then x2 else x1)), some (.int 0)]) dX10_isWay_14 (by exact (Nat.le_of_ble_eq_true rfl)) rfl rfl ?_
  exact Wp.fewer (L' := [some (.ref 1), none, none, some (.int (if x2 < x1 then x2 else x1)), some (.int (if x1 < x2 then x2 else x1)), some (.int 0)]) (show ab_leL _ _ from ⟨rfl, ⟨rfl, ⟨rfl, ⟨rfl, trivial⟩⟩⟩⟩) ht
theorem dX10_tell_0 : decode cX10_tell 0 = .ok (.iload_n 2, 1) := by decide +kernel
theorem dX10_tell_1 : decode cX10_tell 1 = .ok (.bipush 120, 2) := by decide +kernel
theorem dX10_tell_3 : decode cX10_tell 3 = .ok (.invokestatic 67, 3) := by decide +kernel
theorem dX10_tell_6 : decode cX10_tell 6 = .ok (.ifCond .eq 11, 3) := by decide +kernel
theorem dX10_tell_9 : decode cX10_tell 9 = .ok (.iload_n 3, 1) := by decide +kernel
theorem dX10_tell_10 : decode cX10_tell 10 = .ok (.iconst 2, 1) := by decide +kernel
theorem dX10_tell_11 : decode cX10_tell 11 = .ok (.invokestatic 67, 3) := by decide +kernel
theorem dX10_tell_14 : decode cX10_tell 14 = .ok (.ifCond .ne 5, 3) := by decide +kernel
theorem dX10_tell_17 : decode cX10_tell 17 = .ok (.iconst (-1), 1) := by decide +kernel
theorem dX10_tell_18 : decode cX10_tell 18 = .ok (.ireturn, 1) := by decide +kernel
theorem dX10_tell_19 : decode cX10_tell 19 = .ok (.aload_n 0, 1) := by decide +kernel
theorem dX10_tell_20 : decode cX10_tell 20 = .ok (.getfield 20, 3) := by decide +kernel
theorem dX10_tell_23 : decode cX10_tell 23 = .ok (.iload_n 1, 1) := by decide +kernel
theorem dX10_tell_24 : decode cX10_tell 24 = .ok (.invokevirtual 71, 3) := by decide +kernel
theorem dX10_tell_27 : decode cX10_tell 27 = .ok (.ifCond .ne 6, 3) := by decide +kernel
theorem dX10_tell_30 : decode cX10_tell 30 = .ok (.bipush (-2), 2) := by decide +kernel
theorem dX10_tell_32 : decode cX10_tell 32 = .ok (.ireturn, 1) := by decide +kernel
theorem dX10_tell_33 : decode cX10_tell 33 = .ok (.aload_n 0, 1) := by decide +kernel
theorem dX10_tell_34 : decode cX10_tell 34 = .ok (.getfield 23, 3) := by decide +kernel
theorem dX10_tell_37 : decode cX10_tell 37 = .ok (.iload_n 1, 1) := by decide +kernel
theorem dX10_tell_38 : decode cX10_tell 38 = .ok (.iload_n 2, 1) := by decide +kernel
theorem dX10_tell_39 : decode cX10_tell 39 = .ok (.iload_n 3, 1) := by decide +kernel
theorem dX10_tell_40 : decode cX10_tell 40 = .ok (.invokevirtual 75, 3) := by decide +kernel
theorem dX10_tell_43 : decode cX10_tell 43 = .ok (.iconst (-1), 1) := by decide +kernel
theorem dX10_tell_44 : decode cX10_tell 44 = .ok (.if_icmp .ne 8, 3) := by decide +kernel
theorem dX10_tell_47 : decode cX10_tell 47 = .ok (.bipush (-5), 2) := by decide +kernel
theorem dX10_tell_49 : decode cX10_tell 49 = .ok (.goto 4, 3) := by decide +kernel
theorem dX10_tell_52 : decode cX10_tell 52 = .ok (.iconst 0, 1) := by decide +kernel
theorem dX10_tell_53 : decode cX10_tell 53 = .ok (.ireturn, 1) := by decide +kernel
set_option maxRecDepth 20000 in
theorem T_X10_tell {Q : Option Value → ah_T → Prop} {h : ah_T} (hs : Sh h) (x1 : Int32) (x2 : Int32) (x3 : Int32) (ht : (((f_X11_isIn x2 120) = 0 → Q (some (.int (-1))) h) ∧ (¬ (f_X11_isIn x2 120) = 0 → ((¬ (f_X11_isIn x3 2) = 0 → (Mt mX7_has [.ref 4, .int x1] h (ab_qi fun v5 h3 => Sh h3 ∧ ((¬ v5 = 0 → (Mt mX7_add [.ref 6, .int x1, .int x2, .int x3] h3 (ab_qi fun v9 h7 => Sh h7 ∧ ((¬ v9 = (-1) → Q (some (.int 0)) h7) ∧ (v9 = (-1) → Q (some (.int (-5))) h7))))) ∧ (v5 = 0 → Q (some (.int (-2))) h3))))) ∧ ((f_X11_isIn x3 2) = 0 → Q (some (.int (-1))) h))))) : Mt mX10_tell [.ref 1, .int x1, .int x2, .int x3] h Q := by
  refine Mt.ofWp rfl (by exact (Nat.le_of_ble_eq_true rfl)) (Wp.fewer (L' := [some (.ref 1), some (.int x1), some (.int x2), some (.int x3)]) (show ab_leL _ _ from ⟨rfl, ⟨rfl, ⟨rfl, ⟨rfl, trivial⟩⟩⟩⟩) ?_)
  refine ab_iload_n (i := 2) dX10_tell_0 rfl rfl ?_
  refine ab_bipush (v := 120) dX10_tell_1 (by decide) ?_
  refine ab_callSN (Q' := fun r h' => r = some (.int (f_X11_isIn x2 120)) ∧ h = h') (As := [.int x2, .int 120]) (c_X11_isIn hs x2 120 ⟨rfl, rfl⟩) (Y_X11_isIn) (fun g A s z => z.2.2.2.2.2.2.1) st_X11_isIn rfl ⟨(Nat.le_of_ble_eq_true rfl), (Nat.le_of_ble_eq_true rfl), (Nat.le_of_ble_eq_true rfl), (Nat.le_of_ble_eq_true rfl)⟩ dX10_tell_3 ?_
  rintro _ _ ⟨rfl, rfl⟩
  refine ab_if_eq (tgt := 17) dX10_tell_6 (by decide) (fun c1 => ?_) (fun c1 => ?_)
  · have ht := ht.1 c1
    refine ab_iconst (v := (-1)) dX10_tell_17 (by decide) ?_
    exact ab_iret rfl dX10_tell_18 (Nat.le_of_ble_eq_true rfl) (Nat.le_of_ble_eq_true rfl) ht
  · have ht := ht.2 c1
    refine ab_iload_n (i := 3) dX10_tell_9 rfl rfl ?_
    refine ab_iconst (v := 2) dX10_tell_10 (by decide) ?_
    refine ab_callSN (Q' := fun r h' => r = some (.int (f_X11_isIn x3 2)) ∧ h = h') (As := [.int x3, .int 2]) (c_X11_isIn hs x3 2 ⟨rfl, rfl⟩) (Y_X11_isIn) (fun g A s z => z.2.2.2.2.2.2.1) st_X11_isIn rfl ⟨(Nat.le_of_ble_eq_true rfl), (Nat.le_of_ble_eq_true rfl), (Nat.le_of_ble_eq_true rfl), (Nat.le_of_ble_eq_true rfl)⟩ dX10_tell_11 ?_
    rintro _ _ ⟨rfl, rfl⟩
    refine ab_if_ne (tgt := 19) dX10_tell_14 (by decide) (fun c2 => ?_) (fun c2 => ?_)
    · have ht := ht.1 c2
      refine ab_aload_n (i := 0) dX10_tell_19 rfl rfl ?_
      refine ab_getR (b := 4) f_X10_20 rfl (sh_k hs 1 10 (by decide) rfl) (sh_r hs 14 rfl) dX10_tell_20 ?_
      refine ab_iload_n (i := 1) dX10_tell_23 rfl rfl ?_
      refine ab_callV (b := 4) (As := [.int x1]) ht (Y_X7_has) l_X10_71 in_X7_has se_X7_has (sh_k hs 4 7 (by decide) rfl) (by decide) rfl rfl ⟨(Nat.le_of_ble_eq_true rfl), (Nat.le_of_ble_eq_true rfl), (Nat.le_of_ble_eq_true rfl), (Nat.le_of_ble_eq_true rfl)⟩ dX10_tell_24 ?_
      rintro _ h3 ⟨v5, rfl, hs4, ht⟩
      refine ab_if_ne (tgt := 33) dX10_tell_27 (by decide) (fun c6 => ?_) (fun c6 => ?_)
      · have ht := ht.1 c6
        refine ab_aload_n (i := 0) dX10_tell_33 rfl rfl ?_
        refine ab_getR (b := 6) f_X10_23 rfl (sh_k hs4 1 10 (by decide) rfl) (sh_r hs4 15 rfl) dX10_tell_34 ?_
        refine ab_iload_n (i := 1) dX10_tell_37 rfl rfl ?_
        refine ab_iload_n (i := 2) dX10_tell_38 rfl rfl ?_
        refine ab_iload_n (i := 3) dX10_tell_39 rfl rfl ?_
        refine ab_callV (b := 6) (As := [.int x1, .int x2, .int x3]) ht (Y_X7_add) l_X10_75 in_X7_add se_X7_add (sh_k hs4 6 7 (by decide) rfl) (by decide) rfl rfl ⟨(Nat.le_of_ble_eq_true rfl), (Nat.le_of_ble_eq_true rfl), (Nat.le_of_ble_eq_true rfl), (Nat.le_of_ble_eq_true rfl)⟩ dX10_tell_40 ?_
        rintro _ h7 ⟨v9, rfl, hs8, ht⟩
        refine ab_iconst (v := (-1)) dX10_tell_43 (by decide) ?_
        refine ab_icmp_ne (tgt := 52) dX10_tell_44 (by decide) (fun c10 => ?_) (fun c10 => ?_)
        · have ht := ht.1 c10
          refine ab_iconst (v := 0) dX10_tell_52 (by decide) ?_
          exact ab_iret rfl dX10_tell_53 (Nat.le_of_ble_eq_true rfl) (Nat.le_of_ble_eq_true rfl) ht
        · have ht := ht.2 c10
          refine ab_bipush (v := (-5)) dX10_tell_47 (by decide) ?_
          refine ab_goto (tgt := 53) dX10_tell_49 (by decide) ?_
          exact ab_iret rfl dX10_tell_53 (Nat.le_of_ble_eq_true rfl) (Nat.le_of_ble_eq_true rfl) ht
      · have ht := ht.2 c6
        refine ab_bipush (v := (-2)) dX10_tell_30 (by decide) ?_
        exact ab_iret rfl dX10_tell_32 (Nat.le_of_ble_eq_true rfl) (Nat.le_of_ble_eq_true rfl) ht
    · have ht := ht.2 c2
      refine ab_iconst (v := (-1)) dX10_tell_17 (by decide) ?_
      exact ab_iret rfl dX10_tell_18 (Nat.le_of_ble_eq_true rfl) (Nat.le_of_ble_eq_true rfl) ht
theorem dX10_keepLaw_0 : decode cX10_keepLaw 0 = .ok (.aload_n 0, 1) := by decide +kernel
theorem dX10_keepLaw_1 : decode cX10_keepLaw 1 = .ok (.getfield 45, 3) := by decide +kernel
theorem dX10_keepLaw_4 : decode cX10_keepLaw 4 = .ok (.bipush 6, 2) := by decide +kernel
theorem dX10_keepLaw_6 : decode cX10_keepLaw 6 = .ok (.if_icmp .lt 5, 3) := by decide +kernel
theorem dX10_keepLaw_9 : decode cX10_keepLaw 9 = .ok (.iconst (-1), 1) := by decide +kernel
theorem dX10_keepLaw_10 : decode cX10_keepLaw 10 = .ok (.ireturn, 1) := by decide +kernel
theorem dX10_keepLaw_11 : decode cX10_keepLaw 11 = .ok (.aload_n 0, 1) := by decide +kernel
theorem dX10_keepLaw_12 : decode cX10_keepLaw 12 = .ok (.getfield 41, 3) := by decide +kernel
theorem dX10_keepLaw_15 : decode cX10_keepLaw 15 = .ok (.aload_n 0, 1) := by decide +kernel
theorem dX10_keepLaw_16 : decode cX10_keepLaw 16 = .ok (.getfield 45, 3) := by decide +kernel
theorem dX10_keepLaw_19 : decode cX10_keepLaw 19 = .ok (.aload_n 1, 1) := by decide +kernel
theorem dX10_keepLaw_20 : decode cX10_keepLaw 20 = .ok (.aastore, 1) := by decide +kernel
theorem dX10_keepLaw_21 : decode cX10_keepLaw 21 = .ok (.aload_n 0, 1) := by decide +kernel
theorem dX10_keepLaw_22 : decode cX10_keepLaw 22 = .ok (.dup, 1) := by decide +kernel
theorem dX10_keepLaw_23 : decode cX10_keepLaw 23 = .ok (.getfield 45, 3) := by decide +kernel
theorem dX10_keepLaw_26 : decode cX10_keepLaw 26 = .ok (.iconst 1, 1) := by decide +kernel
theorem dX10_keepLaw_27 : decode cX10_keepLaw 27 = .ok (.iadd, 1) := by decide +kernel
theorem dX10_keepLaw_28 : decode cX10_keepLaw 28 = .ok (.putfield 45, 3) := by decide +kernel
theorem dX10_keepLaw_31 : decode cX10_keepLaw 31 = .ok (.aload_n 0, 1) := by decide +kernel
theorem dX10_keepLaw_32 : decode cX10_keepLaw 32 = .ok (.getfield 45, 3) := by decide +kernel
theorem dX10_keepLaw_35 : decode cX10_keepLaw 35 = .ok (.iconst 1, 1) := by decide +kernel
theorem dX10_keepLaw_36 : decode cX10_keepLaw 36 = .ok (.isub, 1) := by decide +kernel
theorem dX10_keepLaw_37 : decode cX10_keepLaw 37 = .ok (.ireturn, 1) := by decide +kernel
set_option maxRecDepth 20000 in
theorem T_X10_keepLaw {Q : Option Value → ah_T → Prop} {h : ah_T} (hs : Sh h) (a1 : Nat) (hk_a1 : ah_k h a1 = 9) (ht : (((ah_i h 1 8) < 6 → (vp_in (ah_i h 1 8) (ah_n h 15)) ∧ (∀ h3, h3 = ah_sr h 15 (Int32.toNatClampNeg (ah_i h 1 8)) (some a1) → (∀ h7, h7 = ah_si h3 1 8 ((ah_i h3 1 8) + 1) → Q (some (.int ((ah_i h7 1 8) - 1))) h7))) ∧ (¬ (ah_i h 1 8) < 6 → Q (some (.int (-1))) h))) : Mt mX10_keepLaw [.ref 1, .ref a1] h Q := by
  refine Mt.ofWp rfl (by exact (Nat.le_of_ble_eq_true rfl)) (Wp.fewer (L' := [some (.ref 1), some (.ref a1)]) (show ab_leL _ _ from ⟨rfl, ⟨rfl, trivial⟩⟩) ?_)
  refine ab_aload_n (i := 0) dX10_keepLaw_0 rfl rfl ?_
  refine ab_getI f_X10_45 rfl (sh_k hs 1 10 (by decide) rfl) dX10_keepLaw_1 ?_
  refine ab_bipush (v := 6) dX10_keepLaw_4 (by decide) ?_
  refine ab_icmp_lt (tgt := 11) dX10_keepLaw_6 (by decide) (fun c1 => ?_) (fun c1 => ?_)
  · have ht := ht.1 c1
    refine ab_aload_n (i := 0) dX10_keepLaw_11 rfl rfl ?_
    refine ab_getR (b := 15) f_X10_41 rfl (sh_k hs 1 10 (by decide) rfl) (sh_r hs 20 rfl) dX10_keepLaw_12 ?_
    refine ab_aload_n (i := 0) dX10_keepLaw_15 rfl rfl ?_
    refine ab_getI f_X10_45 rfl (sh_k hs 1 10 (by decide) rfl) dX10_keepLaw_16 ?_
    refine ab_aload_n (i := 1) dX10_keepLaw_19 rfl rfl ?_
    obtain ⟨hc2, ht⟩ := ht
    refine ab_aast 17 9 (by decide) (sh_k hs 15 17 (by decide) rfl) hk_a1 hc2 dX10_keepLaw_20 ?_
    refine Wp.nm fun h3 e4 => ?_
    have ht := ht h3 e4
    have hs5 : Sh h3 := by rw [e4]; exact sh_srA hs (by decide +kernel)
    have hk6 : ah_k h3 a1 = 9 := by rw [e4]; exact hk_a1
    refine ab_aload_n (i := 0) dX10_keepLaw_21 rfl rfl ?_
    refine ab_dup dX10_keepLaw_22 rfl ?_
    refine ab_getI f_X10_45 rfl (sh_k hs5 1 10 (by decide) rfl) dX10_keepLaw_23 ?_
    refine ab_iconst (v := 1) dX10_keepLaw_26 (by decide) ?_
    refine ab_iadd dX10_keepLaw_27 ?_
    refine ab_putI f_X10_45 (Or.inl rfl) rfl (sh_k hs5 1 10 (by decide) rfl) rfl rfl dX10_keepLaw_28 ?_
    refine Wp.nm fun h7 e8 => ?_
    have ht := ht h7 e8
    have hs9 : Sh h7 := by rw [e8]; exact sh_si hs5
    have hk10 : ah_k h7 a1 = 9 := by rw [e8]; exact hk6
    refine ab_aload_n (i := 0) dX10_keepLaw_31 rfl rfl ?_
    refine ab_getI f_X10_45 rfl (sh_k hs9 1 10 (by decide) rfl) dX10_keepLaw_32 ?_
    refine ab_iconst (v := 1) dX10_keepLaw_35 (by decide) ?_
    refine ab_isub dX10_keepLaw_36 ?_
    exact ab_iret rfl dX10_keepLaw_37 (Nat.le_of_ble_eq_true rfl) (Nat.le_of_ble_eq_true rfl) ht
  · have ht := ht.2 c1
    refine ab_iconst (v := (-1)) dX10_keepLaw_9 (by decide) ?_
    exact ab_iret rfl dX10_keepLaw_10 (Nat.le_of_ble_eq_true rfl) (Nat.le_of_ble_eq_true rfl) ht
theorem dX10_lawInForce_0 : decode cX10_lawInForce 0 = .ok (.aload_n 0, 1) := by decide +kernel
theorem dX10_lawInForce_1 : decode cX10_lawInForce 1 = .ok (.getfield 49, 3) := by decide +kernel
theorem dX10_lawInForce_4 : decode cX10_lawInForce 4 = .ok (.aload_n 0, 1) := by decide +kernel
theorem dX10_lawInForce_5 : decode cX10_lawInForce 5 = .ok (.getfield 45, 3) := by decide +kernel
theorem dX10_lawInForce_8 : decode cX10_lawInForce 8 = .ok (.invokestatic 67, 3) := by decide +kernel
theorem dX10_lawInForce_11 : decode cX10_lawInForce 11 = .ok (.ifCond .eq 24, 3) := by decide +kernel
theorem dX10_lawInForce_14 : decode cX10_lawInForce 14 = .ok (.aload_n 0, 1) := by decide +kernel
theorem dX10_lawInForce_15 : decode cX10_lawInForce 15 = .ok (.getfield 49, 3) := by decide +kernel
theorem dX10_lawInForce_18 : decode cX10_lawInForce 18 = .ok (.bipush 6, 2) := by decide +kernel
theorem dX10_lawInForce_20 : decode cX10_lawInForce 20 = .ok (.if_icmp .ge 15, 3) := by decide +kernel
theorem dX10_lawInForce_23 : decode cX10_lawInForce 23 = .ok (.aload_n 0, 1) := by decide +kernel
theorem dX10_lawInForce_24 : decode cX10_lawInForce 24 = .ok (.getfield 41, 3) := by decide +kernel
theorem dX10_lawInForce_27 : decode cX10_lawInForce 27 = .ok (.aload_n 0, 1) := by decide +kernel
theorem dX10_lawInForce_28 : decode cX10_lawInForce 28 = .ok (.getfield 49, 3) := by decide +kernel
theorem dX10_lawInForce_31 : decode cX10_lawInForce 31 = .ok (.aaload, 1) := by decide +kernel
theorem dX10_lawInForce_32 : decode cX10_lawInForce 32 = .ok (.goto 4, 3) := by decide +kernel
theorem dX10_lawInForce_35 : decode cX10_lawInForce 35 = .ok (.aconst_null, 1) := by decide +kernel
theorem dX10_lawInForce_36 : decode cX10_lawInForce 36 = .ok (.areturn, 1) := by decide +kernel
set_option maxRecDepth 20000 in
theorem T_X10_lawInForce {Q : Option Value → ah_T → Prop} {h : ah_T} (hs : Sh h)  (ht : (((f_X11_isIn (ah_i h 1 9) (ah_i h 1 8)) = 0 → Q (some (va_rf none)) h) ∧ (¬ (f_X11_isIn (ah_i h 1 9) (ah_i h 1 8)) = 0 → ((6 ≤ (ah_i h 1 9) → Q (some (va_rf none)) h) ∧ (¬ 6 ≤ (ah_i h 1 9) → (vp_in (ah_i h 1 9) (ah_n h 15)) ∧ ((ah_r h 15 (Int32.toNatClampNeg (ah_i h 1 9)) = none → Q (some (va_rf none)) h) ∧ (∀ b5, ah_r h 15 (Int32.toNatClampNeg (ah_i h 1 9)) = some b5 → (ah_k h b5 = 9) ∧ Q (some (va_rf (some b5))) h))))))) : Mt mX10_lawInForce [.ref 1] h Q := by
  refine Mt.ofWp rfl (by exact (Nat.le_of_ble_eq_true rfl)) (Wp.fewer (L' := [some (.ref 1)]) (show ab_leL _ _ from ⟨rfl, trivial⟩) ?_)
  refine ab_aload_n (i := 0) dX10_lawInForce_0 rfl rfl ?_
  refine ab_getI f_X10_49 rfl (sh_k hs 1 10 (by decide) rfl) dX10_lawInForce_1 ?_
  refine ab_aload_n (i := 0) dX10_lawInForce_4 rfl rfl ?_
  refine ab_getI f_X10_45 rfl (sh_k hs 1 10 (by decide) rfl) dX10_lawInForce_5 ?_
  refine ab_callSN (Q' := fun r h' => r = some (.int (f_X11_isIn (ah_i h 1 9) (ah_i h 1 8))) ∧ h = h') (As := [.int (ah_i h 1 9), .int (ah_i h 1 8)]) (c_X11_isIn hs (ah_i h 1 9) (ah_i h 1 8) ⟨rfl, rfl⟩) (Y_X11_isIn) (fun g A s z => z.2.2.2.2.2.2.1) st_X11_isIn rfl ⟨(Nat.le_of_ble_eq_true rfl), (Nat.le_of_ble_eq_true rfl), (Nat.le_of_ble_eq_true rfl), (Nat.le_of_ble_eq_true rfl)⟩ dX10_lawInForce_8 ?_
  rintro _ _ ⟨rfl, rfl⟩
  refine ab_if_eq (tgt := 35) dX10_lawInForce_11 (by decide) (fun c1 => ?_) (fun c1 => ?_)
  · have ht := ht.1 c1
    refine ab_null dX10_lawInForce_35 ?_
    exact ab_aret (r := none) rfl (by first | exact Or.inl ⟨_, rfl⟩ | exact Or.inr ⟨_, rfl⟩) dX10_lawInForce_36 (Nat.le_of_ble_eq_true rfl) (Nat.le_of_ble_eq_true rfl) ht
  · have ht := ht.2 c1
    refine ab_aload_n (i := 0) dX10_lawInForce_14 rfl rfl ?_
    refine ab_getI f_X10_49 rfl (sh_k hs 1 10 (by decide) rfl) dX10_lawInForce_15 ?_
    refine ab_bipush (v := 6) dX10_lawInForce_18 (by decide) ?_
    refine ab_icmp_ge (tgt := 35) dX10_lawInForce_20 (by decide) (fun c2 => ?_) (fun c2 => ?_)
    · have ht := ht.1 c2
      refine ab_null dX10_lawInForce_35 ?_
      exact ab_aret (r := none) rfl (by first | exact Or.inl ⟨_, rfl⟩ | exact Or.inr ⟨_, rfl⟩) dX10_lawInForce_36 (Nat.le_of_ble_eq_true rfl) (Nat.le_of_ble_eq_true rfl) ht
    · have ht := ht.2 c2
      refine ab_aload_n (i := 0) dX10_lawInForce_23 rfl rfl ?_
      refine ab_getR (b := 15) f_X10_41 rfl (sh_k hs 1 10 (by decide) rfl) (sh_r hs 20 rfl) dX10_lawInForce_24 ?_
      refine ab_aload_n (i := 0) dX10_lawInForce_27 rfl rfl ?_
      refine ab_getI f_X10_49 rfl (sh_k hs 1 10 (by decide) rfl) dX10_lawInForce_28 ?_
      obtain ⟨hc3, ht⟩ := ht
      rcases hr4 : ah_r h 15 (Int32.toNatClampNeg (ah_i h 1 9)) with _ | b5
      · have ht := ht.1 hr4
        refine ab_aald (r := none) 17 (by decide) (sh_k hs 15 17 (by decide) rfl) hc3 hr4 dX10_lawInForce_31 ?_
        refine ab_goto (tgt := 36) dX10_lawInForce_32 (by decide) ?_
        exact ab_aret (r := none) rfl (by first | exact Or.inl ⟨_, rfl⟩ | exact Or.inr ⟨_, rfl⟩) dX10_lawInForce_36 (Nat.le_of_ble_eq_true rfl) (Nat.le_of_ble_eq_true rfl) ht
      · obtain ⟨hk6, ht⟩ := ht.2 b5 hr4
        refine ab_aald (r := some b5) 17 (by decide) (sh_k hs 15 17 (by decide) rfl) hc3 hr4 dX10_lawInForce_31 ?_
        refine ab_goto (tgt := 36) dX10_lawInForce_32 (by decide) ?_
        exact ab_aret (r := (some b5)) rfl (by first | exact Or.inl ⟨_, rfl⟩ | exact Or.inr ⟨_, rfl⟩) dX10_lawInForce_36 (Nat.le_of_ble_eq_true rfl) (Nat.le_of_ble_eq_true rfl) ht
theorem dX10_become_0 : decode cX10_become 0 = .ok (.aload_n 0, 1) := by decide +kernel
theorem dX10_become_1 : decode cX10_become 1 = .ok (.getfield 14, 3) := by decide +kernel
theorem dX10_become_4 : decode cX10_become 4 = .ok (.aload_n 1, 1) := by decide +kernel
theorem dX10_become_5 : decode cX10_become 5 = .ok (.getfield 14, 3) := by decide +kernel
theorem dX10_become_8 : decode cX10_become 8 = .ok (.invokevirtual 79, 3) := by decide +kernel
theorem dX10_become_11 : decode cX10_become 11 = .ok (.aload_n 0, 1) := by decide +kernel
theorem dX10_become_12 : decode cX10_become 12 = .ok (.getfield 20, 3) := by decide +kernel
theorem dX10_become_15 : decode cX10_become 15 = .ok (.aload_n 1, 1) := by decide +kernel
theorem dX10_become_16 : decode cX10_become 16 = .ok (.getfield 20, 3) := by decide +kernel
theorem dX10_become_19 : decode cX10_become 19 = .ok (.invokevirtual 79, 3) := by decide +kernel
theorem dX10_become_22 : decode cX10_become 22 = .ok (.aload_n 0, 1) := by decide +kernel
theorem dX10_become_23 : decode cX10_become 23 = .ok (.getfield 23, 3) := by decide +kernel
theorem dX10_become_26 : decode cX10_become 26 = .ok (.aload_n 1, 1) := by decide +kernel
theorem dX10_become_27 : decode cX10_become 27 = .ok (.getfield 23, 3) := by decide +kernel
theorem dX10_become_30 : decode cX10_become 30 = .ok (.invokevirtual 79, 3) := by decide +kernel
theorem dX10_become_33 : decode cX10_become 33 = .ok (.aload_n 0, 1) := by decide +kernel
theorem dX10_become_34 : decode cX10_become 34 = .ok (.getfield 26, 3) := by decide +kernel
theorem dX10_become_37 : decode cX10_become 37 = .ok (.aload_n 1, 1) := by decide +kernel
theorem dX10_become_38 : decode cX10_become 38 = .ok (.getfield 26, 3) := by decide +kernel
theorem dX10_become_41 : decode cX10_become 41 = .ok (.invokevirtual 79, 3) := by decide +kernel
theorem dX10_become_44 : decode cX10_become 44 = .ok (.aload_n 0, 1) := by decide +kernel
theorem dX10_become_45 : decode cX10_become 45 = .ok (.getfield 29, 3) := by decide +kernel
theorem dX10_become_48 : decode cX10_become 48 = .ok (.aload_n 1, 1) := by decide +kernel
theorem dX10_become_49 : decode cX10_become 49 = .ok (.getfield 29, 3) := by decide +kernel
theorem dX10_become_52 : decode cX10_become 52 = .ok (.invokevirtual 79, 3) := by decide +kernel
theorem dX10_become_55 : decode cX10_become 55 = .ok (.aload_n 0, 1) := by decide +kernel
theorem dX10_become_56 : decode cX10_become 56 = .ok (.getfield 32, 3) := by decide +kernel
theorem dX10_become_59 : decode cX10_become 59 = .ok (.aload_n 1, 1) := by decide +kernel
theorem dX10_become_60 : decode cX10_become 60 = .ok (.getfield 32, 3) := by decide +kernel
theorem dX10_become_63 : decode cX10_become 63 = .ok (.invokevirtual 79, 3) := by decide +kernel
theorem dX10_become_66 : decode cX10_become 66 = .ok (.aload_n 1, 1) := by decide +kernel
theorem dX10_become_67 : decode cX10_become 67 = .ok (.getfield 35, 3) := by decide +kernel
theorem dX10_become_70 : decode cX10_become 70 = .ok (.iconst 0, 1) := by decide +kernel
theorem dX10_become_71 : decode cX10_become 71 = .ok (.aload_n 0, 1) := by decide +kernel
theorem dX10_become_72 : decode cX10_become 72 = .ok (.getfield 35, 3) := by decide +kernel
theorem dX10_become_75 : decode cX10_become 75 = .ok (.iconst 0, 1) := by decide +kernel
theorem dX10_become_76 : decode cX10_become 76 = .ok (.iconst 3, 1) := by decide +kernel
theorem dX10_become_77 : decode cX10_become 77 = .ok (.invokestatic 83, 3) := by decide +kernel
theorem dX10_become_80 : decode cX10_become 80 = .ok (.iconst 0, 1) := by decide +kernel
theorem dX10_become_81 : decode cX10_become 81 = .ok (.istore_n 2, 1) := by decide +kernel
theorem dX10_become_82 : decode cX10_become 82 = .ok (.iload_n 2, 1) := by decide +kernel
theorem dX10_become_83 : decode cX10_become 83 = .ok (.bipush 6, 2) := by decide +kernel
theorem dX10_become_85 : decode cX10_become 85 = .ok (.if_icmp .ge 21, 3) := by decide +kernel
theorem dX10_become_88 : decode cX10_become 88 = .ok (.aload_n 0, 1) := by decide +kernel
theorem dX10_become_89 : decode cX10_become 89 = .ok (.getfield 41, 3) := by decide +kernel
theorem dX10_become_92 : decode cX10_become 92 = .ok (.iload_n 2, 1) := by decide +kernel
theorem dX10_become_93 : decode cX10_become 93 = .ok (.aload_n 1, 1) := by decide +kernel
theorem dX10_become_94 : decode cX10_become 94 = .ok (.getfield 41, 3) := by decide +kernel
theorem dX10_become_97 : decode cX10_become 97 = .ok (.iload_n 2, 1) := by decide +kernel
theorem dX10_become_98 : decode cX10_become 98 = .ok (.aaload, 1) := by decide +kernel
theorem dX10_become_99 : decode cX10_become 99 = .ok (.aastore, 1) := by decide +kernel
theorem dX10_become_100 : decode cX10_become 100 = .ok (.iinc 2 1, 3) := by decide +kernel
theorem dX10_become_103 : decode cX10_become 103 = .ok (.goto (-21), 3) := by decide +kernel
theorem dX10_become_106 : decode cX10_become 106 = .ok (.aload_n 0, 1) := by decide +kernel
theorem dX10_become_107 : decode cX10_become 107 = .ok (.aload_n 1, 1) := by decide +kernel
theorem dX10_become_108 : decode cX10_become 108 = .ok (.getfield 45, 3) := by decide +kernel
theorem dX10_become_111 : decode cX10_become 111 = .ok (.putfield 45, 3) := by decide +kernel
theorem dX10_become_114 : decode cX10_become 114 = .ok (.aload_n 0, 1) := by decide +kernel
theorem dX10_become_115 : decode cX10_become 115 = .ok (.aload_n 1, 1) := by decide +kernel
theorem dX10_become_116 : decode cX10_become 116 = .ok (.getfield 49, 3) := by decide +kernel
theorem dX10_become_119 : decode cX10_become 119 = .ok (.putfield 49, 3) := by decide +kernel
theorem dX10_become_122 : decode cX10_become 122 = .ok (.return_, 1) := by decide +kernel
set_option maxRecDepth 20000 in
theorem T_X10_become_82 {Q : Option Value → ah_T → Prop} {h : ah_T} (hs : Sh h) (a1 : Nat) (x2 : Int32) (hk_a1 : ah_k h a1 = 10) (ht : ((6 ≤ x2 → (∀ h109, h109 = ah_si h 1 8 (ah_i h a1 8) → (∀ h113, h113 = ah_si h109 1 9 (ah_i h109 a1 9) → Q none h113))) ∧ (¬ 6 ≤ x2 → (∃ b117, ah_r h a1 7 = some b117 ∧ ah_k h b117 = 17 ∧ (vp_in x2 (ah_n h b117)) ∧ ((ah_r h b117 (Int32.toNatClampNeg x2) = none → (vp_in x2 (ah_n h 15)) ∧ (∀ h125, h125 = ah_sr h 15 (Int32.toNatClampNeg x2) none → Wp mX10_become Q 0 0 82 [some (.ref 1), some (.ref a1), some (.int (x2 + 1))] [] h125)) ∧ (∀ b122, ah_r h b117 (Int32.toNatClampNeg x2) = some b122 → (ah_k h b122 = 9) ∧ (vp_in x2 (ah_n h 15)) ∧ (∀ h132, h132 = ah_sr h 15 (Int32.toNatClampNeg x2) (some b122) → Wp mX10_become Q 0 0 82 [some (.ref 1), some (.ref a1), some (.int (x2 + 1))] [] h132))))))) : Wp mX10_become Q 0 0 82 [some (.ref 1), some (.ref a1), some (.int x2)] [] h := by
  refine ab_iload_n (i := 2) dX10_become_82 rfl rfl ?_
  refine ab_bipush (v := 6) dX10_become_83 (by decide) ?_
  refine ab_icmp_ge (tgt := 106) dX10_become_85 (by decide) (fun c108 => ?_) (fun c108 => ?_)
  · have ht := ht.1 c108
    refine ab_aload_n (i := 0) dX10_become_106 rfl rfl ?_
    refine ab_aload_n (i := 1) dX10_become_107 rfl rfl ?_
    refine ab_getI f_X10_45 rfl hk_a1 dX10_become_108 ?_
    refine ab_putI f_X10_45 (Or.inl rfl) rfl (sh_k hs 1 10 (by decide) rfl) rfl rfl dX10_become_111 ?_
    refine Wp.nm fun h109 e110 => ?_
    have ht := ht h109 e110
    have hs111 : Sh h109 := by rw [e110]; exact sh_si hs
    have hk112 : ah_k h109 a1 = 10 := by rw [e110]; exact hk_a1
    refine ab_aload_n (i := 0) dX10_become_114 rfl rfl ?_
    refine ab_aload_n (i := 1) dX10_become_115 rfl rfl ?_
    refine ab_getI f_X10_49 rfl hk112 dX10_become_116 ?_
    refine ab_putI f_X10_49 (Or.inl rfl) rfl (sh_k hs111 1 10 (by decide) rfl) rfl rfl dX10_become_119 ?_
    refine Wp.nm fun h113 e114 => ?_
    have ht := ht h113 e114
    have hs115 : Sh h113 := by rw [e114]; exact sh_si hs111
    have hk116 : ah_k h113 a1 = 10 := by rw [e114]; exact hk112
    exact ab_vret rfl dX10_become_122 (Nat.le_of_ble_eq_true rfl) (Nat.le_of_ble_eq_true rfl) ht
  · have ht := ht.2 c108
    refine ab_aload_n (i := 0) dX10_become_88 rfl rfl ?_
    refine ab_getR (b := 15) f_X10_41 rfl (sh_k hs 1 10 (by decide) rfl) (sh_r hs 20 rfl) dX10_become_89 ?_
    refine ab_iload_n (i := 2) dX10_become_92 rfl rfl ?_
    refine ab_aload_n (i := 1) dX10_become_93 rfl rfl ?_
    obtain ⟨b117, hr118, hk119, ht⟩ := ht
    refine ab_getR (b := b117) f_X10_41 rfl hk_a1 hr118 dX10_become_94 ?_
    refine ab_iload_n (i := 2) dX10_become_97 rfl rfl ?_
    obtain ⟨hc120, ht⟩ := ht
    rcases hr121 : ah_r h b117 (Int32.toNatClampNeg x2) with _ | b122
    · have ht := ht.1 hr121
      refine ab_aald (r := none) 17 (by decide) hk119 hc120 hr121 dX10_become_98 ?_
      obtain ⟨hc124, ht⟩ := ht
      refine ab_aastN (sh_k hs 15 17 (by decide) rfl) hc124 dX10_become_99 ?_
      refine Wp.nm fun h125 e126 => ?_
      have ht := ht h125 e126
      have hs127 : Sh h125 := by rw [e126]; exact sh_srA hs (by decide +kernel)
      have hk128 : ah_k h125 a1 = 10 := by rw [e126]; exact hk_a1
      have hk129 : ah_k h125 b117 = 17 := by rw [e126]; exact hk119
      have hr130 : ah_r h125 a1 7 = some b117 := by rw [e126]; exact hr118
      refine ab_iinc (i := 2) (x := x2) (v := (x2 + 1)) (L' := [some (.ref 1), some (.ref a1), some (.int (x2 + 1))]) dX10_become_100 rfl rfl (by exact (Nat.le_of_ble_eq_true rfl)) rfl rfl ?_
      refine ab_goto (tgt := 82) dX10_become_103 (by decide) ?_
      exact Wp.fewer (L' := [some (.ref 1), some (.ref a1), some (.int (x2 + 1))]) (show ab_leL _ _ from ⟨rfl, ⟨rfl, ⟨rfl, trivial⟩⟩⟩) ht
    · obtain ⟨hk123, ht⟩ := ht.2 b122 hr121
      refine ab_aald (r := some b122) 17 (by decide) hk119 hc120 hr121 dX10_become_98 ?_
      obtain ⟨hc131, ht⟩ := ht
      refine ab_aast 17 9 (by decide) (sh_k hs 15 17 (by decide) rfl) hk123 hc131 dX10_become_99 ?_
      refine Wp.nm fun h132 e133 => ?_
      have ht := ht h132 e133
      have hs134 : Sh h132 := by rw [e133]; exact sh_srA hs (by decide +kernel)
      have hk135 : ah_k h132 a1 = 10 := by rw [e133]; exact hk_a1
      have hk136 : ah_k h132 b117 = 17 := by rw [e133]; exact hk119
      have hk137 : ah_k h132 b122 = 9 := by rw [e133]; exact hk123
      have hr138 : ah_r h132 a1 7 = some b117 := by rw [e133]; exact hr118
      refine ab_iinc (i := 2) (x := x2) (v := (x2 + 1)) (L' := [some (.ref 1), some (.ref a1), some (.int (x2 + 1))]) dX10_become_100 rfl rfl (by exact (Nat.le_of_ble_eq_true rfl)) rfl rfl ?_
      refine ab_goto (tgt := 82) dX10_become_103 (by decide) ?_
      exact Wp.fewer (L' := [some (.ref 1), some (.ref a1), some (.int (x2 + 1))]) (show ab_leL _ _ from ⟨rfl, ⟨rfl, ⟨rfl, trivial⟩⟩⟩) ht
set_option maxRecDepth 20000 in
theorem T_X10_become {Q : Option Value → ah_T → Prop} {h : ah_T} (hs : Sh h) (a1 : Nat) (hk_a1 : ah_k h a1 = 10) (ht : (∃ b1, ah_r h a1 0 = some b1 ∧ ah_k h b1 = 7 ∧ (Mt mX7_become [.ref 2, .ref b1] h (ab_qv fun h4 => Sh h4 ∧ ah_k h4 a1 = 10 ∧ ah_r h4 a1 0 = some b1 ∧ ah_k h4 b1 = 7 ∧ (∃ b10, ah_r h4 a1 1 = some b10 ∧ ah_k h4 b10 = 7 ∧ (Mt mX7_become [.ref 4, .ref b10] h4 (ab_qv fun h13 => Sh h13 ∧ ah_k h13 a1 = 10 ∧ ah_r h13 a1 0 = some b1 ∧ ah_k h13 b1 = 7 ∧ ah_r h13 a1 1 = some b10 ∧ ah_k h13 b10 = 7 ∧ (∃ b21, ah_r h13 a1 2 = some b21 ∧ ah_k h13 b21 = 7 ∧ (Mt mX7_become [.ref 6, .ref b21] h13 (ab_qv fun h24 => Sh h24 ∧ ah_k h24 a1 = 10 ∧ ah_r h24 a1 0 = some b1 ∧ ah_k h24 b1 = 7 ∧ ah_r h24 a1 1 = some b10 ∧ ah_k h24 b10 = 7 ∧ ah_r h24 a1 2 = some b21 ∧ ah_k h24 b21 = 7 ∧ (∃ b34, ah_r h24 a1 3 = some b34 ∧ ah_k h24 b34 = 7 ∧ (Mt mX7_become [.ref 8, .ref b34] h24 (ab_qv fun h37 => Sh h37 ∧ ah_k h37 a1 = 10 ∧ ah_r h37 a1 0 = some b1 ∧ ah_k h37 b1 = 7 ∧ ah_r h37 a1 1 = some b10 ∧ ah_k h37 b10 = 7 ∧ ah_r h37 a1 2 = some b21 ∧ ah_k h37 b21 = 7 ∧ ah_r h37 a1 3 = some b34 ∧ ah_k h37 b34 = 7 ∧ (∃ b49, ah_r h37 a1 4 = some b49 ∧ ah_k h37 b49 = 7 ∧ (Mt mX7_become [.ref 10, .ref b49] h37 (ab_qv fun h52 => Sh h52 ∧ ah_k h52 a1 = 10 ∧ ah_r h52 a1 0 = some b1 ∧ ah_k h52 b1 = 7 ∧ ah_r h52 a1 1 = some b10 ∧ ah_k h52 b10 = 7 ∧ ah_r h52 a1 2 = some b21 ∧ ah_k h52 b21 = 7 ∧ ah_r h52 a1 3 = some b34 ∧ ah_k h52 b34 = 7 ∧ ah_r h52 a1 4 = some b49 ∧ ah_k h52 b49 = 7 ∧ (∃ b66, ah_r h52 a1 5 = some b66 ∧ ah_k h52 b66 = 7 ∧ (Mt mX7_become [.ref 12, .ref b66] h52 (ab_qv fun h69 => Sh h69 ∧ ah_k h69 a1 = 10 ∧ ah_r h69 a1 0 = some b1 ∧ ah_k h69 b1 = 7 ∧ ah_r h69 a1 1 = some b10 ∧ ah_k h69 b10 = 7 ∧ ah_r h69 a1 2 = some b21 ∧ ah_k h69 b21 = 7 ∧ ah_r h69 a1 3 = some b34 ∧ ah_k h69 b34 = 7 ∧ ah_r h69 a1 4 = some b49 ∧ ah_k h69 b49 = 7 ∧ ah_r h69 a1 5 = some b66 ∧ ah_k h69 b66 = 7 ∧ (∃ b85, ah_r h69 a1 6 = some b85 ∧ ah_k h69 b85 = 14 ∧ ((Int32.toNatClampNeg 0) + (Int32.toNatClampNeg 3) ≤ ah_n h69 b85) ∧ ((Int32.toNatClampNeg 0) + (Int32.toNatClampNeg 3) ≤ ah_n h69 14) ∧ (∀ h90, h90 = ah_sa h69 14 (va_cpy (ah_i h69 b85) (ah_i h69 14) (Int32.toNatClampNeg 0) (Int32.toNatClampNeg 0) (Int32.toNatClampNeg 3)) → Wp mX10_become Q 0 0 82 [some (.ref 1), some (.ref a1), some (.int 0)] [] h90))))))))))))))))))))) : Mt mX10_become [.ref 1, .ref a1] h Q := by
  refine Mt.ofWp rfl (by exact (Nat.le_of_ble_eq_true rfl)) (Wp.fewer (L' := [some (.ref 1), some (.ref a1), none]) (show ab_leL _ _ from ⟨rfl, ⟨rfl, trivial⟩⟩) ?_)
  refine ab_aload_n (i := 0) dX10_become_0 rfl rfl ?_
  refine ab_getR (b := 2) f_X10_14 rfl (sh_k hs 1 10 (by decide) rfl) (sh_r hs 13 rfl) dX10_become_1 ?_
  refine ab_aload_n (i := 1) dX10_become_4 rfl rfl ?_
  obtain ⟨b1, hr2, hk3, ht⟩ := ht
  refine ab_getR (b := b1) f_X10_14 rfl hk_a1 hr2 dX10_become_5 ?_
  refine ab_callV (b := 2) (As := [.ref b1]) ht (Y_X7_become) l_X10_79 in_X7_become se_X7_become (sh_k hs 2 7 (by decide) rfl) (by decide) rfl rfl ⟨(Nat.le_of_ble_eq_true rfl), (Nat.le_of_ble_eq_true rfl), (Nat.le_of_ble_eq_true rfl), (Nat.le_of_ble_eq_true rfl)⟩ dX10_become_8 ?_
  rintro _ h4 ⟨rfl, hs5, hk7, hr8, hk9, ht⟩
  refine ab_aload_n (i := 0) dX10_become_11 rfl rfl ?_
  refine ab_getR (b := 4) f_X10_20 rfl (sh_k hs5 1 10 (by decide) rfl) (sh_r hs5 14 rfl) dX10_become_12 ?_
  refine ab_aload_n (i := 1) dX10_become_15 rfl rfl ?_
  obtain ⟨b10, hr11, hk12, ht⟩ := ht
  refine ab_getR (b := b10) f_X10_20 rfl hk7 hr11 dX10_become_16 ?_
  refine ab_callV (b := 4) (As := [.ref b10]) ht (Y_X7_become) l_X10_79 in_X7_become se_X7_become (sh_k hs5 4 7 (by decide) rfl) (by decide) rfl rfl ⟨(Nat.le_of_ble_eq_true rfl), (Nat.le_of_ble_eq_true rfl), (Nat.le_of_ble_eq_true rfl), (Nat.le_of_ble_eq_true rfl)⟩ dX10_become_19 ?_
  rintro _ h13 ⟨rfl, hs14, hk16, hr17, hk18, hr19, hk20, ht⟩
  refine ab_aload_n (i := 0) dX10_become_22 rfl rfl ?_
  refine ab_getR (b := 6) f_X10_23 rfl (sh_k hs14 1 10 (by decide) rfl) (sh_r hs14 15 rfl) dX10_become_23 ?_
  refine ab_aload_n (i := 1) dX10_become_26 rfl rfl ?_
  obtain ⟨b21, hr22, hk23, ht⟩ := ht
  refine ab_getR (b := b21) f_X10_23 rfl hk16 hr22 dX10_become_27 ?_
  refine ab_callV (b := 6) (As := [.ref b21]) ht (Y_X7_become) l_X10_79 in_X7_become se_X7_become (sh_k hs14 6 7 (by decide) rfl) (by decide) rfl rfl ⟨(Nat.le_of_ble_eq_true rfl), (Nat.le_of_ble_eq_true rfl), (Nat.le_of_ble_eq_true rfl), (Nat.le_of_ble_eq_true rfl)⟩ dX10_become_30 ?_
  rintro _ h24 ⟨rfl, hs25, hk27, hr28, hk29, hr30, hk31, hr32, hk33, ht⟩
  refine ab_aload_n (i := 0) dX10_become_33 rfl rfl ?_
  refine ab_getR (b := 8) f_X10_26 rfl (sh_k hs25 1 10 (by decide) rfl) (sh_r hs25 16 rfl) dX10_become_34 ?_
  refine ab_aload_n (i := 1) dX10_become_37 rfl rfl ?_
  obtain ⟨b34, hr35, hk36, ht⟩ := ht
  refine ab_getR (b := b34) f_X10_26 rfl hk27 hr35 dX10_become_38 ?_
  refine ab_callV (b := 8) (As := [.ref b34]) ht (Y_X7_become) l_X10_79 in_X7_become se_X7_become (sh_k hs25 8 7 (by decide) rfl) (by decide) rfl rfl ⟨(Nat.le_of_ble_eq_true rfl), (Nat.le_of_ble_eq_true rfl), (Nat.le_of_ble_eq_true rfl), (Nat.le_of_ble_eq_true rfl)⟩ dX10_become_41 ?_
  rintro _ h37 ⟨rfl, hs38, hk40, hr41, hk42, hr43, hk44, hr45, hk46, hr47, hk48, ht⟩
  refine ab_aload_n (i := 0) dX10_become_44 rfl rfl ?_
  refine ab_getR (b := 10) f_X10_29 rfl (sh_k hs38 1 10 (by decide) rfl) (sh_r hs38 17 rfl) dX10_become_45 ?_
  refine ab_aload_n (i := 1) dX10_become_48 rfl rfl ?_
  obtain ⟨b49, hr50, hk51, ht⟩ := ht
  refine ab_getR (b := b49) f_X10_29 rfl hk40 hr50 dX10_become_49 ?_
  refine ab_callV (b := 10) (As := [.ref b49]) ht (Y_X7_become) l_X10_79 in_X7_become se_X7_become (sh_k hs38 10 7 (by decide) rfl) (by decide) rfl rfl ⟨(Nat.le_of_ble_eq_true rfl), (Nat.le_of_ble_eq_true rfl), (Nat.le_of_ble_eq_true rfl), (Nat.le_of_ble_eq_true rfl)⟩ dX10_become_52 ?_
  rintro _ h52 ⟨rfl, hs53, hk55, hr56, hk57, hr58, hk59, hr60, hk61, hr62, hk63, hr64, hk65, ht⟩
  refine ab_aload_n (i := 0) dX10_become_55 rfl rfl ?_
  refine ab_getR (b := 12) f_X10_32 rfl (sh_k hs53 1 10 (by decide) rfl) (sh_r hs53 18 rfl) dX10_become_56 ?_
  refine ab_aload_n (i := 1) dX10_become_59 rfl rfl ?_
  obtain ⟨b66, hr67, hk68, ht⟩ := ht
  refine ab_getR (b := b66) f_X10_32 rfl hk55 hr67 dX10_become_60 ?_
  refine ab_callV (b := 12) (As := [.ref b66]) ht (Y_X7_become) l_X10_79 in_X7_become se_X7_become (sh_k hs53 12 7 (by decide) rfl) (by decide) rfl rfl ⟨(Nat.le_of_ble_eq_true rfl), (Nat.le_of_ble_eq_true rfl), (Nat.le_of_ble_eq_true rfl), (Nat.le_of_ble_eq_true rfl)⟩ dX10_become_63 ?_
  rintro _ h69 ⟨rfl, hs70, hk72, hr73, hk74, hr75, hk76, hr77, hk78, hr79, hk80, hr81, hk82, hr83, hk84, ht⟩
  refine ab_aload_n (i := 1) dX10_become_66 rfl rfl ?_
  obtain ⟨b85, hr86, hk87, ht⟩ := ht
  refine ab_getR (b := b85) f_X10_35 rfl hk72 hr86 dX10_become_67 ?_
  refine ab_iconst (v := 0) dX10_become_70 (by decide) ?_
  refine ab_aload_n (i := 0) dX10_become_71 rfl rfl ?_
  refine ab_getR (b := 14) f_X10_35 rfl (sh_k hs70 1 10 (by decide) rfl) (sh_r hs70 19 rfl) dX10_become_72 ?_
  refine ab_iconst (v := 0) dX10_become_75 (by decide) ?_
  refine ab_iconst (v := 3) dX10_become_76 (by decide) ?_
  obtain ⟨hc88, ht⟩ := ht
  obtain ⟨hc89, ht⟩ := ht
  refine ab_copy (tb_6 (List.mem_of_getElem? (i := 200) (by decide +kernel)) rfl) na_copy st_copy in_sys hk87 (sh_k hs70 14 14 (by decide) rfl) (by decide) (by decide) (by decide) hc88 hc89 (Nat.le_of_ble_eq_true rfl) (Nat.le_of_ble_eq_true rfl) dX10_become_77 ?_
  refine Wp.nm fun h90 e91 => ?_
  have ht := ht h90 e91
  have hs92 : Sh h90 := by rw [e91]; exact sh_sa hs70
  have hk93 : ah_k h90 a1 = 10 := by rw [e91]; exact hk72
  have hk94 : ah_k h90 b1 = 7 := by rw [e91]; exact hk74
  have hk95 : ah_k h90 b10 = 7 := by rw [e91]; exact hk76
  have hk96 : ah_k h90 b21 = 7 := by rw [e91]; exact hk78
  have hk97 : ah_k h90 b34 = 7 := by rw [e91]; exact hk80
  have hk98 : ah_k h90 b49 = 7 := by rw [e91]; exact hk82
  have hk99 : ah_k h90 b66 = 7 := by rw [e91]; exact hk84
  have hk100 : ah_k h90 b85 = 14 := by rw [e91]; exact hk87
  have hr101 : ah_r h90 a1 0 = some b1 := by rw [e91]; exact hr73
  have hr102 : ah_r h90 a1 1 = some b10 := by rw [e91]; exact hr75
  have hr103 : ah_r h90 a1 2 = some b21 := by rw [e91]; exact hr77
  have hr104 : ah_r h90 a1 3 = some b34 := by rw [e91]; exact hr79
  have hr105 : ah_r h90 a1 4 = some b49 := by rw [e91]; exact hr81
  have hr106 : ah_r h90 a1 5 = some b66 := by rw [e91]; exact hr83
  have hr107 : ah_r h90 a1 6 = some b85 := by rw [e91]; exact hr86
  refine ab_iconst (v := 0) dX10_become_80 (by decide) ?_
  refine ab_istore_n (i := 2) (L' := [some (.ref 1), some (.ref a1), some (.int 0)]) dX10_become_81 rfl (by exact (Nat.le_of_ble_eq_true rfl)) rfl rfl ?_
  exact Wp.fewer (L' := [some (.ref 1), some (.ref a1), some (.int 0)]) (show ab_leL _ _ from ⟨rfl, ⟨rfl, ⟨rfl, trivial⟩⟩⟩) ht
