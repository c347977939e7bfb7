/-! ===== blocks of methods (printed by wip/whole/mkall.py) ===== -/
theorem dX9_part_0 : decode cX9_part 0 = .ok (.iload_n 1, 1) := by decide +kernel
theorem dX9_part_1 : decode cX9_part 1 = .ok (.bipush 6, 2) := by decide +kernel
theorem dX9_part_3 : decode cX9_part 3 = .ok (.imul, 1) := by decide +kernel
theorem dX9_part_4 : decode cX9_part 4 = .ok (.iload_n 2, 1) := by decide +kernel
theorem dX9_part_5 : decode cX9_part 5 = .ok (.iadd, 1) := by decide +kernel
theorem dX9_part_6 : decode cX9_part 6 = .ok (.istore_n 3, 1) := by decide +kernel
theorem dX9_part_7 : decode cX9_part 7 = .ok (.iload_n 3, 1) := by decide +kernel
theorem dX9_part_8 : decode cX9_part 8 = .ok (.ifCond .lt 21, 3) := by decide +kernel
theorem dX9_part_11 : decode cX9_part 11 = .ok (.iload_n 3, 1) := by decide +kernel
theorem dX9_part_12 : decode cX9_part 12 = .ok (.aload_n 0, 1) := by decide +kernel
theorem dX9_part_13 : decode cX9_part 13 = .ok (.getfield 15, 3) := by decide +kernel
theorem dX9_part_16 : decode cX9_part 16 = .ok (.arraylength, 1) := by decide +kernel
theorem dX9_part_17 : decode cX9_part 17 = .ok (.if_icmp .ge 12, 3) := by decide +kernel
theorem dX9_part_20 : decode cX9_part 20 = .ok (.aload_n 0, 1) := by decide +kernel
theorem dX9_part_21 : decode cX9_part 21 = .ok (.getfield 15, 3) := by decide +kernel
theorem dX9_part_24 : decode cX9_part 24 = .ok (.iload_n 3, 1) := by decide +kernel
theorem dX9_part_25 : decode cX9_part 25 = .ok (.iaload, 1) := by decide +kernel
theorem dX9_part_26 : decode cX9_part 26 = .ok (.goto 4, 3) := by decide +kernel
theorem dX9_part_29 : decode cX9_part 29 = .ok (.iconst (-1), 1) := by decide +kernel
theorem dX9_part_30 : decode cX9_part 30 = .ok (.ireturn, 1) := by decide +kernel
set_option maxRecDepth 20000 in
theorem T_X9_part {Q : Option Value → ah_T → Prop} {h : ah_T} (hs : Sh h) (t cc : Nat) (x1 : Int32) (x2 : Int32) (hk_t : ah_k h t = 9) (hk_cc : ah_k h cc = 14) (hr_t : ah_r h t 1 = some cc) (ht : ((((x1 * 6) + x2) < 0 → Q (some (.int (-1))) h) ∧ (¬ ((x1 * 6) + x2) < 0 → (((Int32.ofNat (ah_n h cc)) ≤ ((x1 * 6) + x2) → Q (some (.int (-1))) h) ∧ (¬ (Int32.ofNat (ah_n h cc)) ≤ ((x1 * 6) + x2) → (vp_in ((x1 * 6) + x2) (ah_n h cc)) ∧ Q (some (.int (ah_i h cc (Int32.toNatClampNeg ((x1 * 6) + x2))))) h))))) : Mt mX9_part [.ref t, .int x1, .int x2] h Q := by
  refine Mt.ofWp rfl (by exact (Nat.le_of_ble_eq_true rfl)) (Wp.fewer (L' := [some (.ref t), some (.int x1), some (.int x2), none]) (show ab_leL _ _ from ⟨rfl, ⟨rfl, ⟨rfl, trivial⟩⟩⟩) ?_)
  refine ab_iload_n (i := 1) dX9_part_0 rfl rfl ?_
  refine ab_bipush (v := 6) dX9_part_1 (by decide) ?_
  refine ab_imul dX9_part_3 ?_
  refine ab_iload_n (i := 2) dX9_part_4 rfl rfl ?_
  refine ab_iadd dX9_part_5 ?_
  refine ab_istore_n (i := 3) (L' := [some (.ref t), some (.int x1), some (.int x2), some (.int ((x1 * 6) + x2))]) dX9_part_6 rfl (by exact (Nat.le_of_ble_eq_true rfl)) rfl rfl ?_
  refine ab_iload_n (i := 3) dX9_part_7 rfl rfl ?_
  refine ab_if_lt (tgt := 29) dX9_part_8 (by decide) (fun c1 => ?_) (fun c1 => ?_)
  · have ht := ht.1 c1
    refine ab_iconst (v := (-1)) dX9_part_29 (by decide) ?_
    exact ab_iret rfl dX9_part_30 (Nat.le_of_ble_eq_true rfl) (Nat.le_of_ble_eq_true rfl) ht
  · have ht := ht.2 c1
    refine ab_iload_n (i := 3) dX9_part_11 rfl rfl ?_
    refine ab_aload_n (i := 0) dX9_part_12 rfl rfl ?_
    refine ab_getR (b := cc) f_X9_15 rfl hk_t hr_t dX9_part_13 ?_
    refine ab_alen 14 (by decide) hk_cc rfl dX9_part_16 ?_
    refine ab_icmp_ge (tgt := 29) dX9_part_17 (by decide) (fun c2 => ?_) (fun c2 => ?_)
    · have ht := ht.1 c2
      refine ab_iconst (v := (-1)) dX9_part_29 (by decide) ?_
      exact ab_iret rfl dX9_part_30 (Nat.le_of_ble_eq_true rfl) (Nat.le_of_ble_eq_true rfl) ht
    · have ht := ht.2 c2
      refine ab_aload_n (i := 0) dX9_part_20 rfl rfl ?_
      refine ab_getR (b := cc) f_X9_15 rfl hk_t hr_t dX9_part_21 ?_
      refine ab_iload_n (i := 3) dX9_part_24 rfl rfl ?_
      obtain ⟨hc3, ht⟩ := ht
      refine ab_iald hk_cc hc3 dX9_part_25 ?_
      refine ab_goto (tgt := 30) dX9_part_26 (by decide) ?_
      exact ab_iret rfl dX9_part_30 (Nat.le_of_ble_eq_true rfl) (Nat.le_of_ble_eq_true rfl) ht
theorem dX10_isWay_0 : decode cX10_isWay 0 = .ok (.iload_n 1, 1) := by decide +kernel
theorem dX10_isWay_1 : decode cX10_isWay 1 = .ok (.iload_n 2, 1) := by decide +kernel
theorem dX10_isWay_2 : decode cX10_isWay 2 = .ok (.invokestatic 52, 3) := by decide +kernel
theorem dX10_isWay_5 : decode cX10_isWay 5 = .ok (.istore_n 3, 1) := by decide +kernel
theorem dX10_isWay_6 : decode cX10_isWay 6 = .ok (.iload_n 1, 1) := by decide +kernel
theorem dX10_isWay_7 : decode cX10_isWay 7 = .ok (.iload_n 2, 1) := by decide +kernel
theorem dX10_isWay_8 : decode cX10_isWay 8 = .ok (.invokestatic 58, 3) := by decide +kernel
theorem dX10_isWay_11 : decode cX10_isWay 11 = .ok (.istore 4, 2) := by decide +kernel
theorem dX10_isWay_13 : decode cX10_isWay 13 = .ok (.iconst 0, 1) := by decide +kernel
theorem dX10_isWay_14 : decode cX10_isWay 14 = .ok (.istore 5, 2) := by decide +kernel
theorem dX10_isWay_16 : decode cX10_isWay 16 = .ok (.iload 5, 2) := by decide +kernel
theorem dX10_isWay_18 : decode cX10_isWay 18 = .ok (.aload_n 0, 1) := by decide +kernel
theorem dX10_isWay_19 : decode cX10_isWay 19 = .ok (.getfield 14, 3) := by decide +kernel
theorem dX10_isWay_22 : decode cX10_isWay 22 = .ok (.getfield 61, 3) := by decide +kernel
theorem dX10_isWay_25 : decode cX10_isWay 25 = .ok (.if_icmp .ge 40, 3) := by decide +kernel
theorem dX10_isWay_28 : decode cX10_isWay 28 = .ok (.aload_n 0, 1) := by decide +kernel
theorem dX10_isWay_29 : decode cX10_isWay 29 = .ok (.getfield 14, 3) := by decide +kernel
theorem dX10_isWay_32 : decode cX10_isWay 32 = .ok (.iload 5, 2) := by decide +kernel
theorem dX10_isWay_34 : decode cX10_isWay 34 = .ok (.iconst 0, 1) := by decide +kernel
theorem dX10_isWay_35 : decode cX10_isWay 35 = .ok (.invokevirtual 64, 3) := by decide +kernel
theorem dX10_isWay_38 : decode cX10_isWay 38 = .ok (.iload_n 3, 1) := by decide +kernel
theorem dX10_isWay_39 : decode cX10_isWay 39 = .ok (.if_icmp .ne 20, 3) := by decide +kernel
theorem dX10_isWay_42 : decode cX10_isWay 42 = .ok (.aload_n 0, 1) := by decide +kernel
theorem dX10_isWay_43 : decode cX10_isWay 43 = .ok (.getfield 14, 3) := by decide +kernel
theorem dX10_isWay_46 : decode cX10_isWay 46 = .ok (.iload 5, 2) := by decide +kernel
theorem dX10_isWay_48 : decode cX10_isWay 48 = .ok (.iconst 1, 1) := by decide +kernel
theorem dX10_isWay_49 : decode cX10_isWay 49 = .ok (.invokevirtual 64, 3) := by decide +kernel
theorem dX10_isWay_52 : decode cX10_isWay 52 = .ok (.iload 4, 2) := by decide +kernel
theorem dX10_isWay_54 : decode cX10_isWay 54 = .ok (.if_icmp .ne 5, 3) := by decide +kernel
theorem dX10_isWay_57 : decode cX10_isWay 57 = .ok (.iconst 1, 1) := by decide +kernel
theorem dX10_isWay_58 : decode cX10_isWay 58 = .ok (.ireturn, 1) := by decide +kernel
theorem dX10_isWay_59 : decode cX10_isWay 59 = .ok (.iinc 5 1, 3) := by decide +kernel
theorem dX10_isWay_62 : decode cX10_isWay 62 = .ok (.goto (-46), 3) := by decide +kernel
theorem dX10_isWay_65 : decode cX10_isWay 65 = .ok (.iconst 0, 1) := by decide +kernel
theorem dX10_isWay_66 : decode cX10_isWay 66 = .ok (.ireturn, 1) := by decide +kernel
set_option maxRecDepth 20000 in
theorem T_X10_isWay_16 {Q : Option Value → ah_T → Prop} {h : ah_T} (hs : Sh h) (x3 : Int32) (x4 : Int32) (x5 : Int32) (ht : (((ah_i h 2 3) ≤ x5 → Q (some (.int 0)) h) ∧ (¬ (ah_i h 2 3) ≤ x5 → (Mt mX7_get [.ref 2, .int x5, .int 0] h (ab_qi fun v4 h2 => Sh h2 ∧ ((¬ v4 = x3 → Wp mX10_isWay Q 0 0 16 [some (.ref 1), none, none, some (.int x3), some (.int x4), some (.int (x5 + 1))] [] h2) ∧ (v4 = x3 → (Mt mX7_get [.ref 2, .int x5, .int 1] h2 (ab_qi fun v8 h6 => Sh h6 ∧ ((¬ v8 = x4 → Wp mX10_isWay Q 0 0 16 [some (.ref 1), none, none, some (.int x3), some (.int x4), some (.int (x5 + 1))] [] h6) ∧ (v8 = x4 → Q (some (.int 1)) h6))))))))))) : Wp mX10_isWay Q 0 0 16 [some (.ref 1), none, none, some (.int x3), some (.int x4), some (.int x5)] [] h := by
  refine ab_iload (i := 5) dX10_isWay_16 rfl ?_
  refine ab_aload_n (i := 0) dX10_isWay_18 rfl rfl ?_
  refine ab_getR (b := 2) f_X10_14 rfl (sh_k hs 1 10 (by decide) rfl) (sh_r hs 13 rfl) dX10_isWay_19 ?_
  refine ab_getI f_X10_61 rfl (sh_k hs 2 7 (by decide) rfl) dX10_isWay_22 ?_
  refine ab_icmp_ge (tgt := 65) dX10_isWay_25 (by decide) (fun c1 => ?_) (fun c1 => ?_)
  · have ht := ht.1 c1
    refine ab_iconst (v := 0) dX10_isWay_65 (by decide) ?_
    exact ab_zret rfl rfl dX10_isWay_66 (Nat.le_of_ble_eq_true rfl) (Nat.le_of_ble_eq_true rfl) ht
  · have ht := ht.2 c1
    refine ab_aload_n (i := 0) dX10_isWay_28 rfl rfl ?_
    refine ab_getR (b := 2) f_X10_14 rfl (sh_k hs 1 10 (by decide) rfl) (sh_r hs 13 rfl) dX10_isWay_29 ?_
    refine ab_iload (i := 5) dX10_isWay_32 rfl ?_
    refine ab_iconst (v := 0) dX10_isWay_34 (by decide) ?_
    refine ab_callV (b := 2) (As := [.int x5, .int 0]) ht (Y_X7_get) l_X10_64 in_X7_get se_X7_get (sh_k hs 2 7 (by decide) rfl) (by decide) rfl rfl ⟨(Nat.le_of_ble_eq_true rfl), (Nat.le_of_ble_eq_true rfl), (Nat.le_of_ble_eq_true rfl), (Nat.le_of_ble_eq_true rfl)⟩ dX10_isWay_35 ?_
    rintro _ h2 ⟨v4, rfl, hs3, ht⟩
    refine ab_iload_n (i := 3) dX10_isWay_38 rfl rfl ?_
    refine ab_icmp_ne (tgt := 59) dX10_isWay_39 (by decide) (fun c5 => ?_) (fun c5 => ?_)
    · have ht := ht.1 c5
      refine ab_iinc (i := 5) (x := x5) (v := (x5 + 1)) (L' := [some (.ref 1), none, none, some (.int x3), some (.int x4), some (.int (x5 + 1))]) dX10_isWay_59 rfl rfl (by exact (Nat.le_of_ble_eq_true rfl)) rfl rfl ?_
      refine ab_goto (tgt := 16) dX10_isWay_62 (by decide) ?_
      exact Wp.fewer (L' := [some (.ref 1), none, none, some (.int x3), some (.int x4), some (.int (x5 + 1))]) (show ab_leL _ _ from ⟨rfl, ⟨rfl, ⟨rfl, ⟨rfl, trivial⟩⟩⟩⟩) ht
    · have ht := ht.2 c5
      refine ab_aload_n (i := 0) dX10_isWay_42 rfl rfl ?_
      refine ab_getR (b := 2) f_X10_14 rfl (sh_k hs3 1 10 (by decide) rfl) (sh_r hs3 13 rfl) dX10_isWay_43 ?_
      refine ab_iload (i := 5) dX10_isWay_46 rfl ?_
      refine ab_iconst (v := 1) dX10_isWay_48 (by decide) ?_
      refine ab_callV (b := 2) (As := [.int x5, .int 1]) ht (Y_X7_get) l_X10_64 in_X7_get se_X7_get (sh_k hs3 2 7 (by decide) rfl) (by decide) rfl rfl ⟨(Nat.le_of_ble_eq_true rfl), (Nat.le_of_ble_eq_true rfl), (Nat.le_of_ble_eq_true rfl), (Nat.le_of_ble_eq_true rfl)⟩ dX10_isWay_49 ?_
      rintro _ h6 ⟨v8, rfl, hs7, ht⟩
      refine ab_iload (i := 4) dX10_isWay_52 rfl ?_
      refine ab_icmp_ne (tgt := 59) dX10_isWay_54 (by decide) (fun c9 => ?_) (fun c9 => ?_)
      · have ht := ht.1 c9
        refine ab_iinc (i := 5) (x := x5) (v := (x5 + 1)) (L' := [some (.ref 1), none, none, some (.int x3), some (.int x4), some (.int (x5 + 1))]) dX10_isWay_59 rfl rfl (by exact (Nat.le_of_ble_eq_true rfl)) rfl rfl ?_
        refine ab_goto (tgt := 16) dX10_isWay_62 (by decide) ?_
        exact Wp.fewer (L' := [some (.ref 1), none, none, some (.int x3), some (.int x4), some (.int (x5 + 1))]) (show ab_leL _ _ from ⟨rfl, ⟨rfl, ⟨rfl, ⟨rfl, trivial⟩⟩⟩⟩) ht
      · have ht := ht.2 c9
        refine ab_iconst (v := 1) dX10_isWay_57 (by decide) ?_
        exact ab_zret rfl rfl dX10_isWay_58 (Nat.le_of_ble_eq_true rfl) (Nat.le_of_ble_eq_true rfl) ht
set_option maxRecDepth 20000 in
theorem T_X10_isWay {Q : Option Value → ah_T → Prop} {h : ah_T} (hs : Sh h) (x1 : Int32) (x2 : Int32) (ht : Wp mX10_isWay Q 0 0 16 [some (.ref 1), none, none, some (.int (if x2 < x1 then x2 else x1)), some (.int (if x1 < x2 then x2 else x1)), some (.int 0)] [] h) : Mt mX10_isWay [.ref 1, .int x1, .int x2] h Q := by
  refine Mt.ofWp rfl (by exact (Nat.le_of_ble_eq_true rfl)) (Wp.fewer (L' := [some (.ref 1), some (.int x1), some (.int x2), none, none, none]) (show ab_leL _ _ from ⟨rfl, ⟨rfl, ⟨rfl, trivial⟩⟩⟩) ?_)
  refine ab_iload_n (i := 1) dX10_isWay_0 rfl rfl ?_
  refine ab_iload_n (i := 2) dX10_isWay_1 rfl rfl ?_
  refine ab_mmin (tb_3 (List.mem_of_getElem? (i := 133) (by decide +kernel)) rfl) st_mmin in_m co_mmin (Nat.le_of_ble_eq_true rfl) (Nat.le_of_ble_eq_true rfl) (Nat.le_of_ble_eq_true rfl) (Nat.le_of_ble_eq_true rfl) dX10_isWay_2 ?_
  refine ab_istore_n (i := 3) (L' := [some (.ref 1), some (.int x1), some (.int x2), some (.int (if x2 < x1 then x2 else x1)), none, none]) dX10_isWay_5 rfl (by exact (Nat.le_of_ble_eq_true rfl)) rfl rfl ?_
  refine ab_iload_n (i := 1) dX10_isWay_6 rfl rfl ?_
  refine ab_iload_n (i := 2) dX10_isWay_7 rfl rfl ?_
  refine ab_mmax (tb_3 (List.mem_of_getElem? (i := 136) (by decide +kernel)) rfl) st_mmax in_m co_mmax (Nat.le_of_ble_eq_true rfl) (Nat.le_of_ble_eq_true rfl) (Nat.le_of_ble_eq_true rfl) (Nat.le_of_ble_eq_true rfl) dX10_isWay_8 ?_
  refine ab_istore (i := 4) (L' := [some (.ref 1), some (.int x1), some (.int x2), some (.int (if x2 < x1 then x2 else x1)), some (.int (if x1 < x2 then x2 else x1)), none]) dX10_isWay_11 (by exact (Nat.le_of_ble_eq_true rfl)) rfl rfl ?_
  refine ab_iconst (v := 0) dX10_isWay_13 (by decide) ?_
  refine ab_istore (i := 5) (L' := [some (.ref 1), some (.int x1), some (.int x2), some (.int (if x2 < x1 then x2 else x1)), some (.int (if x1 < x2 then x2 else x1)), some (.int 0)]) dX10_isWay_14 (by exact (Nat.le_of_ble_eq_true rfl)) rfl rfl ?_
  exact Wp.fewer (L' := [some (.ref 1), none, none, some (.int (if x2 < x1 then x2 else x1)), some (.int (if x1 < x2 then x2 else x1)), some (.int 0)]) (show ab_leL _ _ from ⟨rfl, ⟨rfl, ⟨rfl, ⟨rfl, trivial⟩⟩⟩⟩) ht
theorem dX10_tell_0 : decode cX10_tell 0 = .ok (.iload_n 2, 1) := by decide +kernel
theorem dX10_tell_1 : decode cX10_tell 1 = .ok (.bipush 120, 2) := by decide +kernel
theorem dX10_tell_3 : decode cX10_tell 3 = .ok (.invokestatic 67, 3) := by decide +kernel
theorem dX10_tell_6 : decode cX10_tell 6 = .ok (.ifCond .eq 11, 3) := by decide +kernel
theorem dX10_tell_9 : decode cX10_tell 9 = .ok (.iload_n 3, 1) := by decide +kernel
theorem dX10_tell_10 : decode cX10_tell 10 = .ok (.iconst 2, 1) := by decide +kernel
theorem dX10_tell_11 : decode cX10_tell 11 = .ok (.invokestatic 67, 3) := by decide +kernel
theorem dX10_tell_14 : decode cX10_tell 14 = .ok (.ifCond .ne 5, 3) := by decide +kernel
theorem dX10_tell_17 : decode cX10_tell 17 = .ok (.iconst (-1), 1) := by decide +kernel
theorem dX10_tell_18 : decode cX10_tell 18 = .ok (.ireturn, 1) := by decide +kernel
theorem dX10_tell_19 : decode cX10_tell 19 = .ok (.aload_n 0, 1) := by decide +kernel
theorem dX10_tell_20 : decode cX10_tell 20 = .ok (.getfield 20, 3) := by decide +kernel
theorem dX10_tell_23 : decode cX10_tell 23 = .ok (.iload_n 1, 1) := by decide +kernel
theorem dX10_tell_24 : decode cX10_tell 24 = .ok (.invokevirtual 71, 3) := by decide +kernel
theorem dX10_tell_27 : decode cX10_tell 27 = .ok (.ifCond .ne 6, 3) := by decide +kernel
theorem dX10_tell_30 : decode cX10_tell 30 = .ok (.bipush (-2), 2) := by decide +kernel
theorem dX10_tell_32 : decode cX10_tell 32 = .ok (.ireturn, 1) := by decide +kernel
theorem dX10_tell_33 : decode cX10_tell 33 = .ok (.aload_n 0, 1) := by decide +kernel
theorem dX10_tell_34 : decode cX10_tell 34 = .ok (.getfield 23, 3) := by decide +kernel
theorem dX10_tell_37 : decode cX10_tell 37 = .ok (.iload_n 1, 1) := by decide +kernel
theorem dX10_tell_38 : decode cX10_tell 38 = .ok (.iload_n 2, 1) := by decide +kernel
theorem dX10_tell_39 : decode cX10_tell 39 = .ok (.iload_n 3, 1) := by decide +kernel
theorem dX10_tell_40 : decode cX10_tell 40 = .ok (.invokevirtual 75, 3) := by decide +kernel
theorem dX10_tell_43 : decode cX10_tell 43 = .ok (.iconst (-1), 1) := by decide +kernel
theorem dX10_tell_44 : decode cX10_tell 44 = .ok (.if_icmp .ne 8, 3) := by decide +kernel
theorem dX10_tell_47 : decode cX10_tell 47 = .ok (.bipush (-5), 2) := by decide +kernel
theorem dX10_tell_49 : decode cX10_tell 49 = .ok (.goto 4, 3) := by decide +kernel
theorem dX10_tell_52 : decode cX10_tell 52 = .ok (.iconst 0, 1) := by decide +kernel
theorem dX10_tell_53 : decode cX10_tell 53 = .ok (.ireturn, 1) := by decide +kernel
set_option maxRecDepth 20000 in
theorem T_X10_tell {Q : Option Value → ah_T → Prop} {h : ah_T} (hs : Sh h) (x1 : Int32) (x2 : Int32) (x3 : Int32) (ht : (((f_X11_isIn x2 120) = 0 → Q (some (.int (-1))) h) ∧ (¬ (f_X11_isIn x2 120) = 0 → ((¬ (f_X11_isIn x3 2) = 0 → (Mt mX7_has [.ref 4, .int x1] h (ab_qi fun v5 h3 => Sh h3 ∧ ((¬ v5 = 0 → (Mt mX7_add [.ref 6, .int x1, .int x2, .int x3] h3 (ab_qi fun v9 h7 => Sh h7 ∧ ((¬ v9 = (-1) → Q (some (.int 0)) h7) ∧ (v9 = (-1) → Q (some (.int (-5))) h7))))) ∧ (v5 = 0 → Q (some (.int (-2))) h3))))) ∧ ((f_X11_isIn x3 2) = 0 → Q (some (.int (-1))) h))))) : Mt mX10_tell [.ref 1, .int x1, .int x2, .int x3] h Q := by
  refine Mt.ofWp rfl (by exact (Nat.le_of_ble_eq_true rfl)) (Wp.fewer (L' := [some (.ref 1), some (.int x1), some (.int x2), some (.int x3)]) (show ab_leL _ _ from ⟨rfl, ⟨rfl, ⟨rfl, ⟨rfl, trivial⟩⟩⟩⟩) ?_)
  refine ab_iload_n (i := 2) dX10_tell_0 rfl rfl ?_
  refine ab_bipush (v := 120) dX10_tell_1 (by decide) ?_
  refine ab_callSN (Q' := fun r h' => r = some (.int (f_X11_isIn x2 120)) ∧ h = h') (As := [.int x2, .int 120]) (c_X11_isIn hs x2 120 ⟨rfl, rfl⟩) (Y_X11_isIn) (fun g A s z => z.2.2.2.2.2.2.1) st_X11_isIn rfl ⟨(Nat.le_of_ble_eq_true rfl), (Nat.le_of_ble_eq_true rfl), (Nat.le_of_ble_eq_true rfl), (Nat.le_of_ble_eq_true rfl)⟩ dX10_tell_3 ?_
  rintro _ _ ⟨rfl, rfl⟩
  refine ab_if_eq (tgt := 17) dX10_tell_6 (by decide) (fun c1 => ?_) (fun c1 => ?_)
  · have ht := ht.1 c1
    refine ab_iconst (v := (-1)) dX10_tell_17 (by decide) ?_
    exact ab_iret rfl dX10_tell_18 (Nat.le_of_ble_eq_true rfl) (Nat.le_of_ble_eq_true rfl) ht
  · have ht := ht.2 c1
    refine ab_iload_n (i := 3) dX10_tell_9 rfl rfl ?_
    refine ab_iconst (v := 2) dX10_tell_10 (by decide) ?_
    refine ab_callSN (Q' := fun r h' => r = some (.int (f_X11_isIn x3 2)) ∧ h = h') (As := [.int x3, .int 2]) (c_X11_isIn hs x3 2 ⟨rfl, rfl⟩) (Y_X11_isIn) (fun g A s z => z.2.2.2.2.2.2.1) st_X11_isIn rfl ⟨(Nat.le_of_ble_eq_true rfl), (Nat.le_of_ble_eq_true rfl), (Nat.le_of_ble_eq_true rfl), (Nat.le_of_ble_eq_true rfl)⟩ dX10_tell_11 ?_
    rintro _ _ ⟨rfl, rfl⟩
    refine ab_if_ne (tgt := 19) dX10_tell_14 (by decide) (fun c2 => ?_) (fun c2 => ?_)
    · have ht := ht.1 c2
      refine ab_aload_n (i := 0) dX10_tell_19 rfl rfl ?_
      refine ab_getR (b := 4) f_X10_20 rfl (sh_k hs 1 10 (by decide) rfl) (sh_r hs 14 rfl) dX10_tell_20 ?_
      refine ab_iload_n (i := 1) dX10_tell_23 rfl rfl ?_
      refine ab_callV (b := 4) (As := [.int x1]) ht (Y_X7_has) l_X10_71 in_X7_has se_X7_has (sh_k hs 4 7 (by decide) rfl) (by decide) rfl rfl ⟨(Nat.le_of_ble_eq_true rfl), (Nat.le_of_ble_eq_true rfl), (Nat.le_of_ble_eq_true rfl), (Nat.le_of_ble_eq_true rfl)⟩ dX10_tell_24 ?_
      rintro _ h3 ⟨v5, rfl, hs4, ht⟩
      refine ab_if_ne (tgt := 33) dX10_tell_27 (by decide) (fun c6 => ?_) (fun c6 => ?_)
      · have ht := ht.1 c6
        refine ab_aload_n (i := 0) dX10_tell_33 rfl rfl ?_
        refine ab_getR (b := 6) f_X10_23 rfl (sh_k hs4 1 10 (by decide) rfl) (sh_r hs4 15 rfl) dX10_tell_34 ?_
        refine ab_iload_n (i := 1) dX10_tell_37 rfl rfl ?_
        refine ab_iload_n (i := 2) dX10_tell_38 rfl rfl ?_
        refine ab_iload_n (i := 3) dX10_tell_39 rfl rfl ?_
        refine ab_callV (b := 6) (As := [.int x1, .int x2, .int x3]) ht (Y_X7_add) l_X10_75 in_X7_add se_X7_add (sh_k hs4 6 7 (by decide) rfl) (by decide) rfl rfl ⟨(Nat.le_of_ble_eq_true rfl), (Nat.le_of_ble_eq_true rfl), (Nat.le_of_ble_eq_true rfl), (Nat.le_of_ble_eq_true rfl)⟩ dX10_tell_40 ?_
        rintro _ h7 ⟨v9, rfl, hs8, ht⟩
        refine ab_iconst (v := (-1)) dX10_tell_43 (by decide) ?_
        refine ab_icmp_ne (tgt := 52) dX10_tell_44 (by decide) (fun c10 => ?_) (fun c10 => ?_)
        · have ht := ht.1 c10
          refine ab_iconst (v := 0) dX10_tell_52 (by decide) ?_
          exact ab_iret rfl dX10_tell_53 (Nat.le_of_ble_eq_true rfl) (Nat.le_of_ble_eq_true rfl) ht
        · have ht := ht.2 c10
          refine ab_bipush (v := (-5)) dX10_tell_47 (by decide) ?_
          refine ab_goto (tgt := 53) dX10_tell_49 (by decide) ?_
          exact ab_iret rfl dX10_tell_53 (Nat.le_of_ble_eq_true rfl) (Nat.le_of_ble_eq_true rfl) ht
      · have ht := ht.2 c6
        refine ab_bipush (v := (-2)) dX10_tell_30 (by decide) ?_
        exact ab_iret rfl dX10_tell_32 (Nat.le_of_ble_eq_true rfl) (Nat.le_of_ble_eq_true rfl) ht
    · have ht := ht.2 c2
      refine ab_iconst (v := (-1)) dX10_tell_17 (by decide) ?_
      exact ab_iret rfl dX10_tell_18 (Nat.le_of_ble_eq_true rfl) (Nat.le_of_ble_eq_true rfl) ht
theorem dX10_keepLaw_0 : decode cX10_keepLaw 0 = .ok (.aload_n 0, 1) := by decide +kernel
theorem dX10_keepLaw_1 : decode cX10_keepLaw 1 = .ok (.getfield 45, 3) := by decide +kernel
theorem dX10_keepLaw_4 : decode cX10_keepLaw 4 = .ok (.bipush 6, 2) := by decide +kernel
theorem dX10_keepLaw_6 : decode cX10_keepLaw 6 = .ok (.if_icmp .lt 5, 3) := by decide +kernel
theorem dX10_keepLaw_9 : decode cX10_keepLaw 9 = .ok (.iconst (-1), 1) := by decide +kernel
theorem dX10_keepLaw_10 : decode cX10_keepLaw 10 = .ok (.ireturn, 1) := by decide +kernel
theorem dX10_keepLaw_11 : decode cX10_keepLaw 11 = .ok (.aload_n 0, 1) := by decide +kernel
theorem dX10_keepLaw_12 : decode cX10_keepLaw 12 = .ok (.getfield 41, 3) := by decide +kernel
theorem dX10_keepLaw_15 : decode cX10_keepLaw 15 = .ok (.aload_n 0, 1) := by decide +kernel
theorem dX10_keepLaw_16 : decode cX10_keepLaw 16 = .ok (.getfield 45, 3) := by decide +kernel
theorem dX10_keepLaw_19 : decode cX10_keepLaw 19 = .ok (.aload_n 1, 1) := by decide +kernel
theorem dX10_keepLaw_20 : decode cX10_keepLaw 20 = .ok (.aastore, 1) := by decide +kernel
theorem dX10_keepLaw_21 : decode cX10_keepLaw 21 = .ok (.aload_n 0, 1) := by decide +kernel
theorem dX10_keepLaw_22 : decode cX10_keepLaw 22 = .ok (.dup, 1) := by decide +kernel
theorem dX10_keepLaw_23 : decode cX10_keepLaw 23 = .ok (.getfield 45, 3) := by decide +kernel
theorem dX10_keepLaw_26 : decode cX10_keepLaw 26 = .ok (.iconst 1, 1) := by decide +kernel
theorem dX10_keepLaw_27 : decode cX10_keepLaw 27 = .ok (.iadd, 1) := by decide +kernel
theorem dX10_keepLaw_28 : decode cX10_keepLaw 28 = .ok (.putfield 45, 3) := by decide +kernel
theorem dX10_keepLaw_31 : decode cX10_keepLaw 31 = .ok (.aload_n 0, 1) := by decide +kernel
theorem dX10_keepLaw_32 : decode cX10_keepLaw 32 = .ok (.getfield 45, 3) := by decide +kernel
theorem dX10_keepLaw_35 : decode cX10_keepLaw 35 = .ok (.iconst 1, 1) := by decide +kernel
theorem dX10_keepLaw_36 : decode cX10_keepLaw 36 = .ok (.isub, 1) := by decide +kernel
theorem dX10_keepLaw_37 : decode cX10_keepLaw 37 = .ok (.ireturn, 1) := by decide +kernel
set_option maxRecDepth 20000 in
theorem T_X10_keepLaw {Q : Option Value → ah_T → Prop} {h : ah_T} (hs : Sh h) (a1 : Nat) (hk_a1 : ah_k h a1 = 9) (ht : (((ah_i h 1 8) < 6 → (vp_in (ah_i h 1 8) (ah_n h 15)) ∧ (∀ h3, h3 = ah_sr h 15 (Int32.toNatClampNeg (ah_i h 1 8)) (some a1) → (∀ h7, h7 = ah_si h3 1 8 ((ah_i h3 1 8) + 1) → Q (some (.int ((ah_i h7 1 8) - 1))) h7))) ∧ (¬ (ah_i h 1 8) < 6 → Q (some (.int (-1))) h))) : Mt mX10_keepLaw [.ref 1, .ref a1] h Q := by
  refine Mt.ofWp rfl (by exact (Nat.le_of_ble_eq_true rfl)) (Wp.fewer (L' := [some (.ref 1), some (.ref a1)]) (show ab_leL _ _ from ⟨rfl, ⟨rfl, trivial⟩⟩) ?_)
  refine ab_aload_n (i := 0) dX10_keepLaw_0 rfl rfl ?_
  refine ab_getI f_X10_45 rfl (sh_k hs 1 10 (by decide) rfl) dX10_keepLaw_1 ?_
  refine ab_bipush (v := 6) dX10_keepLaw_4 (by decide) ?_
  refine ab_icmp_lt (tgt := 11) dX10_keepLaw_6 (by decide) (fun c1 => ?_) (fun c1 => ?_)
  · have ht := ht.1 c1
    refine ab_aload_n (i := 0) dX10_keepLaw_11 rfl rfl ?_
    refine ab_getR (b := 15) f_X10_41 rfl (sh_k hs 1 10 (by decide) rfl) (sh_r hs 20 rfl) dX10_keepLaw_12 ?_
    refine ab_aload_n (i := 0) dX10_keepLaw_15 rfl rfl ?_
    refine ab_getI f_X10_45 rfl (sh_k hs 1 10 (by decide) rfl) dX10_keepLaw_16 ?_
    refine ab_aload_n (i := 1) dX10_keepLaw_19 rfl rfl ?_
    obtain ⟨hc2, ht⟩ := ht
    refine ab_aast 17 9 (by decide) (sh_k hs 15 17 (by decide) rfl) hk_a1 hc2 dX10_keepLaw_20 ?_
    refine Wp.nm fun h3 e4 => ?_
    have ht := ht h3 e4
    have hs5 : Sh h3 := by rw [e4]; exact sh_srA hs (by decide +kernel)
    have hk6 : ah_k h3 a1 = 9 := by rw [e4]; exact hk_a1
    refine ab_aload_n (i := 0) dX10_keepLaw_21 rfl rfl ?_
    refine ab_dup dX10_keepLaw_22 rfl ?_
    refine ab_getI f_X10_45 rfl (sh_k hs5 1 10 (by decide) rfl) dX10_keepLaw_23 ?_
    refine ab_iconst (v := 1) dX10_keepLaw_26 (by decide) ?_
    refine ab_iadd dX10_keepLaw_27 ?_
    refine ab_putI f_X10_45 (Or.inl rfl) rfl (sh_k hs5 1 10 (by decide) rfl) rfl rfl dX10_keepLaw_28 ?_
    refine Wp.nm fun h7 e8 => ?_
    have ht := ht h7 e8
    have hs9 : Sh h7 := by rw [e8]; exact sh_si hs5
    have hk10 : ah_k h7 a1 = 9 := by rw [e8]; exact hk6
    refine ab_aload_n (i := 0) dX10_keepLaw_31 rfl rfl ?_
    refine ab_getI f_X10_45 rfl (sh_k hs9 1 10 (by decide) rfl) dX10_keepLaw_32 ?_
    refine ab_iconst (v := 1) dX10_keepLaw_35 (by decide) ?_
    refine ab_isub dX10_keepLaw_36 ?_
    exact ab_iret rfl dX10_keepLaw_37 (Nat.le_of_ble_eq_true rfl) (Nat.le_of_ble_eq_true rfl) ht
  · have ht := ht.2 c1
    refine ab_iconst (v := (-1)) dX10_keepLaw_9 (by decide) ?_
    exact ab_iret rfl dX10_keepLaw_10 (Nat.le_of_ble_eq_true rfl) (Nat.le_of_ble_eq_true rfl) ht
theorem dX10_lawInForce_0 : decode cX10_lawInForce 0 = .ok (.aload_n 0, 1) := by decide +kernel
theorem dX10_lawInForce_1 : decode cX10_lawInForce 1 = .ok (.getfield 49, 3) := by decide +kernel
theorem dX10_lawInForce_4 : decode cX10_lawInForce 4 = .ok (.aload_n 0, 1) := by decide +kernel
theorem dX10_lawInForce_5 : decode cX10_lawInForce 5 = .ok (.getfield 45, 3) := by decide +kernel
theorem dX10_lawInForce_8 : decode cX10_lawInForce 8 = .ok (.invokestatic 67, 3) := by decide +kernel
theorem dX10_lawInForce_11 : decode cX10_lawInForce 11 = .ok (.ifCond .eq 24, 3) := by decide +kernel
theorem dX10_lawInForce_14 : decode cX10_lawInForce 14 = .ok (.aload_n 0, 1) := by decide +kernel
theorem dX10_lawInForce_15 : decode cX10_lawInForce 15 = .ok (.getfield 49, 3) := by decide +kernel
theorem dX10_lawInForce_18 : decode cX10_lawInForce 18 = .ok (.bipush 6, 2) := by decide +kernel
theorem dX10_lawInForce_20 : decode cX10_lawInForce 20 = .ok (.if_icmp .ge 15, 3) := by decide +kernel
theorem dX10_lawInForce_23 : decode cX10_lawInForce 23 = .ok (.aload_n 0, 1) := by decide +kernel
theorem dX10_lawInForce_24 : decode cX10_lawInForce 24 = .ok (.getfield 41, 3) := by decide +kernel
theorem dX10_lawInForce_27 : decode cX10_lawInForce 27 = .ok (.aload_n 0, 1) := by decide +kernel
theorem dX10_lawInForce_28 : decode cX10_lawInForce 28 = .ok (.getfield 49, 3) := by decide +kernel
theorem dX10_lawInForce_31 : decode cX10_lawInForce 31 = .ok (.aaload, 1) := by decide +kernel
theorem dX10_lawInForce_32 : decode cX10_lawInForce 32 = .ok (.goto 4, 3) := by decide +kernel
theorem dX10_lawInForce_35 : decode cX10_lawInForce 35 = .ok (.aconst_null, 1) := by decide +kernel
theorem dX10_lawInForce_36 : decode cX10_lawInForce 36 = .ok (.areturn, 1) := by decide +kernel
set_option maxRecDepth 20000 in
theorem T_X10_lawInForce {Q : Option Value → ah_T → Prop} {h : ah_T} (hs : Sh h)  (ht : (((f_X11_isIn (ah_i h 1 9) (ah_i h 1 8)) = 0 → Q (some (va_rf none)) h) ∧ (¬ (f_X11_isIn (ah_i h 1 9) (ah_i h 1 8)) = 0 → ((6 ≤ (ah_i h 1 9) → Q (some (va_rf none)) h) ∧ (¬ 6 ≤ (ah_i h 1 9) → (vp_in (ah_i h 1 9) (ah_n h 15)) ∧ ((ah_r h 15 (Int32.toNatClampNeg (ah_i h 1 9)) = none → Q (some (va_rf none)) h) ∧ (∀ b5, ah_r h 15 (Int32.toNatClampNeg (ah_i h 1 9)) = some b5 → (ah_k h b5 = 9) ∧ Q (some (va_rf (some b5))) h))))))) : Mt mX10_lawInForce [.ref 1] h Q := by
  refine Mt.ofWp rfl (by exact (Nat.le_of_ble_eq_true rfl)) (Wp.fewer (L' := [some (.ref 1)]) (show ab_leL _ _ from ⟨rfl, trivial⟩) ?_)
  refine ab_aload_n (i := 0) dX10_lawInForce_0 rfl rfl ?_
  refine ab_getI f_X10_49 rfl (sh_k hs 1 10 (by decide) rfl) dX10_lawInForce_1 ?_
  refine ab_aload_n (i := 0) dX10_lawInForce_4 rfl rfl ?_
  refine ab_getI f_X10_45 rfl (sh_k hs 1 10 (by decide) rfl) dX10_lawInForce_5 ?_
  refine ab_callSN (Q' := fun r h' => r = some (.int (f_X11_isIn (ah_i h 1 9) (ah_i h 1 8))) ∧ h = h') (As := [.int (ah_i h 1 9), .int (ah_i h 1 8)]) (c_X11_isIn hs (ah_i h 1 9) (ah_i h 1 8) ⟨rfl, rfl⟩) (Y_X11_isIn) (fun g A s z => z.2.2.2.2.2.2.1) st_X11_isIn rfl ⟨(Nat.le_of_ble_eq_true rfl), (Nat.le_of_ble_eq_true rfl), (Nat.le_of_ble_eq_true rfl), (Nat.le_of_ble_eq_true rfl)⟩ dX10_lawInForce_8 ?_
  rintro _ _ ⟨rfl, rfl⟩
  refine ab_if_eq (tgt := 35) dX10_lawInForce_11 (by decide) (fun c1 => ?_) (fun c1 => ?_)
  · have ht := ht.1 c1
    refine ab_null dX10_lawInForce_35 ?_
    exact ab_aret (r := none) rfl (by first | exact Or.inl ⟨_, rfl⟩ | exact Or.inr ⟨_, rfl⟩) dX10_lawInForce_36 (Nat.le_of_ble_eq_true rfl) (by first | exact (Nat.le_of_ble_eq_true rfl) | assumption | omega) ht
  · have ht := ht.2 c1
    refine ab_aload_n (i := 0) dX10_lawInForce_14 rfl rfl ?_
    refine ab_getI f_X10_49 rfl (sh_k hs 1 10 (by decide) rfl) dX10_lawInForce_15 ?_
    refine ab_bipush (v := 6) dX10_lawInForce_18 (by decide) ?_
    refine ab_icmp_ge (tgt := 35) dX10_lawInForce_20 (by decide) (fun c2 => ?_) (fun c2 => ?_)
    · have ht := ht.1 c2
      refine ab_null dX10_lawInForce_35 ?_
      exact ab_aret (r := none) rfl (by first | exact Or.inl ⟨_, rfl⟩ | exact Or.inr ⟨_, rfl⟩) dX10_lawInForce_36 (Nat.le_of_ble_eq_true rfl) (by first | exact (Nat.le_of_ble_eq_true rfl) | assumption | omega) ht
    · have ht := ht.2 c2
      refine ab_aload_n (i := 0) dX10_lawInForce_23 rfl rfl ?_
      refine ab_getR (b := 15) f_X10_41 rfl (sh_k hs 1 10 (by decide) rfl) (sh_r hs 20 rfl) dX10_lawInForce_24 ?_
      refine ab_aload_n (i := 0) dX10_lawInForce_27 rfl rfl ?_
      refine ab_getI f_X10_49 rfl (sh_k hs 1 10 (by decide) rfl) dX10_lawInForce_28 ?_
      obtain ⟨hc3, ht⟩ := ht
      rcases hr4 : ah_r h 15 (Int32.toNatClampNeg (ah_i h 1 9)) with _ | b5
      · have ht := ht.1 hr4
        refine ab_aald (r := none) 17 (by decide) (sh_k hs 15 17 (by decide) rfl) hc3 hr4 dX10_lawInForce_31 ?_
        refine ab_goto (tgt := 36) dX10_lawInForce_32 (by decide) ?_
        exact ab_aret (r := none) rfl (by first | exact Or.inl ⟨_, rfl⟩ | exact Or.inr ⟨_, rfl⟩) dX10_lawInForce_36 (Nat.le_of_ble_eq_true rfl) (by first | exact (Nat.le_of_ble_eq_true rfl) | assumption | omega) ht
      · obtain ⟨hk6, ht⟩ := ht.2 b5 hr4
        refine ab_aald (r := some b5) 17 (by decide) (sh_k hs 15 17 (by decide) rfl) hc3 hr4 dX10_lawInForce_31 ?_
        refine ab_goto (tgt := 36) dX10_lawInForce_32 (by decide) ?_
        exact ab_aret (r := (some b5)) rfl (by first | exact Or.inl ⟨_, rfl⟩ | exact Or.inr ⟨_, rfl⟩) dX10_lawInForce_36 (Nat.le_of_ble_eq_true rfl) (by first | exact (Nat.le_of_ble_eq_true rfl) | assumption | omega) ht
theorem dX10_become_0 : decode cX10_become 0 = .ok (.aload_n 0, 1) := by decide +kernel
theorem dX10_become_1 : decode cX10_become 1 = .ok (.getfield 14, 3) := by decide +kernel
theorem dX10_become_4 : decode cX10_become 4 = .ok (.aload_n 1, 1) := by decide +kernel
theorem dX10_become_5 : decode cX10_become 5 = .ok (.getfield 14, 3) := by decide +kernel
theorem dX10_become_8 : decode cX10_become 8 = .ok (.invokevirtual 79, 3) := by decide +kernel
theorem dX10_become_11 : decode cX10_become 11 = .ok (.aload_n 0, 1) := by decide +kernel
theorem dX10_become_12 : decode cX10_become 12 = .ok (.getfield 20, 3) := by decide +kernel
theorem dX10_become_15 : decode cX10_become 15 = .ok (.aload_n 1, 1) := by decide +kernel
theorem dX10_become_16 : decode cX10_become 16 = .ok (.getfield 20, 3) := by decide +kernel
theorem dX10_become_19 : decode cX10_become 19 = .ok (.invokevirtual 79, 3) := by decide +kernel
theorem dX10_become_22 : decode cX10_become 22 = .ok (.aload_n 0, 1) := by decide +kernel
theorem dX10_become_23 : decode cX10_become 23 = .ok (.getfield 23, 3) := by decide +kernel
theorem dX10_become_26 : decode cX10_become 26 = .ok (.aload_n 1, 1) := by decide +kernel
theorem dX10_become_27 : decode cX10_become 27 = .ok (.getfield 23, 3) := by decide +kernel
theorem dX10_become_30 : decode cX10_become 30 = .ok (.invokevirtual 79, 3) := by decide +kernel
theorem dX10_become_33 : decode cX10_become 33 = .ok (.aload_n 0, 1) := by decide +kernel
theorem dX10_become_34 : decode cX10_become 34 = .ok (.getfield 26, 3) := by decide +kernel
theorem dX10_become_37 : decode cX10_become 37 = .ok (.aload_n 1, 1) := by decide +kernel
theorem dX10_become_38 : decode cX10_become 38 = .ok (.getfield 26, 3) := by decide +kernel
theorem dX10_become_41 : decode cX10_become 41 = .ok (.invokevirtual 79, 3) := by decide +kernel
theorem dX10_become_44 : decode cX10_become 44 = .ok (.aload_n 0, 1) := by decide +kernel
theorem dX10_become_45 : decode cX10_become 45 = .ok (.getfield 29, 3) := by decide +kernel
theorem dX10_become_48 : decode cX10_become 48 = .ok (.aload_n 1, 1) := by decide +kernel
theorem dX10_become_49 : decode cX10_become 49 = .ok (.getfield 29, 3) := by decide +kernel
theorem dX10_become_52 : decode cX10_become 52 = .ok (.invokevirtual 79, 3) := by decide +kernel
theorem dX10_become_55 : decode cX10_become 55 = .ok (.aload_n 0, 1) := by decide +kernel
theorem dX10_become_56 : decode cX10_become 56 = .ok (.getfield 32, 3) := by decide +kernel
theorem dX10_become_59 : decode cX10_become 59 = .ok (.aload_n 1, 1) := by decide +kernel
theorem dX10_become_60 : decode cX10_become 60 = .ok (.getfield 32, 3) := by decide +kernel
theorem dX10_become_63 : decode cX10_become 63 = .ok (.invokevirtual 79, 3) := by decide +kernel
theorem dX10_become_66 : decode cX10_become 66 = .ok (.aload_n 1, 1) := by decide +kernel
theorem dX10_become_67 : decode cX10_become 67 = .ok (.getfield 35, 3) := by decide +kernel
theorem dX10_become_70 : decode cX10_become 70 = .ok (.iconst 0, 1) := by decide +kernel
theorem dX10_become_71 : decode cX10_become 71 = .ok (.aload_n 0, 1) := by decide +kernel
theorem dX10_become_72 : decode cX10_become 72 = .ok (.getfield 35, 3) := by decide +kernel
theorem dX10_become_75 : decode cX10_become 75 = .ok (.iconst 0, 1) := by decide +kernel
theorem dX10_become_76 : decode cX10_become 76 = .ok (.iconst 3, 1) := by decide +kernel
theorem dX10_become_77 : decode cX10_become 77 = .ok (.invokestatic 83, 3) := by decide +kernel
theorem dX10_become_80 : decode cX10_become 80 = .ok (.iconst 0, 1) := by decide +kernel
theorem dX10_become_81 : decode cX10_become 81 = .ok (.istore_n 2, 1) := by decide +kernel
theorem dX10_become_82 : decode cX10_become 82 = .ok (.iload_n 2, 1) := by decide +kernel
theorem dX10_become_83 : decode cX10_become 83 = .ok (.bipush 6, 2) := by decide +kernel
theorem dX10_become_85 : decode cX10_become 85 = .ok (.if_icmp .ge 21, 3) := by decide +kernel
theorem dX10_become_88 : decode cX10_become 88 = .ok (.aload_n 0, 1) := by decide +kernel
theorem dX10_become_89 : decode cX10_become 89 = .ok (.getfield 41, 3) := by decide +kernel
theorem dX10_become_92 : decode cX10_become 92 = .ok (.iload_n 2, 1) := by decide +kernel
theorem dX10_become_93 : decode cX10_become 93 = .ok (.aload_n 1, 1) := by decide +kernel
theorem dX10_become_94 : decode cX10_become 94 = .ok (.getfield 41, 3) := by decide +kernel
theorem dX10_become_97 : decode cX10_become 97 = .ok (.iload_n 2, 1) := by decide +kernel
theorem dX10_become_98 : decode cX10_become 98 = .ok (.aaload, 1) := by decide +kernel
theorem dX10_become_99 : decode cX10_become 99 = .ok (.aastore, 1) := by decide +kernel
theorem dX10_become_100 : decode cX10_become 100 = .ok (.iinc 2 1, 3) := by decide +kernel
theorem dX10_become_103 : decode cX10_become 103 = .ok (.goto (-21), 3) := by decide +kernel
theorem dX10_become_106 : decode cX10_become 106 = .ok (.aload_n 0, 1) := by decide +kernel
theorem dX10_become_107 : decode cX10_become 107 = .ok (.aload_n 1, 1) := by decide +kernel
theorem dX10_become_108 : decode cX10_become 108 = .ok (.getfield 45, 3) := by decide +kernel
theorem dX10_become_111 : decode cX10_become 111 = .ok (.putfield 45, 3) := by decide +kernel
theorem dX10_become_114 : decode cX10_become 114 = .ok (.aload_n 0, 1) := by decide +kernel
theorem dX10_become_115 : decode cX10_become 115 = .ok (.aload_n 1, 1) := by decide +kernel
theorem dX10_become_116 : decode cX10_become 116 = .ok (.getfield 49, 3) := by decide +kernel
theorem dX10_become_119 : decode cX10_become 119 = .ok (.putfield 49, 3) := by decide +kernel
theorem dX10_become_122 : decode cX10_become 122 = .ok (.return_, 1) := by decide +kernel
set_option maxRecDepth 20000 in
theorem T_X10_become_82 {Q : Option Value → ah_T → Prop} {h : ah_T} (hs : Sh h) (a0 : Nat) (a1 : Nat) (x2 : Int32) (hk_a0 : ah_k h a0 = 10) (hk_a1 : ah_k h a1 = 10) (ht : ((6 ≤ x2 → (∀ h193, h193 = ah_si h a0 8 (ah_i h a1 8) → (∀ h198, h198 = ah_si h193 a0 9 (ah_i h193 a1 9) → Q none h198))) ∧ (¬ 6 ≤ x2 → (∃ b203, ah_r h a0 7 = some b203 ∧ ah_k h b203 = 17 ∧ (∃ b206, ah_r h a1 7 = some b206 ∧ ah_k h b206 = 17 ∧ (vp_in x2 (ah_n h b206)) ∧ ((ah_r h b206 (Int32.toNatClampNeg x2) = none → (vp_in x2 (ah_n h b203)) ∧ (∀ h214, h214 = ah_sr h b203 (Int32.toNatClampNeg x2) none → Wp mX10_become Q 0 0 82 [some (.ref a0), some (.ref a1), some (.int (x2 + 1))] [] h214)) ∧ (∀ b211, ah_r h b206 (Int32.toNatClampNeg x2) = some b211 → (ah_k h b211 = 9) ∧ (vp_in x2 (ah_n h b203)) ∧ (∀ h224, h224 = ah_sr h b203 (Int32.toNatClampNeg x2) (some b211) → Wp mX10_become Q 0 0 82 [some (.ref a0), some (.ref a1), some (.int (x2 + 1))] [] h224)))))))) : Wp mX10_become Q 0 0 82 [some (.ref a0), some (.ref a1), some (.int x2)] [] h := by
  refine ab_iload_n (i := 2) dX10_become_82 rfl rfl ?_
  refine ab_bipush (v := 6) dX10_become_83 (by decide) ?_
  refine ab_icmp_ge (tgt := 106) dX10_become_85 (by decide) (fun c192 => ?_) (fun c192 => ?_)
  · have ht := ht.1 c192
    refine ab_aload_n (i := 0) dX10_become_106 rfl rfl ?_
    refine ab_aload_n (i := 1) dX10_become_107 rfl rfl ?_
    refine ab_getI f_X10_45 rfl hk_a1 dX10_become_108 ?_
    refine ab_putI f_X10_45 (Or.inl rfl) rfl hk_a0 rfl rfl dX10_become_111 ?_
    refine Wp.nm fun h193 e194 => ?_
    have ht := ht h193 e194
    have hs195 : Sh h193 := by rw [e194]; exact sh_si hs
    have hk196 : ah_k h193 a0 = 10 := by rw [e194]; exact hk_a0
    have hk197 : ah_k h193 a1 = 10 := by rw [e194]; exact hk_a1
    refine ab_aload_n (i := 0) dX10_become_114 rfl rfl ?_
    refine ab_aload_n (i := 1) dX10_become_115 rfl rfl ?_
    refine ab_getI f_X10_49 rfl hk197 dX10_become_116 ?_
    refine ab_putI f_X10_49 (Or.inl rfl) rfl hk196 rfl rfl dX10_become_119 ?_
    refine Wp.nm fun h198 e199 => ?_
    have ht := ht h198 e199
    have hs200 : Sh h198 := by rw [e199]; exact sh_si hs195
    have hk201 : ah_k h198 a0 = 10 := by rw [e199]; exact hk196
    have hk202 : ah_k h198 a1 = 10 := by rw [e199]; exact hk197
    exact ab_vret rfl dX10_become_122 (Nat.le_of_ble_eq_true rfl) (Nat.le_of_ble_eq_true rfl) ht
  · have ht := ht.2 c192
    refine ab_aload_n (i := 0) dX10_become_88 rfl rfl ?_
    obtain ⟨b203, hr204, hk205, ht⟩ := ht
    refine ab_getR (b := b203) f_X10_41 rfl hk_a0 hr204 dX10_become_89 ?_
    refine ab_iload_n (i := 2) dX10_become_92 rfl rfl ?_
    refine ab_aload_n (i := 1) dX10_become_93 rfl rfl ?_
    obtain ⟨b206, hr207, hk208, ht⟩ := ht
    refine ab_getR (b := b206) f_X10_41 rfl hk_a1 hr207 dX10_become_94 ?_
    refine ab_iload_n (i := 2) dX10_become_97 rfl rfl ?_
    obtain ⟨hc209, ht⟩ := ht
    rcases hr210 : ah_r h b206 (Int32.toNatClampNeg x2) with _ | b211
    · have ht := ht.1 hr210
      refine ab_aald (r := none) 17 (by decide) hk208 hc209 hr210 dX10_become_98 ?_
      obtain ⟨hc213, ht⟩ := ht
      refine ab_aastN hk205 hc213 dX10_become_99 ?_
      refine Wp.nm fun h214 e215 => ?_
      have ht := ht h214 e215
      have hs216 : Sh h214 := by rw [e215]; exact sh_srK hs hk205
      have hk217 : ah_k h214 a0 = 10 := by rw [e215]; exact hk_a0
      have hk218 : ah_k h214 a1 = 10 := by rw [e215]; exact hk_a1
      have hk219 : ah_k h214 b203 = 17 := by rw [e215]; exact hk205
      have hk220 : ah_k h214 b206 = 17 := by rw [e215]; exact hk208
      have hr221 : ah_r h214 a0 7 = some b203 := by rw [e215, ah_r_sr, if_neg (fun q => by have z := hk_a0; rw [q.1, hk205] at z; exact absurd z (by decide))]; exact hr204
      have hr222 : ah_r h214 a1 7 = some b206 := by rw [e215, ah_r_sr, if_neg (fun q => by have z := hk_a1; rw [q.1, hk205] at z; exact absurd z (by decide))]; exact hr207
      refine ab_iinc (i := 2) (x := x2) (v := (x2 + 1)) (L' := [some (.ref a0), some (.ref a1), some (.int (x2 + 1))]) dX10_become_100 rfl rfl (by exact (Nat.le_of_ble_eq_true rfl)) rfl rfl ?_
      refine ab_goto (tgt := 82) dX10_become_103 (by decide) ?_
      exact Wp.fewer (L' := [some (.ref a0), some (.ref a1), some (.int (x2 + 1))]) (show ab_leL _ _ from ⟨rfl, ⟨rfl, ⟨rfl, trivial⟩⟩⟩) ht
    · obtain ⟨hk212, ht⟩ := ht.2 b211 hr210
      refine ab_aald (r := some b211) 17 (by decide) hk208 hc209 hr210 dX10_become_98 ?_
      obtain ⟨hc223, ht⟩ := ht
      refine ab_aast 17 9 (by decide) hk205 hk212 hc223 dX10_become_99 ?_
      refine Wp.nm fun h224 e225 => ?_
      have ht := ht h224 e225
      have hs226 : Sh h224 := by rw [e225]; exact sh_srK hs hk205
      have hk227 : ah_k h224 a0 = 10 := by rw [e225]; exact hk_a0
      have hk228 : ah_k h224 a1 = 10 := by rw [e225]; exact hk_a1
      have hk229 : ah_k h224 b203 = 17 := by rw [e225]; exact hk205
      have hk230 : ah_k h224 b206 = 17 := by rw [e225]; exact hk208
      have hk231 : ah_k h224 b211 = 9 := by rw [e225]; exact hk212
      have hr232 : ah_r h224 a0 7 = some b203 := by rw [e225, ah_r_sr, if_neg (fun q => by have z := hk_a0; rw [q.1, hk205] at z; exact absurd z (by decide))]; exact hr204
      have hr233 : ah_r h224 a1 7 = some b206 := by rw [e225, ah_r_sr, if_neg (fun q => by have z := hk_a1; rw [q.1, hk205] at z; exact absurd z (by decide))]; exact hr207
      refine ab_iinc (i := 2) (x := x2) (v := (x2 + 1)) (L' := [some (.ref a0), some (.ref a1), some (.int (x2 + 1))]) dX10_become_100 rfl rfl (by exact (Nat.le_of_ble_eq_true rfl)) rfl rfl ?_
      refine ab_goto (tgt := 82) dX10_become_103 (by decide) ?_
      exact Wp.fewer (L' := [some (.ref a0), some (.ref a1), some (.int (x2 + 1))]) (show ab_leL _ _ from ⟨rfl, ⟨rfl, ⟨rfl, trivial⟩⟩⟩) ht
set_option maxRecDepth 20000 in
theorem T_X10_become {Q : Option Value → ah_T → Prop} {h : ah_T} (hs : Sh h) (t : Nat) (a1 : Nat) (hk_t : ah_k h t = 10) (hk_a1 : ah_k h a1 = 10) (ht : (∃ b1, ah_r h t 0 = some b1 ∧ ah_k h b1 = 7 ∧ (∃ b4, ah_r h a1 0 = some b4 ∧ ah_k h b4 = 7 ∧ (Mt mX7_become [.ref b1, .ref b4] h (ab_qv fun h7 => Sh h7 ∧ ah_k h7 a1 = 10 ∧ ah_k h7 t = 10 ∧ ah_r h7 t 0 = some b1 ∧ ah_k h7 b1 = 7 ∧ ah_r h7 a1 0 = some b4 ∧ ah_k h7 b4 = 7 ∧ (∃ b16, ah_r h7 t 1 = some b16 ∧ ah_k h7 b16 = 7 ∧ (∃ b19, ah_r h7 a1 1 = some b19 ∧ ah_k h7 b19 = 7 ∧ (Mt mX7_become [.ref b16, .ref b19] h7 (ab_qv fun h22 => Sh h22 ∧ ah_k h22 a1 = 10 ∧ ah_k h22 t = 10 ∧ ah_r h22 t 0 = some b1 ∧ ah_k h22 b1 = 7 ∧ ah_r h22 a1 0 = some b4 ∧ ah_k h22 b4 = 7 ∧ ah_r h22 t 1 = some b16 ∧ ah_k h22 b16 = 7 ∧ ah_r h22 a1 1 = some b19 ∧ ah_k h22 b19 = 7 ∧ (∃ b35, ah_r h22 t 2 = some b35 ∧ ah_k h22 b35 = 7 ∧ (∃ b38, ah_r h22 a1 2 = some b38 ∧ ah_k h22 b38 = 7 ∧ (Mt mX7_become [.ref b35, .ref b38] h22 (ab_qv fun h41 => Sh h41 ∧ ah_k h41 a1 = 10 ∧ ah_k h41 t = 10 ∧ ah_r h41 t 0 = some b1 ∧ ah_k h41 b1 = 7 ∧ ah_r h41 a1 0 = some b4 ∧ ah_k h41 b4 = 7 ∧ ah_r h41 t 1 = some b16 ∧ ah_k h41 b16 = 7 ∧ ah_r h41 a1 1 = some b19 ∧ ah_k h41 b19 = 7 ∧ ah_r h41 t 2 = some b35 ∧ ah_k h41 b35 = 7 ∧ ah_r h41 a1 2 = some b38 ∧ ah_k h41 b38 = 7 ∧ (∃ b58, ah_r h41 t 3 = some b58 ∧ ah_k h41 b58 = 7 ∧ (∃ b61, ah_r h41 a1 3 = some b61 ∧ ah_k h41 b61 = 7 ∧ (Mt mX7_become [.ref b58, .ref b61] h41 (ab_qv fun h64 => Sh h64 ∧ ah_k h64 a1 = 10 ∧ ah_k h64 t = 10 ∧ ah_r h64 t 0 = some b1 ∧ ah_k h64 b1 = 7 ∧ ah_r h64 a1 0 = some b4 ∧ ah_k h64 b4 = 7 ∧ ah_r h64 t 1 = some b16 ∧ ah_k h64 b16 = 7 ∧ ah_r h64 a1 1 = some b19 ∧ ah_k h64 b19 = 7 ∧ ah_r h64 t 2 = some b35 ∧ ah_k h64 b35 = 7 ∧ ah_r h64 a1 2 = some b38 ∧ ah_k h64 b38 = 7 ∧ ah_r h64 t 3 = some b58 ∧ ah_k h64 b58 = 7 ∧ ah_r h64 a1 3 = some b61 ∧ ah_k h64 b61 = 7 ∧ (∃ b85, ah_r h64 t 4 = some b85 ∧ ah_k h64 b85 = 7 ∧ (∃ b88, ah_r h64 a1 4 = some b88 ∧ ah_k h64 b88 = 7 ∧ (Mt mX7_become [.ref b85, .ref b88] h64 (ab_qv fun h91 => Sh h91 ∧ ah_k h91 a1 = 10 ∧ ah_k h91 t = 10 ∧ ah_r h91 t 0 = some b1 ∧ ah_k h91 b1 = 7 ∧ ah_r h91 a1 0 = some b4 ∧ ah_k h91 b4 = 7 ∧ ah_r h91 t 1 = some b16 ∧ ah_k h91 b16 = 7 ∧ ah_r h91 a1 1 = some b19 ∧ ah_k h91 b19 = 7 ∧ ah_r h91 t 2 = some b35 ∧ ah_k h91 b35 = 7 ∧ ah_r h91 a1 2 = some b38 ∧ ah_k h91 b38 = 7 ∧ ah_r h91 t 3 = some b58 ∧ ah_k h91 b58 = 7 ∧ ah_r h91 a1 3 = some b61 ∧ ah_k h91 b61 = 7 ∧ ah_r h91 t 4 = some b85 ∧ ah_k h91 b85 = 7 ∧ ah_r h91 a1 4 = some b88 ∧ ah_k h91 b88 = 7 ∧ (∃ b116, ah_r h91 t 5 = some b116 ∧ ah_k h91 b116 = 7 ∧ (∃ b119, ah_r h91 a1 5 = some b119 ∧ ah_k h91 b119 = 7 ∧ (Mt mX7_become [.ref b116, .ref b119] h91 (ab_qv fun h122 => Sh h122 ∧ ah_k h122 a1 = 10 ∧ ah_k h122 t = 10 ∧ ah_r h122 t 0 = some b1 ∧ ah_k h122 b1 = 7 ∧ ah_r h122 a1 0 = some b4 ∧ ah_k h122 b4 = 7 ∧ ah_r h122 t 1 = some b16 ∧ ah_k h122 b16 = 7 ∧ ah_r h122 a1 1 = some b19 ∧ ah_k h122 b19 = 7 ∧ ah_r h122 t 2 = some b35 ∧ ah_k h122 b35 = 7 ∧ ah_r h122 a1 2 = some b38 ∧ ah_k h122 b38 = 7 ∧ ah_r h122 t 3 = some b58 ∧ ah_k h122 b58 = 7 ∧ ah_r h122 a1 3 = some b61 ∧ ah_k h122 b61 = 7 ∧ ah_r h122 t 4 = some b85 ∧ ah_k h122 b85 = 7 ∧ ah_r h122 a1 4 = some b88 ∧ ah_k h122 b88 = 7 ∧ ah_r h122 t 5 = some b116 ∧ ah_k h122 b116 = 7 ∧ ah_r h122 a1 5 = some b119 ∧ ah_k h122 b119 = 7 ∧ (∃ b151, ah_r h122 a1 6 = some b151 ∧ ah_k h122 b151 = 14 ∧ (∃ b154, ah_r h122 t 6 = some b154 ∧ ah_k h122 b154 = 14 ∧ ((Int32.toNatClampNeg 0) + (Int32.toNatClampNeg 3) ≤ ah_n h122 b151) ∧ ((Int32.toNatClampNeg 0) + (Int32.toNatClampNeg 3) ≤ ah_n h122 b154) ∧ (∀ h159, h159 = ah_sa h122 b154 (va_cpy (ah_i h122 b151) (ah_i h122 b154) (Int32.toNatClampNeg 0) (Int32.toNatClampNeg 0) (Int32.toNatClampNeg 3)) → Wp mX10_become Q 0 0 82 [some (.ref t), some (.ref a1), some (.int 0)] [] h159)))))))))))))))))))))))))))) : Mt mX10_become [.ref t, .ref a1] h Q := by
  refine Mt.ofWp rfl (by exact (Nat.le_of_ble_eq_true rfl)) (Wp.fewer (L' := [some (.ref t), some (.ref a1), none]) (show ab_leL _ _ from ⟨rfl, ⟨rfl, trivial⟩⟩) ?_)
  refine ab_aload_n (i := 0) dX10_become_0 rfl rfl ?_
  obtain ⟨b1, hr2, hk3, ht⟩ := ht
  refine ab_getR (b := b1) f_X10_14 rfl hk_t hr2 dX10_become_1 ?_
  refine ab_aload_n (i := 1) dX10_become_4 rfl rfl ?_
  obtain ⟨b4, hr5, hk6, ht⟩ := ht
  refine ab_getR (b := b4) f_X10_14 rfl hk_a1 hr5 dX10_become_5 ?_
  refine ab_callV (b := b1) (As := [.ref b4]) ht (Y_X7_become) l_X10_79 in_X7_become se_X7_become hk3 (by decide) rfl rfl ⟨(Nat.le_of_ble_eq_true rfl), (Nat.le_of_ble_eq_true rfl), (Nat.le_of_ble_eq_true rfl), (Nat.le_of_ble_eq_true rfl)⟩ dX10_become_8 ?_
  rintro _ h7 ⟨rfl, hs8, hk10, hk11, hr12, hk13, hr14, hk15, ht⟩
  refine ab_aload_n (i := 0) dX10_become_11 rfl rfl ?_
  obtain ⟨b16, hr17, hk18, ht⟩ := ht
  refine ab_getR (b := b16) f_X10_20 rfl hk11 hr17 dX10_become_12 ?_
  refine ab_aload_n (i := 1) dX10_become_15 rfl rfl ?_
  obtain ⟨b19, hr20, hk21, ht⟩ := ht
  refine ab_getR (b := b19) f_X10_20 rfl hk10 hr20 dX10_become_16 ?_
  refine ab_callV (b := b16) (As := [.ref b19]) ht (Y_X7_become) l_X10_79 in_X7_become se_X7_become hk18 (by decide) rfl rfl ⟨(Nat.le_of_ble_eq_true rfl), (Nat.le_of_ble_eq_true rfl), (Nat.le_of_ble_eq_true rfl), (Nat.le_of_ble_eq_true rfl)⟩ dX10_become_19 ?_
  rintro _ h22 ⟨rfl, hs23, hk25, hk26, hr27, hk28, hr29, hk30, hr31, hk32, hr33, hk34, ht⟩
  refine ab_aload_n (i := 0) dX10_become_22 rfl rfl ?_
  obtain ⟨b35, hr36, hk37, ht⟩ := ht
  refine ab_getR (b := b35) f_X10_23 rfl hk26 hr36 dX10_become_23 ?_
  refine ab_aload_n (i := 1) dX10_become_26 rfl rfl ?_
  obtain ⟨b38, hr39, hk40, ht⟩ := ht
  refine ab_getR (b := b38) f_X10_23 rfl hk25 hr39 dX10_become_27 ?_
  refine ab_callV (b := b35) (As := [.ref b38]) ht (Y_X7_become) l_X10_79 in_X7_become se_X7_become hk37 (by decide) rfl rfl ⟨(Nat.le_of_ble_eq_true rfl), (Nat.le_of_ble_eq_true rfl), (Nat.le_of_ble_eq_true rfl), (Nat.le_of_ble_eq_true rfl)⟩ dX10_become_30 ?_
  rintro _ h41 ⟨rfl, hs42, hk44, hk45, hr46, hk47, hr48, hk49, hr50, hk51, hr52, hk53, hr54, hk55, hr56, hk57, ht⟩
  refine ab_aload_n (i := 0) dX10_become_33 rfl rfl ?_
  obtain ⟨b58, hr59, hk60, ht⟩ := ht
  refine ab_getR (b := b58) f_X10_26 rfl hk45 hr59 dX10_become_34 ?_
  refine ab_aload_n (i := 1) dX10_become_37 rfl rfl ?_
  obtain ⟨b61, hr62, hk63, ht⟩ := ht
  refine ab_getR (b := b61) f_X10_26 rfl hk44 hr62 dX10_become_38 ?_
  refine ab_callV (b := b58) (As := [.ref b61]) ht (Y_X7_become) l_X10_79 in_X7_become se_X7_become hk60 (by decide) rfl rfl ⟨(Nat.le_of_ble_eq_true rfl), (Nat.le_of_ble_eq_true rfl), (Nat.le_of_ble_eq_true rfl), (Nat.le_of_ble_eq_true rfl)⟩ dX10_become_41 ?_
  rintro _ h64 ⟨rfl, hs65, hk67, hk68, hr69, hk70, hr71, hk72, hr73, hk74, hr75, hk76, hr77, hk78, hr79, hk80, hr81, hk82, hr83, hk84, ht⟩
  refine ab_aload_n (i := 0) dX10_become_44 rfl rfl ?_
  obtain ⟨b85, hr86, hk87, ht⟩ := ht
  refine ab_getR (b := b85) f_X10_29 rfl hk68 hr86 dX10_become_45 ?_
  refine ab_aload_n (i := 1) dX10_become_48 rfl rfl ?_
  obtain ⟨b88, hr89, hk90, ht⟩ := ht
  refine ab_getR (b := b88) f_X10_29 rfl hk67 hr89 dX10_become_49 ?_
  refine ab_callV (b := b85) (As := [.ref b88]) ht (Y_X7_become) l_X10_79 in_X7_become se_X7_become hk87 (by decide) rfl rfl ⟨(Nat.le_of_ble_eq_true rfl), (Nat.le_of_ble_eq_true rfl), (Nat.le_of_ble_eq_true rfl), (Nat.le_of_ble_eq_true rfl)⟩ dX10_become_52 ?_
  rintro _ h91 ⟨rfl, hs92, hk94, hk95, hr96, hk97, hr98, hk99, hr100, hk101, hr102, hk103, hr104, hk105, hr106, hk107, hr108, hk109, hr110, hk111, hr112, hk113, hr114, hk115, ht⟩
  refine ab_aload_n (i := 0) dX10_become_55 rfl rfl ?_
  obtain ⟨b116, hr117, hk118, ht⟩ := ht
  refine ab_getR (b := b116) f_X10_32 rfl hk95 hr117 dX10_become_56 ?_
  refine ab_aload_n (i := 1) dX10_become_59 rfl rfl ?_
  obtain ⟨b119, hr120, hk121, ht⟩ := ht
  refine ab_getR (b := b119) f_X10_32 rfl hk94 hr120 dX10_become_60 ?_
  refine ab_callV (b := b116) (As := [.ref b119]) ht (Y_X7_become) l_X10_79 in_X7_become se_X7_become hk118 (by decide) rfl rfl ⟨(Nat.le_of_ble_eq_true rfl), (Nat.le_of_ble_eq_true rfl), (Nat.le_of_ble_eq_true rfl), (Nat.le_of_ble_eq_true rfl)⟩ dX10_become_63 ?_
  rintro _ h122 ⟨rfl, hs123, hk125, hk126, hr127, hk128, hr129, hk130, hr131, hk132, hr133, hk134, hr135, hk136, hr137, hk138, hr139, hk140, hr141, hk142, hr143, hk144, hr145, hk146, hr147, hk148, hr149, hk150, ht⟩
  refine ab_aload_n (i := 1) dX10_become_66 rfl rfl ?_
  obtain ⟨b151, hr152, hk153, ht⟩ := ht
  refine ab_getR (b := b151) f_X10_35 rfl hk125 hr152 dX10_become_67 ?_
  refine ab_iconst (v := 0) dX10_become_70 (by decide) ?_
  refine ab_aload_n (i := 0) dX10_become_71 rfl rfl ?_
  obtain ⟨b154, hr155, hk156, ht⟩ := ht
  refine ab_getR (b := b154) f_X10_35 rfl hk126 hr155 dX10_become_72 ?_
  refine ab_iconst (v := 0) dX10_become_75 (by decide) ?_
  refine ab_iconst (v := 3) dX10_become_76 (by decide) ?_
  obtain ⟨hc157, ht⟩ := ht
  obtain ⟨hc158, ht⟩ := ht
  refine ab_copy (tb_6 (List.mem_of_getElem? (i := 199) (by decide +kernel)) rfl) na_copy st_copy in_sys hk153 hk156 (by decide) (by decide) (by decide) hc157 hc158 (Nat.le_of_ble_eq_true rfl) (Nat.le_of_ble_eq_true rfl) dX10_become_77 ?_
  refine Wp.nm fun h159 e160 => ?_
  have ht := ht h159 e160
  have hs161 : Sh h159 := by rw [e160]; exact sh_sa hs123
  have hk162 : ah_k h159 a1 = 10 := by rw [e160]; exact hk125
  have hk163 : ah_k h159 t = 10 := by rw [e160]; exact hk126
  have hk164 : ah_k h159 b1 = 7 := by rw [e160]; exact hk128
  have hk165 : ah_k h159 b4 = 7 := by rw [e160]; exact hk130
  have hk166 : ah_k h159 b16 = 7 := by rw [e160]; exact hk132
  have hk167 : ah_k h159 b19 = 7 := by rw [e160]; exact hk134
  have hk168 : ah_k h159 b35 = 7 := by rw [e160]; exact hk136
  have hk169 : ah_k h159 b38 = 7 := by rw [e160]; exact hk138
  have hk170 : ah_k h159 b58 = 7 := by rw [e160]; exact hk140
  have hk171 : ah_k h159 b61 = 7 := by rw [e160]; exact hk142
  have hk172 : ah_k h159 b85 = 7 := by rw [e160]; exact hk144
  have hk173 : ah_k h159 b88 = 7 := by rw [e160]; exact hk146
  have hk174 : ah_k h159 b116 = 7 := by rw [e160]; exact hk148
  have hk175 : ah_k h159 b119 = 7 := by rw [e160]; exact hk150
  have hk176 : ah_k h159 b151 = 14 := by rw [e160]; exact hk153
  have hk177 : ah_k h159 b154 = 14 := by rw [e160]; exact hk156
  have hr178 : ah_r h159 t 0 = some b1 := by rw [e160]; exact hr127
  have hr179 : ah_r h159 a1 0 = some b4 := by rw [e160]; exact hr129
  have hr180 : ah_r h159 t 1 = some b16 := by rw [e160]; exact hr131
  have hr181 : ah_r h159 a1 1 = some b19 := by rw [e160]; exact hr133
  have hr182 : ah_r h159 t 2 = some b35 := by rw [e160]; exact hr135
  have hr183 : ah_r h159 a1 2 = some b38 := by rw [e160]; exact hr137
  have hr184 : ah_r h159 t 3 = some b58 := by rw [e160]; exact hr139
  have hr185 : ah_r h159 a1 3 = some b61 := by rw [e160]; exact hr141
  have hr186 : ah_r h159 t 4 = some b85 := by rw [e160]; exact hr143
  have hr187 : ah_r h159 a1 4 = some b88 := by rw [e160]; exact hr145
  have hr188 : ah_r h159 t 5 = some b116 := by rw [e160]; exact hr147
  have hr189 : ah_r h159 a1 5 = some b119 := by rw [e160]; exact hr149
  have hr190 : ah_r h159 a1 6 = some b151 := by rw [e160]; exact hr152
  have hr191 : ah_r h159 t 6 = some b154 := by rw [e160]; exact hr155
  refine ab_iconst (v := 0) dX10_become_80 (by decide) ?_
  refine ab_istore_n (i := 2) (L' := [some (.ref t), some (.ref a1), some (.int 0)]) dX10_become_81 rfl (by exact (Nat.le_of_ble_eq_true rfl)) rfl rfl ?_
  exact Wp.fewer (L' := [some (.ref t), some (.ref a1), some (.int 0)]) (show ab_leL _ _ from ⟨rfl, ⟨rfl, ⟨rfl, trivial⟩⟩⟩) ht
