/-! ===== blocks of methods (printed by wip/whole/mkall.py) ===== -/
theorem dJ7_rangeCheck_23922_0 : decode cJ7_rangeCheck_23922 0 = .ok (.iload_n 1, 1) := by decide +kernel
theorem dJ7_rangeCheck_23922_1 : decode cJ7_rangeCheck_23922 1 = .ok (.iload_n 2, 1) := by decide +kernel
theorem dJ7_rangeCheck_23922_2 : decode cJ7_rangeCheck_23922 2 = .ok (.if_icmp .le 44, 3) := by decide +kernel
theorem dJ7_rangeCheck_23922_5 : decode cJ7_rangeCheck_23922 5 = .ok (.new 43, 3) := by decide +kernel
theorem dJ7_rangeCheck_23922_8 : decode cJ7_rangeCheck_23922 8 = .ok (.dup, 1) := by decide +kernel
theorem dJ7_rangeCheck_23922_9 : decode cJ7_rangeCheck_23922 9 = .ok (.new 45, 3) := by decide +kernel
theorem dJ7_rangeCheck_23922_12 : decode cJ7_rangeCheck_23922 12 = .ok (.dup, 1) := by decide +kernel
theorem dJ7_rangeCheck_23922_13 : decode cJ7_rangeCheck_23922 13 = .ok (.invokespecial 47, 3) := by decide +kernel
theorem dJ7_rangeCheck_23922_16 : decode cJ7_rangeCheck_23922 16 = .ok (.ldc 48, 2) := by decide +kernel
theorem dJ7_rangeCheck_23922_18 : decode cJ7_rangeCheck_23922 18 = .ok (.invokevirtual 50, 3) := by decide +kernel
theorem dJ7_rangeCheck_23922_21 : decode cJ7_rangeCheck_23922 21 = .ok (.iload_n 1, 1) := by decide +kernel
theorem dJ7_rangeCheck_23922_22 : decode cJ7_rangeCheck_23922 22 = .ok (.invokevirtual 54, 3) := by decide +kernel
theorem dJ7_rangeCheck_23922_25 : decode cJ7_rangeCheck_23922 25 = .ok (.ldc 57, 2) := by decide +kernel
theorem dJ7_rangeCheck_23922_27 : decode cJ7_rangeCheck_23922 27 = .ok (.invokevirtual 50, 3) := by decide +kernel
theorem dJ7_rangeCheck_23922_30 : decode cJ7_rangeCheck_23922 30 = .ok (.iload_n 2, 1) := by decide +kernel
theorem dJ7_rangeCheck_23922_31 : decode cJ7_rangeCheck_23922 31 = .ok (.invokevirtual 54, 3) := by decide +kernel
theorem dJ7_rangeCheck_23922_34 : decode cJ7_rangeCheck_23922 34 = .ok (.ldc 59, 2) := by decide +kernel
theorem dJ7_rangeCheck_23922_36 : decode cJ7_rangeCheck_23922 36 = .ok (.invokevirtual 50, 3) := by decide +kernel
theorem dJ7_rangeCheck_23922_39 : decode cJ7_rangeCheck_23922 39 = .ok (.invokevirtual 61, 3) := by decide +kernel
theorem dJ7_rangeCheck_23922_42 : decode cJ7_rangeCheck_23922 42 = .ok (.invokespecial 65, 3) := by decide +kernel
theorem dJ7_rangeCheck_23922_45 : decode cJ7_rangeCheck_23922 45 = .ok (.athrow, 1) := by decide +kernel
theorem dJ7_rangeCheck_23922_46 : decode cJ7_rangeCheck_23922 46 = .ok (.iload_n 1, 1) := by decide +kernel
theorem dJ7_rangeCheck_23922_47 : decode cJ7_rangeCheck_23922 47 = .ok (.ifCond .ge 12, 3) := by decide +kernel
theorem dJ7_rangeCheck_23922_50 : decode cJ7_rangeCheck_23922 50 = .ok (.new 68, 3) := by decide +kernel
theorem dJ7_rangeCheck_23922_53 : decode cJ7_rangeCheck_23922 53 = .ok (.dup, 1) := by decide +kernel
theorem dJ7_rangeCheck_23922_54 : decode cJ7_rangeCheck_23922 54 = .ok (.iload_n 1, 1) := by decide +kernel
theorem dJ7_rangeCheck_23922_55 : decode cJ7_rangeCheck_23922 55 = .ok (.invokespecial 70, 3) := by decide +kernel
theorem dJ7_rangeCheck_23922_58 : decode cJ7_rangeCheck_23922 58 = .ok (.athrow, 1) := by decide +kernel
theorem dJ7_rangeCheck_23922_59 : decode cJ7_rangeCheck_23922 59 = .ok (.iload_n 2, 1) := by decide +kernel
theorem dJ7_rangeCheck_23922_60 : decode cJ7_rangeCheck_23922 60 = .ok (.iload_n 0, 1) := by decide +kernel
theorem dJ7_rangeCheck_23922_61 : decode cJ7_rangeCheck_23922 61 = .ok (.if_icmp .le 12, 3) := by decide +kernel
theorem dJ7_rangeCheck_23922_64 : decode cJ7_rangeCheck_23922 64 = .ok (.new 68, 3) := by decide +kernel
theorem dJ7_rangeCheck_23922_67 : decode cJ7_rangeCheck_23922 67 = .ok (.dup, 1) := by decide +kernel
theorem dJ7_rangeCheck_23922_68 : decode cJ7_rangeCheck_23922 68 = .ok (.iload_n 2, 1) := by decide +kernel
theorem dJ7_rangeCheck_23922_69 : decode cJ7_rangeCheck_23922 69 = .ok (.invokespecial 70, 3) := by decide +kernel
theorem dJ7_rangeCheck_23922_72 : decode cJ7_rangeCheck_23922 72 = .ok (.athrow, 1) := by decide +kernel
theorem dJ7_rangeCheck_23922_73 : decode cJ7_rangeCheck_23922 73 = .ok (.return_, 1) := by decide +kernel
set_option maxRecDepth 20000 in
theorem T_J7_rangeCheck_23922 {Q : Option Value → ah_T → Prop} {h : ah_T} (hs : Sh h) (x0 : Int32) (x1 : Int32) (x2 : Int32) (ht : ((x1 ≤ x2 → ((0 ≤ x1 → ((x2 ≤ x0 → Q none h) ∧ (¬ x2 ≤ x0 → False))) ∧ (¬ 0 ≤ x1 → False))) ∧ (¬ x1 ≤ x2 → False))) : Mt mJ7_rangeCheck_23922 [.int x0, .int x1, .int x2] h Q := by
  refine Mt.ofWp rfl (by exact (Nat.le_of_ble_eq_true rfl)) (Wp.fewer (L' := [some (.int x0), some (.int x1), some (.int x2)]) (show ab_leL _ _ from ⟨rfl, ⟨rfl, ⟨rfl, trivial⟩⟩⟩) ?_)
  refine ab_iload_n (i := 1) dJ7_rangeCheck_23922_0 rfl rfl ?_
  refine ab_iload_n (i := 2) dJ7_rangeCheck_23922_1 rfl rfl ?_
  refine ab_icmp_le (tgt := 46) dJ7_rangeCheck_23922_2 (by decide) (fun c1 => ?_) (fun c1 => ?_)
  · have ht := ht.1 c1
    refine ab_iload_n (i := 1) dJ7_rangeCheck_23922_46 rfl rfl ?_
    refine ab_if_ge (tgt := 59) dJ7_rangeCheck_23922_47 (by decide) (fun c2 => ?_) (fun c2 => ?_)
    · have ht := ht.1 c2
      refine ab_iload_n (i := 2) dJ7_rangeCheck_23922_59 rfl rfl ?_
      refine ab_iload_n (i := 0) dJ7_rangeCheck_23922_60 rfl rfl ?_
      refine ab_icmp_le (tgt := 73) dJ7_rangeCheck_23922_61 (by decide) (fun c3 => ?_) (fun c3 => ?_)
      · have ht := ht.1 c3
        exact ab_vret rfl dJ7_rangeCheck_23922_73 (Nat.le_of_ble_eq_true rfl) (Nat.le_of_ble_eq_true rfl) ht
      · have ht := ht.2 c3
        exact False.elim ht
    · have ht := ht.2 c2
      exact False.elim ht
  · have ht := ht.2 c1
    exact False.elim ht
theorem dJ7_fill_53178_0 : decode cJ7_fill_53178 0 = .ok (.iconst 0, 1) := by decide +kernel
theorem dJ7_fill_53178_1 : decode cJ7_fill_53178 1 = .ok (.istore_n 2, 1) := by decide +kernel
theorem dJ7_fill_53178_2 : decode cJ7_fill_53178 2 = .ok (.aload_n 0, 1) := by decide +kernel
theorem dJ7_fill_53178_3 : decode cJ7_fill_53178 3 = .ok (.arraylength, 1) := by decide +kernel
theorem dJ7_fill_53178_4 : decode cJ7_fill_53178 4 = .ok (.istore_n 3, 1) := by decide +kernel
theorem dJ7_fill_53178_5 : decode cJ7_fill_53178 5 = .ok (.iload_n 2, 1) := by decide +kernel
theorem dJ7_fill_53178_6 : decode cJ7_fill_53178 6 = .ok (.iload_n 3, 1) := by decide +kernel
theorem dJ7_fill_53178_7 : decode cJ7_fill_53178 7 = .ok (.if_icmp .ge 13, 3) := by decide +kernel
theorem dJ7_fill_53178_10 : decode cJ7_fill_53178 10 = .ok (.aload_n 0, 1) := by decide +kernel
theorem dJ7_fill_53178_11 : decode cJ7_fill_53178 11 = .ok (.iload_n 2, 1) := by decide +kernel
theorem dJ7_fill_53178_12 : decode cJ7_fill_53178 12 = .ok (.iload_n 1, 1) := by decide +kernel
theorem dJ7_fill_53178_13 : decode cJ7_fill_53178 13 = .ok (.iastore, 1) := by decide +kernel
theorem dJ7_fill_53178_14 : decode cJ7_fill_53178 14 = .ok (.iinc 2 1, 3) := by decide +kernel
theorem dJ7_fill_53178_17 : decode cJ7_fill_53178 17 = .ok (.goto (-12), 3) := by decide +kernel
theorem dJ7_fill_53178_20 : decode cJ7_fill_53178 20 = .ok (.return_, 1) := by decide +kernel
set_option maxRecDepth 20000 in
theorem T_J7_fill_53178_5 {Q : Option Value → ah_T → Prop} {h : ah_T} (hs : Sh h) (a0 : Nat) (x1 : Int32) (x2 : Int32) (x3 : Int32) (hk_a0 : ah_k h a0 = 14) (ht : ((x3 ≤ x2 → Q none h) ∧ (¬ x3 ≤ x2 → (vp_in x2 (ah_n h a0)) ∧ (∀ h3, h3 = ah_si h a0 (Int32.toNatClampNeg x2) x1 → Wp mJ7_fill_53178 Q 0 0 5 [some (.ref a0), some (.int x1), some (.int (x2 + 1)), some (.int x3)] [] h3)))) : Wp mJ7_fill_53178 Q 0 0 5 [some (.ref a0), some (.int x1), some (.int x2), some (.int x3)] [] h := by
  refine ab_iload_n (i := 2) dJ7_fill_53178_5 rfl rfl ?_
  refine ab_iload_n (i := 3) dJ7_fill_53178_6 rfl rfl ?_
  refine ab_icmp_ge (tgt := 20) dJ7_fill_53178_7 (by decide) (fun c1 => ?_) (fun c1 => ?_)
  · have ht := ht.1 c1
    exact ab_vret rfl dJ7_fill_53178_20 (Nat.le_of_ble_eq_true rfl) (Nat.le_of_ble_eq_true rfl) ht
  · have ht := ht.2 c1
    refine ab_aload_n (i := 0) dJ7_fill_53178_10 rfl rfl ?_
    refine ab_iload_n (i := 2) dJ7_fill_53178_11 rfl rfl ?_
    refine ab_iload_n (i := 1) dJ7_fill_53178_12 rfl rfl ?_
    obtain ⟨hc2, ht⟩ := ht
    refine ab_iast hk_a0 hc2 dJ7_fill_53178_13 ?_
    refine Wp.nm fun h3 e4 => ?_
    have ht := ht h3 e4
    have hs5 : Sh h3 := by rw [e4]; exact sh_si hs
    have hk6 : ah_k h3 a0 = 14 := by rw [e4]; exact hk_a0
    refine ab_iinc (i := 2) (x := x2) (v := (x2 + 1)) (L' := [some (.ref a0), some (.int x1), some (.int (x2 + 1)), some (.int x3)]) dJ7_fill_53178_14 rfl rfl (by exact (Nat.le_of_ble_eq_true rfl)) rfl rfl ?_
    refine ab_goto (tgt := 5) dJ7_fill_53178_17 (by decide) ?_
    exact Wp.fewer (L' := [some (.ref a0), some (.int x1), some (.int (x2 + 1)), some (.int x3)]) (show ab_leL _ _ from ⟨rfl, ⟨rfl, ⟨rfl, ⟨rfl, trivial⟩⟩⟩⟩) ht
set_option maxRecDepth 20000 in
theorem T_J7_fill_53178 {Q : Option Value → ah_T → Prop} {h : ah_T} (hs : Sh h) (a0 : Nat) (x1 : Int32) (hk_a0 : ah_k h a0 = 14) (ht : Wp mJ7_fill_53178 Q 0 0 5 [some (.ref a0), some (.int x1), some (.int 0), some (.int (Int32.ofNat (ah_n h a0)))] [] h) : Mt mJ7_fill_53178 [.ref a0, .int x1] h Q := by
  refine Mt.ofWp rfl (by exact (Nat.le_of_ble_eq_true rfl)) (Wp.fewer (L' := [some (.ref a0), some (.int x1), none, none]) (show ab_leL _ _ from ⟨rfl, ⟨rfl, trivial⟩⟩) ?_)
  refine ab_iconst (v := 0) dJ7_fill_53178_0 (by decide) ?_
  refine ab_istore_n (i := 2) (L' := [some (.ref a0), some (.int x1), some (.int 0), none]) dJ7_fill_53178_1 rfl (by exact (Nat.le_of_ble_eq_true rfl)) rfl rfl ?_
  refine ab_aload_n (i := 0) dJ7_fill_53178_2 rfl rfl ?_
  refine ab_alen 14 (by decide) hk_a0 rfl dJ7_fill_53178_3 ?_
  refine ab_istore_n (i := 3) (L' := [some (.ref a0), some (.int x1), some (.int 0), some (.int (Int32.ofNat (ah_n h a0)))]) dJ7_fill_53178_4 rfl (by exact (Nat.le_of_ble_eq_true rfl)) rfl rfl ?_
  exact Wp.fewer (L' := [some (.ref a0), some (.int x1), some (.int 0), some (.int (Int32.ofNat (ah_n h a0)))]) (show ab_leL _ _ from ⟨rfl, ⟨rfl, ⟨rfl, ⟨rfl, trivial⟩⟩⟩⟩) ht
theorem dJ7_fill_fda19_0 : decode cJ7_fill_fda19 0 = .ok (.aload_n 0, 1) := by decide +kernel
theorem dJ7_fill_fda19_1 : decode cJ7_fill_fda19 1 = .ok (.arraylength, 1) := by decide +kernel
theorem dJ7_fill_fda19_2 : decode cJ7_fill_fda19 2 = .ok (.iload_n 1, 1) := by decide +kernel
theorem dJ7_fill_fda19_3 : decode cJ7_fill_fda19 3 = .ok (.iload_n 2, 1) := by decide +kernel
theorem dJ7_fill_fda19_4 : decode cJ7_fill_fda19 4 = .ok (.invokestatic 13, 3) := by decide +kernel
theorem dJ7_fill_fda19_7 : decode cJ7_fill_fda19 7 = .ok (.iload_n 1, 1) := by decide +kernel
theorem dJ7_fill_fda19_8 : decode cJ7_fill_fda19 8 = .ok (.istore 4, 2) := by decide +kernel
theorem dJ7_fill_fda19_10 : decode cJ7_fill_fda19 10 = .ok (.iload 4, 2) := by decide +kernel
theorem dJ7_fill_fda19_12 : decode cJ7_fill_fda19 12 = .ok (.iload_n 2, 1) := by decide +kernel
theorem dJ7_fill_fda19_13 : decode cJ7_fill_fda19 13 = .ok (.if_icmp .ge 14, 3) := by decide +kernel
theorem dJ7_fill_fda19_16 : decode cJ7_fill_fda19 16 = .ok (.aload_n 0, 1) := by decide +kernel
theorem dJ7_fill_fda19_17 : decode cJ7_fill_fda19 17 = .ok (.iload 4, 2) := by decide +kernel
theorem dJ7_fill_fda19_19 : decode cJ7_fill_fda19 19 = .ok (.iload_n 3, 1) := by decide +kernel
theorem dJ7_fill_fda19_20 : decode cJ7_fill_fda19 20 = .ok (.iastore, 1) := by decide +kernel
theorem dJ7_fill_fda19_21 : decode cJ7_fill_fda19 21 = .ok (.iinc 4 1, 3) := by decide +kernel
theorem dJ7_fill_fda19_24 : decode cJ7_fill_fda19 24 = .ok (.goto (-14), 3) := by decide +kernel
theorem dJ7_fill_fda19_27 : decode cJ7_fill_fda19 27 = .ok (.return_, 1) := by decide +kernel
set_option maxRecDepth 20000 in
theorem T_J7_fill_fda19_10 {Q : Option Value → ah_T → Prop} {h : ah_T} (hs : Sh h) (a0 : Nat) (x2 : Int32) (x3 : Int32) (x4 : Int32) (hk_a0 : ah_k h a0 = 14) (ht : ((x2 ≤ x4 → Q none h) ∧ (¬ x2 ≤ x4 → (vp_in x4 (ah_n h a0)) ∧ (∀ h7, h7 = ah_si h a0 (Int32.toNatClampNeg x4) x3 → Wp mJ7_fill_fda19 Q 0 0 10 [some (.ref a0), none, some (.int x2), some (.int x3), some (.int (x4 + 1))] [] h7)))) : Wp mJ7_fill_fda19 Q 0 0 10 [some (.ref a0), none, some (.int x2), some (.int x3), some (.int x4)] [] h := by
  refine ab_iload (i := 4) dJ7_fill_fda19_10 rfl ?_
  refine ab_iload_n (i := 2) dJ7_fill_fda19_12 rfl rfl ?_
  refine ab_icmp_ge (tgt := 27) dJ7_fill_fda19_13 (by decide) (fun c5 => ?_) (fun c5 => ?_)
  · have ht := ht.1 c5
    exact ab_vret rfl dJ7_fill_fda19_27 (Nat.le_of_ble_eq_true rfl) (Nat.le_of_ble_eq_true rfl) ht
  · have ht := ht.2 c5
    refine ab_aload_n (i := 0) dJ7_fill_fda19_16 rfl rfl ?_
    refine ab_iload (i := 4) dJ7_fill_fda19_17 rfl ?_
    refine ab_iload_n (i := 3) dJ7_fill_fda19_19 rfl rfl ?_
    obtain ⟨hc6, ht⟩ := ht
    refine ab_iast hk_a0 hc6 dJ7_fill_fda19_20 ?_
    refine Wp.nm fun h7 e8 => ?_
    have ht := ht h7 e8
    have hs9 : Sh h7 := by rw [e8]; exact sh_si hs
    have hk10 : ah_k h7 a0 = 14 := by rw [e8]; exact hk_a0
    refine ab_iinc (i := 4) (x := x4) (v := (x4 + 1)) (L' := [some (.ref a0), none, some (.int x2), some (.int x3), some (.int (x4 + 1))]) dJ7_fill_fda19_21 rfl rfl (by exact (Nat.le_of_ble_eq_true rfl)) rfl rfl ?_
    refine ab_goto (tgt := 10) dJ7_fill_fda19_24 (by decide) ?_
    exact Wp.fewer (L' := [some (.ref a0), none, some (.int x2), some (.int x3), some (.int (x4 + 1))]) (show ab_leL _ _ from ⟨rfl, ⟨rfl, ⟨rfl, ⟨rfl, trivial⟩⟩⟩⟩) ht
set_option maxRecDepth 20000 in
theorem T_J7_fill_fda19 {Q : Option Value → ah_T → Prop} {h : ah_T} (hs : Sh h) (a0 : Nat) (x1 : Int32) (x2 : Int32) (x3 : Int32) (hk_a0 : ah_k h a0 = 14) (ht : (Mt mJ7_rangeCheck_23922 [.int (Int32.ofNat (ah_n h a0)), .int x1, .int x2] h (ab_qv fun h1 => Sh h1 ∧ ah_k h1 a0 = 14 ∧ Wp mJ7_fill_fda19 Q 0 0 10 [some (.ref a0), none, some (.int x2), some (.int x3), some (.int x1)] [] h1))) : Mt mJ7_fill_fda19 [.ref a0, .int x1, .int x2, .int x3] h Q := by
  refine Mt.ofWp rfl (by exact (Nat.le_of_ble_eq_true rfl)) (Wp.fewer (L' := [some (.ref a0), some (.int x1), some (.int x2), some (.int x3), none]) (show ab_leL _ _ from ⟨rfl, ⟨rfl, ⟨rfl, ⟨rfl, trivial⟩⟩⟩⟩) ?_)
  refine ab_aload_n (i := 0) dJ7_fill_fda19_0 rfl rfl ?_
  refine ab_alen 14 (by decide) hk_a0 rfl dJ7_fill_fda19_1 ?_
  refine ab_iload_n (i := 1) dJ7_fill_fda19_2 rfl rfl ?_
  refine ab_iload_n (i := 2) dJ7_fill_fda19_3 rfl rfl ?_
  refine ab_callS (As := [.int (Int32.ofNat (ah_n h a0)), .int x1, .int x2]) ht (Y_J7_rangeCheck_23922) l_J7_13 st_J7_rangeCheck_23922 rfl ⟨(Nat.le_of_ble_eq_true rfl), (Nat.le_of_ble_eq_true rfl), (Nat.le_of_ble_eq_true rfl), (Nat.le_of_ble_eq_true rfl)⟩ dJ7_fill_fda19_4 ?_
  rintro _ h1 ⟨rfl, hs2, hk4, ht⟩
  refine ab_iload_n (i := 1) dJ7_fill_fda19_7 rfl rfl ?_
  refine ab_istore (i := 4) (L' := [some (.ref a0), some (.int x1), some (.int x2), some (.int x3), some (.int x1)]) dJ7_fill_fda19_8 (by exact (Nat.le_of_ble_eq_true rfl)) rfl rfl ?_
  exact Wp.fewer (L' := [some (.ref a0), none, some (.int x2), some (.int x3), some (.int x1)]) (show ab_leL _ _ from ⟨rfl, ⟨rfl, ⟨rfl, ⟨rfl, trivial⟩⟩⟩⟩) ht
theorem dJ7_copyOf_59c91_0 : decode cJ7_copyOf_59c91 0 = .ok (.iload_n 1, 1) := by decide +kernel
theorem dJ7_copyOf_59c91_1 : decode cJ7_copyOf_59c91 1 = .ok (.aload_n 0, 1) := by decide +kernel
theorem dJ7_copyOf_59c91_2 : decode cJ7_copyOf_59c91 2 = .ok (.arraylength, 1) := by decide +kernel
theorem dJ7_copyOf_59c91_3 : decode cJ7_copyOf_59c91 3 = .ok (.if_icmp .ne 11, 3) := by decide +kernel
theorem dJ7_copyOf_59c91_6 : decode cJ7_copyOf_59c91 6 = .ok (.aload_n 0, 1) := by decide +kernel
theorem dJ7_copyOf_59c91_7 : decode cJ7_copyOf_59c91 7 = .ok (.invokevirtual 316, 3) := by decide +kernel
theorem dJ7_copyOf_59c91_10 : decode cJ7_copyOf_59c91 10 = .ok (.checkcast 317, 3) := by decide +kernel
theorem dJ7_copyOf_59c91_13 : decode cJ7_copyOf_59c91 13 = .ok (.areturn, 1) := by decide +kernel
theorem dJ7_copyOf_59c91_14 : decode cJ7_copyOf_59c91 14 = .ok (.iload_n 1, 1) := by decide +kernel
theorem dJ7_copyOf_59c91_15 : decode cJ7_copyOf_59c91 15 = .ok (.newarray .int, 2) := by decide +kernel
theorem dJ7_copyOf_59c91_17 : decode cJ7_copyOf_59c91 17 = .ok (.astore_n 2, 1) := by decide +kernel
theorem dJ7_copyOf_59c91_18 : decode cJ7_copyOf_59c91 18 = .ok (.aload_n 0, 1) := by decide +kernel
theorem dJ7_copyOf_59c91_19 : decode cJ7_copyOf_59c91 19 = .ok (.iconst 0, 1) := by decide +kernel
theorem dJ7_copyOf_59c91_20 : decode cJ7_copyOf_59c91 20 = .ok (.aload_n 2, 1) := by decide +kernel
theorem dJ7_copyOf_59c91_21 : decode cJ7_copyOf_59c91 21 = .ok (.iconst 0, 1) := by decide +kernel
theorem dJ7_copyOf_59c91_22 : decode cJ7_copyOf_59c91 22 = .ok (.aload_n 0, 1) := by decide +kernel
theorem dJ7_copyOf_59c91_23 : decode cJ7_copyOf_59c91 23 = .ok (.arraylength, 1) := by decide +kernel
theorem dJ7_copyOf_59c91_24 : decode cJ7_copyOf_59c91 24 = .ok (.iload_n 1, 1) := by decide +kernel
theorem dJ7_copyOf_59c91_25 : decode cJ7_copyOf_59c91 25 = .ok (.invokestatic 304, 3) := by decide +kernel
theorem dJ7_copyOf_59c91_28 : decode cJ7_copyOf_59c91 28 = .ok (.invokestatic 150, 3) := by decide +kernel
theorem dJ7_copyOf_59c91_31 : decode cJ7_copyOf_59c91 31 = .ok (.aload_n 2, 1) := by decide +kernel
theorem dJ7_copyOf_59c91_32 : decode cJ7_copyOf_59c91 32 = .ok (.areturn, 1) := by decide +kernel
set_option maxRecDepth 20000 in
theorem T_J7_copyOf_59c91 {Q : Option Value → ah_T → Prop} {h : ah_T} (hs : Sh h) (a0 : Nat) (x1 : Int32) (hk_a0 : ah_k h a0 = 14) (ht : ((¬ x1 = (Int32.ofNat (ah_n h a0)) → (¬ x1 < 0) ∧ (0 + (Int32.toNatClampNeg x1) ≤ 500) ∧ (∀ w4, w4 = ah_x h → (∀ h6, h6 = ah_nw h 14 (Int32.toNatClampNeg x1) → (¬ a0 = ah_x h) ∧ (¬ (if x1 < (Int32.ofNat (ah_n h6 a0)) then x1 else (Int32.ofNat (ah_n h6 a0))) < 0) ∧ ((Int32.toNatClampNeg 0) + (Int32.toNatClampNeg (if x1 < (Int32.ofNat (ah_n h6 a0)) then x1 else (Int32.ofNat (ah_n h6 a0)))) ≤ ah_n h6 a0) ∧ ((Int32.toNatClampNeg 0) + (Int32.toNatClampNeg (if x1 < (Int32.ofNat (ah_n h6 a0)) then x1 else (Int32.ofNat (ah_n h6 a0)))) ≤ ah_n h6 w4) ∧ (∀ h16, h16 = ah_sa h6 w4 (va_cpy (ah_i h6 a0) (ah_i h6 w4) (Int32.toNatClampNeg 0) (Int32.toNatClampNeg 0) (Int32.toNatClampNeg (if x1 < (Int32.ofNat (ah_n h6 a0)) then x1 else (Int32.ofNat (ah_n h6 a0))))) → Q (some (va_rf (some w4))) h16)))) ∧ (x1 = (Int32.ofNat (ah_n h a0)) → (0 + ah_n h a0 ≤ 500) ∧ (∀ w22, w22 = ah_x h → (∀ h24, h24 = ah_sa (ah_nw h 14 (ah_n h a0)) w22 (ah_i h a0) → (¬ a0 = ah_x h) ∧ Q (some (va_rf (some w22))) h24))))) : Mt mJ7_copyOf_59c91 [.ref a0, .int x1] h Q := by
  refine Mt.ofWp rfl (by exact (Nat.le_of_ble_eq_true rfl)) (Wp.fewer (L' := [some (.ref a0), some (.int x1), none]) (show ab_leL _ _ from ⟨rfl, ⟨rfl, trivial⟩⟩) ?_)
  refine ab_iload_n (i := 1) dJ7_copyOf_59c91_0 rfl rfl ?_
  refine ab_aload_n (i := 0) dJ7_copyOf_59c91_1 rfl rfl ?_
  refine ab_alen 14 (by decide) hk_a0 rfl dJ7_copyOf_59c91_2 ?_
  refine ab_icmp_ne (tgt := 14) dJ7_copyOf_59c91_3 (by decide) (fun c1 => ?_) (fun c1 => ?_)
  · have ht := ht.1 c1
    refine ab_iload_n (i := 1) dJ7_copyOf_59c91_14 rfl rfl ?_
    obtain ⟨hc2, ht⟩ := ht
    obtain ⟨hc3, ht⟩ := ht
    refine ab_newa (N := (Int32.toNatClampNeg x1)) 14 1 .int (by decide) rfl wa_int hc2 rfl (Nat.le_trans (Nat.mul_le_mul_right 4 (Nat.le_trans (Nat.le_add_left _ _) hc3)) (by decide)) (Nat.le_of_ble_eq_true rfl) hc3 dJ7_copyOf_59c91_15 ?_
    obtain ⟨w4, ew5⟩ : ∃ z, z = ah_x h := ⟨_, rfl⟩
    rw [← ew5]
    have ht := ht w4 ew5
    refine Wp.nm fun h6 e7 => ?_
    have ht := ht h6 e7
    have hs8 : Sh h6 := by rw [e7]; exact sh_nw hs
    have hc10 := ht.1
    have ht := ht.2
    have hk9 : ah_k h6 a0 = 14 := by rw [e7, ah_k_nw, if_neg hc10]; exact hk_a0
    have hk11 : ah_k h6 w4 = 14 := by rw [e7, ew5, ah_k_nw, if_pos rfl]
    have hn12 : ah_n h6 w4 = (Int32.toNatClampNeg x1) := by rw [e7, ew5, ah_n_nw, if_pos rfl]
    refine ab_astore_n (i := 2) (L' := [some (.ref a0), some (.int x1), some (.ref w4)]) dJ7_copyOf_59c91_17 rfl (by exact (Nat.le_of_ble_eq_true rfl)) rfl rfl ?_
    refine ab_aload_n (i := 0) dJ7_copyOf_59c91_18 rfl rfl ?_
    refine ab_iconst (v := 0) dJ7_copyOf_59c91_19 (by decide) ?_
    refine ab_aload_n (i := 2) dJ7_copyOf_59c91_20 rfl rfl ?_
    refine ab_iconst (v := 0) dJ7_copyOf_59c91_21 (by decide) ?_
    refine ab_aload_n (i := 0) dJ7_copyOf_59c91_22 rfl rfl ?_
    refine ab_alen 14 (by decide) hk9 rfl dJ7_copyOf_59c91_23 ?_
    refine ab_iload_n (i := 1) dJ7_copyOf_59c91_24 rfl rfl ?_
    refine ab_mmin (tb_4 (List.mem_of_getElem? (i := 207) (by decide +kernel)) rfl) st_mmin in_m co_mmin (Nat.le_of_ble_eq_true rfl) (Nat.le_of_ble_eq_true rfl) (Nat.le_of_ble_eq_true rfl) (by first | exact (Nat.le_of_ble_eq_true rfl) | assumption) dJ7_copyOf_59c91_25 ?_
    obtain ⟨hc13, ht⟩ := ht
    obtain ⟨hc14, ht⟩ := ht
    obtain ⟨hc15, ht⟩ := ht
    refine ab_copy (tb_4 (List.mem_of_getElem? (i := 208) (by decide +kernel)) rfl) na_copy st_copy in_sys hk9 hk11 (by decide) (by decide) hc13 hc14 hc15 (Nat.le_of_ble_eq_true rfl) (Nat.le_of_ble_eq_true rfl) dJ7_copyOf_59c91_28 ?_
    refine Wp.nm fun h16 e17 => ?_
    have ht := ht h16 e17
    have hs18 : Sh h16 := by rw [e17]; exact sh_sa hs8
    have hk19 : ah_k h16 a0 = 14 := by rw [e17]; exact hk9
    have hk20 : ah_k h16 w4 = 14 := by rw [e17]; exact hk11
    refine ab_aload_n (i := 2) dJ7_copyOf_59c91_31 rfl rfl ?_
    exact ab_aret (r := (some w4)) rfl (by first | exact Or.inl ⟨_, rfl⟩ | exact Or.inr ⟨_, rfl⟩) dJ7_copyOf_59c91_32 (Nat.le_of_ble_eq_true rfl) (by first | exact (Nat.le_of_ble_eq_true rfl) | assumption | omega) ht
  · have ht := ht.2 c1
    refine ab_aload_n (i := 0) dJ7_copyOf_59c91_6 rfl rfl ?_
    obtain ⟨hc21, ht⟩ := ht
    refine ab_clone (tb_4 (List.mem_of_getElem? (i := 200) (by decide +kernel)) rfl) cl_same cl_nat cl_inst cl_sel hk_a0 (Nat.le_of_ble_eq_true rfl) (Nat.le_of_ble_eq_true rfl) (Nat.le_of_ble_eq_true rfl) hc21 dJ7_copyOf_59c91_7 ?_
    obtain ⟨w22, ew23⟩ : ∃ z, z = ah_x h := ⟨_, rfl⟩
    rw [← ew23]
    have ht := ht w22 ew23
    refine Wp.nm fun h24 e25 => ?_
    have ht := ht h24 e25
    have hs26 : Sh h24 := by rw [e25]; exact sh_sa (sh_nw hs)
    have hc28 := ht.1
    have ht := ht.2
    have hk27 : ah_k h24 a0 = 14 := by rw [e25, ah_k_sa, ah_k_nw, if_neg hc28]; exact hk_a0
    have hk29 : ah_k h24 w22 = 14 := by rw [e25, ew23, ah_k_sa, ah_k_nw, if_pos rfl]
    refine ab_castI (tb_4 (List.mem_of_getElem? (i := 206) (by decide +kernel)) rfl) hk29 dJ7_copyOf_59c91_10 ?_
    exact ab_aret (r := (some w22)) rfl (by first | exact Or.inl ⟨_, rfl⟩ | exact Or.inr ⟨_, rfl⟩) dJ7_copyOf_59c91_13 (Nat.le_of_ble_eq_true rfl) (by first | exact (Nat.le_of_ble_eq_true rfl) | assumption | omega) ht
