/-! ===== blocks of methods (printed by wip/whole/mkall.py) ===== -/
theorem dX7_isFull_0 : decode cX7_isFull 0 = .ok (.aload_n 0, 1) := by decide +kernel
theorem dX7_isFull_1 : decode cX7_isFull 1 = .ok (.getfield 9, 3) := by decide +kernel
theorem dX7_isFull_4 : decode cX7_isFull 4 = .ok (.aload_n 0, 1) := by decide +kernel
theorem dX7_isFull_5 : decode cX7_isFull 5 = .ok (.getfield 15, 3) := by decide +kernel
theorem dX7_isFull_8 : decode cX7_isFull 8 = .ok (.if_icmp .lt 7, 3) := by decide +kernel
theorem dX7_isFull_11 : decode cX7_isFull 11 = .ok (.iconst 1, 1) := by decide +kernel
theorem dX7_isFull_12 : decode cX7_isFull 12 = .ok (.goto 4, 3) := by decide +kernel
theorem dX7_isFull_15 : decode cX7_isFull 15 = .ok (.iconst 0, 1) := by decide +kernel
theorem dX7_isFull_16 : decode cX7_isFull 16 = .ok (.ireturn, 1) := by decide +kernel
set_option maxRecDepth 20000 in
theorem T_X7_isFull {Q : Option Value → ah_T → Prop} {h : ah_T} (hs : Sh h) (t cc : Nat) (hk_t : ah_k h t = 7) (hk_cc : ah_k h cc = 14) (hr_t : ah_r h t 2 = some cc) (ht : (((ah_i h t 3) < (ah_i h t 0) → Q (some (.int 0)) h) ∧ (¬ (ah_i h t 3) < (ah_i h t 0) → Q (some (.int 1)) h))) : Mt mX7_isFull [.ref t] h Q := by
  refine Mt.ofWp rfl (by exact (Nat.le_of_ble_eq_true rfl)) (Wp.fewer (L' := [some (.ref t)]) (show ab_leL _ _ from ⟨rfl, trivial⟩) ?_)
  refine ab_aload_n (i := 0) dX7_isFull_0 rfl rfl ?_
  refine ab_getI f_X7_9 rfl hk_t dX7_isFull_1 ?_
  refine ab_aload_n (i := 0) dX7_isFull_4 rfl rfl ?_
  refine ab_getI f_X7_15 rfl hk_t dX7_isFull_5 ?_
  refine ab_icmp_lt (tgt := 15) dX7_isFull_8 (by decide) (fun c1 => ?_) (fun c1 => ?_)
  · have ht := ht.1 c1
    refine ab_iconst (v := 0) dX7_isFull_15 (by decide) ?_
    exact ab_zret rfl rfl dX7_isFull_16 (Nat.le_of_ble_eq_true rfl) (Nat.le_of_ble_eq_true rfl) ht
  · have ht := ht.2 c1
    refine ab_iconst (v := 1) dX7_isFull_11 (by decide) ?_
    refine ab_goto (tgt := 16) dX7_isFull_12 (by decide) ?_
    exact ab_zret rfl rfl dX7_isFull_16 (Nat.le_of_ble_eq_true rfl) (Nat.le_of_ble_eq_true rfl) ht
theorem dX7_has_0 : decode cX7_has 0 = .ok (.iload_n 1, 1) := by decide +kernel
theorem dX7_has_1 : decode cX7_has 1 = .ok (.ifCond .lt 15, 3) := by decide +kernel
theorem dX7_has_4 : decode cX7_has 4 = .ok (.iload_n 1, 1) := by decide +kernel
theorem dX7_has_5 : decode cX7_has 5 = .ok (.aload_n 0, 1) := by decide +kernel
theorem dX7_has_6 : decode cX7_has 6 = .ok (.getfield 9, 3) := by decide +kernel
theorem dX7_has_9 : decode cX7_has 9 = .ok (.if_icmp .ge 7, 3) := by decide +kernel
theorem dX7_has_12 : decode cX7_has 12 = .ok (.iconst 1, 1) := by decide +kernel
theorem dX7_has_13 : decode cX7_has 13 = .ok (.goto 4, 3) := by decide +kernel
theorem dX7_has_16 : decode cX7_has 16 = .ok (.iconst 0, 1) := by decide +kernel
theorem dX7_has_17 : decode cX7_has 17 = .ok (.ireturn, 1) := by decide +kernel
set_option maxRecDepth 20000 in
theorem T_X7_has {Q : Option Value → ah_T → Prop} {h : ah_T} (hs : Sh h) (t cc : Nat) (x1 : Int32) (hk_t : ah_k h t = 7) (hk_cc : ah_k h cc = 14) (hr_t : ah_r h t 2 = some cc) (ht : ((x1 < 0 → Q (some (.int 0)) h) ∧ (¬ x1 < 0 → (((ah_i h t 3) ≤ x1 → Q (some (.int 0)) h) ∧ (¬ (ah_i h t 3) ≤ x1 → Q (some (.int 1)) h))))) : Mt mX7_has [.ref t, .int x1] h Q := by
  refine Mt.ofWp rfl (by exact (Nat.le_of_ble_eq_true rfl)) (Wp.fewer (L' := [some (.ref t), some (.int x1)]) (show ab_leL _ _ from ⟨rfl, ⟨rfl, trivial⟩⟩) ?_)
  refine ab_iload_n (i := 1) dX7_has_0 rfl rfl ?_
  refine ab_if_lt (tgt := 16) dX7_has_1 (by decide) (fun c1 => ?_) (fun c1 => ?_)
  · have ht := ht.1 c1
    refine ab_iconst (v := 0) dX7_has_16 (by decide) ?_
    exact ab_zret rfl rfl dX7_has_17 (Nat.le_of_ble_eq_true rfl) (Nat.le_of_ble_eq_true rfl) ht
  · have ht := ht.2 c1
    refine ab_iload_n (i := 1) dX7_has_4 rfl rfl ?_
    refine ab_aload_n (i := 0) dX7_has_5 rfl rfl ?_
    refine ab_getI f_X7_9 rfl hk_t dX7_has_6 ?_
    refine ab_icmp_ge (tgt := 16) dX7_has_9 (by decide) (fun c2 => ?_) (fun c2 => ?_)
    · have ht := ht.1 c2
      refine ab_iconst (v := 0) dX7_has_16 (by decide) ?_
      exact ab_zret rfl rfl dX7_has_17 (Nat.le_of_ble_eq_true rfl) (Nat.le_of_ble_eq_true rfl) ht
    · have ht := ht.2 c2
      refine ab_iconst (v := 1) dX7_has_12 (by decide) ?_
      refine ab_goto (tgt := 17) dX7_has_13 (by decide) ?_
      exact ab_zret rfl rfl dX7_has_17 (Nat.le_of_ble_eq_true rfl) (Nat.le_of_ble_eq_true rfl) ht
theorem dX7_get_0 : decode cX7_get 0 = .ok (.iload_n 1, 1) := by decide +kernel
theorem dX7_get_1 : decode cX7_get 1 = .ok (.ifCond .lt 39, 3) := by decide +kernel
theorem dX7_get_4 : decode cX7_get 4 = .ok (.iload_n 1, 1) := by decide +kernel
theorem dX7_get_5 : decode cX7_get 5 = .ok (.aload_n 0, 1) := by decide +kernel
theorem dX7_get_6 : decode cX7_get 6 = .ok (.getfield 9, 3) := by decide +kernel
theorem dX7_get_9 : decode cX7_get 9 = .ok (.if_icmp .ge 31, 3) := by decide +kernel
theorem dX7_get_12 : decode cX7_get 12 = .ok (.iload_n 2, 1) := by decide +kernel
theorem dX7_get_13 : decode cX7_get 13 = .ok (.ifCond .lt 27, 3) := by decide +kernel
theorem dX7_get_16 : decode cX7_get 16 = .ok (.iload_n 2, 1) := by decide +kernel
theorem dX7_get_17 : decode cX7_get 17 = .ok (.aload_n 0, 1) := by decide +kernel
theorem dX7_get_18 : decode cX7_get 18 = .ok (.getfield 18, 3) := by decide +kernel
theorem dX7_get_21 : decode cX7_get 21 = .ok (.if_icmp .ge 19, 3) := by decide +kernel
theorem dX7_get_24 : decode cX7_get 24 = .ok (.aload_n 0, 1) := by decide +kernel
theorem dX7_get_25 : decode cX7_get 25 = .ok (.getfield 21, 3) := by decide +kernel
theorem dX7_get_28 : decode cX7_get 28 = .ok (.iload_n 1, 1) := by decide +kernel
theorem dX7_get_29 : decode cX7_get 29 = .ok (.aload_n 0, 1) := by decide +kernel
theorem dX7_get_30 : decode cX7_get 30 = .ok (.getfield 18, 3) := by decide +kernel
theorem dX7_get_33 : decode cX7_get 33 = .ok (.imul, 1) := by decide +kernel
theorem dX7_get_34 : decode cX7_get 34 = .ok (.iload_n 2, 1) := by decide +kernel
theorem dX7_get_35 : decode cX7_get 35 = .ok (.iadd, 1) := by decide +kernel
theorem dX7_get_36 : decode cX7_get 36 = .ok (.iaload, 1) := by decide +kernel
theorem dX7_get_37 : decode cX7_get 37 = .ok (.goto 4, 3) := by decide +kernel
theorem dX7_get_40 : decode cX7_get 40 = .ok (.iconst (-1), 1) := by decide +kernel
theorem dX7_get_41 : decode cX7_get 41 = .ok (.ireturn, 1) := by decide +kernel
set_option maxRecDepth 20000 in
theorem T_X7_get {Q : Option Value → ah_T → Prop} {h : ah_T} (hs : Sh h) (t cc : Nat) (x1 : Int32) (x2 : Int32) (hk_t : ah_k h t = 7) (hk_cc : ah_k h cc = 14) (hr_t : ah_r h t 2 = some cc) (ht : ((x1 < 0 → Q (some (.int (-1))) h) ∧ (¬ x1 < 0 → (((ah_i h t 3) ≤ x1 → Q (some (.int (-1))) h) ∧ (¬ (ah_i h t 3) ≤ x1 → ((x2 < 0 → Q (some (.int (-1))) h) ∧ (¬ x2 < 0 → (((ah_i h t 1) ≤ x2 → Q (some (.int (-1))) h) ∧ (¬ (ah_i h t 1) ≤ x2 → (vp_in ((x1 * (ah_i h t 1)) + x2) (ah_n h cc)) ∧ Q (some (.int (ah_i h cc (Int32.toNatClampNeg ((x1 * (ah_i h t 1)) + x2))))) h))))))))) : Mt mX7_get [.ref t, .int x1, .int x2] h Q := by
  refine Mt.ofWp rfl (by exact (Nat.le_of_ble_eq_true rfl)) (Wp.fewer (L' := [some (.ref t), some (.int x1), some (.int x2)]) (show ab_leL _ _ from ⟨rfl, ⟨rfl, ⟨rfl, trivial⟩⟩⟩) ?_)
  refine ab_iload_n (i := 1) dX7_get_0 rfl rfl ?_
  refine ab_if_lt (tgt := 40) dX7_get_1 (by decide) (fun c1 => ?_) (fun c1 => ?_)
  · have ht := ht.1 c1
    refine ab_iconst (v := (-1)) dX7_get_40 (by decide) ?_
    exact ab_iret rfl dX7_get_41 (Nat.le_of_ble_eq_true rfl) (Nat.le_of_ble_eq_true rfl) ht
  · have ht := ht.2 c1
    refine ab_iload_n (i := 1) dX7_get_4 rfl rfl ?_
    refine ab_aload_n (i := 0) dX7_get_5 rfl rfl ?_
    refine ab_getI f_X7_9 rfl hk_t dX7_get_6 ?_
    refine ab_icmp_ge (tgt := 40) dX7_get_9 (by decide) (fun c2 => ?_) (fun c2 => ?_)
    · have ht := ht.1 c2
      refine ab_iconst (v := (-1)) dX7_get_40 (by decide) ?_
      exact ab_iret rfl dX7_get_41 (Nat.le_of_ble_eq_true rfl) (Nat.le_of_ble_eq_true rfl) ht
    · have ht := ht.2 c2
      refine ab_iload_n (i := 2) dX7_get_12 rfl rfl ?_
      refine ab_if_lt (tgt := 40) dX7_get_13 (by decide) (fun c3 => ?_) (fun c3 => ?_)
      · have ht := ht.1 c3
        refine ab_iconst (v := (-1)) dX7_get_40 (by decide) ?_
        exact ab_iret rfl dX7_get_41 (Nat.le_of_ble_eq_true rfl) (Nat.le_of_ble_eq_true rfl) ht
      · have ht := ht.2 c3
        refine ab_iload_n (i := 2) dX7_get_16 rfl rfl ?_
        refine ab_aload_n (i := 0) dX7_get_17 rfl rfl ?_
        refine ab_getI f_X7_18 rfl hk_t dX7_get_18 ?_
        refine ab_icmp_ge (tgt := 40) dX7_get_21 (by decide) (fun c4 => ?_) (fun c4 => ?_)
        · have ht := ht.1 c4
          refine ab_iconst (v := (-1)) dX7_get_40 (by decide) ?_
          exact ab_iret rfl dX7_get_41 (Nat.le_of_ble_eq_true rfl) (Nat.le_of_ble_eq_true rfl) ht
        · have ht := ht.2 c4
          refine ab_aload_n (i := 0) dX7_get_24 rfl rfl ?_
          refine ab_getR (b := cc) f_X7_21 rfl hk_t hr_t dX7_get_25 ?_
          refine ab_iload_n (i := 1) dX7_get_28 rfl rfl ?_
          refine ab_aload_n (i := 0) dX7_get_29 rfl rfl ?_
          refine ab_getI f_X7_18 rfl hk_t dX7_get_30 ?_
          refine ab_imul dX7_get_33 ?_
          refine ab_iload_n (i := 2) dX7_get_34 rfl rfl ?_
          refine ab_iadd dX7_get_35 ?_
          obtain ⟨hc5, ht⟩ := ht
          refine ab_iald hk_cc hc5 dX7_get_36 ?_
          refine ab_goto (tgt := 41) dX7_get_37 (by decide) ?_
          exact ab_iret rfl dX7_get_41 (Nat.le_of_ble_eq_true rfl) (Nat.le_of_ble_eq_true rfl) ht
theorem dX7_swap_0 : decode cX7_swap 0 = .ok (.iload_n 1, 1) := by decide +kernel
theorem dX7_swap_1 : decode cX7_swap 1 = .ok (.ifCond .lt 23, 3) := by decide +kernel
theorem dX7_swap_4 : decode cX7_swap 4 = .ok (.iload_n 1, 1) := by decide +kernel
theorem dX7_swap_5 : decode cX7_swap 5 = .ok (.aload_n 0, 1) := by decide +kernel
theorem dX7_swap_6 : decode cX7_swap 6 = .ok (.getfield 9, 3) := by decide +kernel
theorem dX7_swap_9 : decode cX7_swap 9 = .ok (.if_icmp .ge 15, 3) := by decide +kernel
theorem dX7_swap_12 : decode cX7_swap 12 = .ok (.iload_n 2, 1) := by decide +kernel
theorem dX7_swap_13 : decode cX7_swap 13 = .ok (.ifCond .lt 11, 3) := by decide +kernel
theorem dX7_swap_16 : decode cX7_swap 16 = .ok (.iload_n 2, 1) := by decide +kernel
theorem dX7_swap_17 : decode cX7_swap 17 = .ok (.aload_n 0, 1) := by decide +kernel
theorem dX7_swap_18 : decode cX7_swap 18 = .ok (.getfield 18, 3) := by decide +kernel
theorem dX7_swap_21 : decode cX7_swap 21 = .ok (.if_icmp .lt 5, 3) := by decide +kernel
theorem dX7_swap_24 : decode cX7_swap 24 = .ok (.iconst (-1), 1) := by decide +kernel
theorem dX7_swap_25 : decode cX7_swap 25 = .ok (.ireturn, 1) := by decide +kernel
theorem dX7_swap_26 : decode cX7_swap 26 = .ok (.aload_n 0, 1) := by decide +kernel
theorem dX7_swap_27 : decode cX7_swap 27 = .ok (.getfield 21, 3) := by decide +kernel
theorem dX7_swap_30 : decode cX7_swap 30 = .ok (.iload_n 1, 1) := by decide +kernel
theorem dX7_swap_31 : decode cX7_swap 31 = .ok (.aload_n 0, 1) := by decide +kernel
theorem dX7_swap_32 : decode cX7_swap 32 = .ok (.getfield 18, 3) := by decide +kernel
theorem dX7_swap_35 : decode cX7_swap 35 = .ok (.imul, 1) := by decide +kernel
theorem dX7_swap_36 : decode cX7_swap 36 = .ok (.iload_n 2, 1) := by decide +kernel
theorem dX7_swap_37 : decode cX7_swap 37 = .ok (.iadd, 1) := by decide +kernel
theorem dX7_swap_38 : decode cX7_swap 38 = .ok (.iaload, 1) := by decide +kernel
theorem dX7_swap_39 : decode cX7_swap 39 = .ok (.istore 4, 2) := by decide +kernel
theorem dX7_swap_41 : decode cX7_swap 41 = .ok (.aload_n 0, 1) := by decide +kernel
theorem dX7_swap_42 : decode cX7_swap 42 = .ok (.getfield 21, 3) := by decide +kernel
theorem dX7_swap_45 : decode cX7_swap 45 = .ok (.iload_n 1, 1) := by decide +kernel
theorem dX7_swap_46 : decode cX7_swap 46 = .ok (.aload_n 0, 1) := by decide +kernel
theorem dX7_swap_47 : decode cX7_swap 47 = .ok (.getfield 18, 3) := by decide +kernel
theorem dX7_swap_50 : decode cX7_swap 50 = .ok (.imul, 1) := by decide +kernel
theorem dX7_swap_51 : decode cX7_swap 51 = .ok (.iload_n 2, 1) := by decide +kernel
theorem dX7_swap_52 : decode cX7_swap 52 = .ok (.iadd, 1) := by decide +kernel
theorem dX7_swap_53 : decode cX7_swap 53 = .ok (.iload_n 3, 1) := by decide +kernel
theorem dX7_swap_54 : decode cX7_swap 54 = .ok (.iastore, 1) := by decide +kernel
theorem dX7_swap_55 : decode cX7_swap 55 = .ok (.iload 4, 2) := by decide +kernel
theorem dX7_swap_57 : decode cX7_swap 57 = .ok (.ireturn, 1) := by decide +kernel
set_option maxRecDepth 20000 in
theorem T_X7_swap {Q : Option Value → ah_T → Prop} {h : ah_T} (hs : Sh h) (t cc : Nat) (x1 : Int32) (x2 : Int32) (x3 : Int32) (hk_t : ah_k h t = 7) (hk_cc : ah_k h cc = 14) (hr_t : ah_r h t 2 = some cc) (ht : ((x1 < 0 → Q (some (.int (-1))) h) ∧ (¬ x1 < 0 → (((ah_i h t 3) ≤ x1 → Q (some (.int (-1))) h) ∧ (¬ (ah_i h t 3) ≤ x1 → ((x2 < 0 → Q (some (.int (-1))) h) ∧ (¬ x2 < 0 → ((x2 < (ah_i h t 1) → (vp_in ((x1 * (ah_i h t 1)) + x2) (ah_n h cc)) ∧ (vp_in ((x1 * (ah_i h t 1)) + x2) (ah_n h cc)) ∧ (∀ h7, h7 = ah_si h cc (Int32.toNatClampNeg ((x1 * (ah_i h t 1)) + x2)) x3 → Q (some (.int (ah_i h cc (Int32.toNatClampNeg ((x1 * (ah_i h t 1)) + x2))))) h7)) ∧ (¬ x2 < (ah_i h t 1) → Q (some (.int (-1))) h))))))))) : Mt mX7_swap [.ref t, .int x1, .int x2, .int x3] h Q := by
  refine Mt.ofWp rfl (by exact (Nat.le_of_ble_eq_true rfl)) (Wp.fewer (L' := [some (.ref t), some (.int x1), some (.int x2), some (.int x3), none]) (show ab_leL _ _ from ⟨rfl, ⟨rfl, ⟨rfl, ⟨rfl, trivial⟩⟩⟩⟩) ?_)
  refine ab_iload_n (i := 1) dX7_swap_0 rfl rfl ?_
  refine ab_if_lt (tgt := 24) dX7_swap_1 (by decide) (fun c1 => ?_) (fun c1 => ?_)
  · have ht := ht.1 c1
    refine ab_iconst (v := (-1)) dX7_swap_24 (by decide) ?_
    exact ab_iret rfl dX7_swap_25 (Nat.le_of_ble_eq_true rfl) (Nat.le_of_ble_eq_true rfl) ht
  · have ht := ht.2 c1
    refine ab_iload_n (i := 1) dX7_swap_4 rfl rfl ?_
    refine ab_aload_n (i := 0) dX7_swap_5 rfl rfl ?_
    refine ab_getI f_X7_9 rfl hk_t dX7_swap_6 ?_
    refine ab_icmp_ge (tgt := 24) dX7_swap_9 (by decide) (fun c2 => ?_) (fun c2 => ?_)
    · have ht := ht.1 c2
      refine ab_iconst (v := (-1)) dX7_swap_24 (by decide) ?_
      exact ab_iret rfl dX7_swap_25 (Nat.le_of_ble_eq_true rfl) (Nat.le_of_ble_eq_true rfl) ht
    · have ht := ht.2 c2
      refine ab_iload_n (i := 2) dX7_swap_12 rfl rfl ?_
      refine ab_if_lt (tgt := 24) dX7_swap_13 (by decide) (fun c3 => ?_) (fun c3 => ?_)
      · have ht := ht.1 c3
        refine ab_iconst (v := (-1)) dX7_swap_24 (by decide) ?_
        exact ab_iret rfl dX7_swap_25 (Nat.le_of_ble_eq_true rfl) (Nat.le_of_ble_eq_true rfl) ht
      · have ht := ht.2 c3
        refine ab_iload_n (i := 2) dX7_swap_16 rfl rfl ?_
        refine ab_aload_n (i := 0) dX7_swap_17 rfl rfl ?_
        refine ab_getI f_X7_18 rfl hk_t dX7_swap_18 ?_
        refine ab_icmp_lt (tgt := 26) dX7_swap_21 (by decide) (fun c4 => ?_) (fun c4 => ?_)
        · have ht := ht.1 c4
          refine ab_aload_n (i := 0) dX7_swap_26 rfl rfl ?_
          refine ab_getR (b := cc) f_X7_21 rfl hk_t hr_t dX7_swap_27 ?_
          refine ab_iload_n (i := 1) dX7_swap_30 rfl rfl ?_
          refine ab_aload_n (i := 0) dX7_swap_31 rfl rfl ?_
          refine ab_getI f_X7_18 rfl hk_t dX7_swap_32 ?_
          refine ab_imul dX7_swap_35 ?_
          refine ab_iload_n (i := 2) dX7_swap_36 rfl rfl ?_
          refine ab_iadd dX7_swap_37 ?_
          obtain ⟨hc5, ht⟩ := ht
          refine ab_iald hk_cc hc5 dX7_swap_38 ?_
          refine ab_istore (i := 4) (L' := [some (.ref t), some (.int x1), some (.int x2), some (.int x3), some (.int (ah_i h cc (Int32.toNatClampNeg ((x1 * (ah_i h t 1)) + x2))))]) dX7_swap_39 (by exact (Nat.le_of_ble_eq_true rfl)) rfl rfl ?_
          refine ab_aload_n (i := 0) dX7_swap_41 rfl rfl ?_
          refine ab_getR (b := cc) f_X7_21 rfl hk_t hr_t dX7_swap_42 ?_
          refine ab_iload_n (i := 1) dX7_swap_45 rfl rfl ?_
          refine ab_aload_n (i := 0) dX7_swap_46 rfl rfl ?_
          refine ab_getI f_X7_18 rfl hk_t dX7_swap_47 ?_
          refine ab_imul dX7_swap_50 ?_
          refine ab_iload_n (i := 2) dX7_swap_51 rfl rfl ?_
          refine ab_iadd dX7_swap_52 ?_
          refine ab_iload_n (i := 3) dX7_swap_53 rfl rfl ?_
          obtain ⟨hc6, ht⟩ := ht
          refine ab_iast hk_cc hc6 dX7_swap_54 ?_
          refine Wp.nm fun h7 e8 => ?_
          have ht := ht h7 e8
          have hs9 : Sh h7 := by rw [e8]; exact sh_si hs
          have hk10 : ah_k h7 t = 7 := by rw [e8]; exact hk_t
          have hk11 : ah_k h7 cc = 14 := by rw [e8]; exact hk_cc
          have hr12 : ah_r h7 t 2 = some cc := by rw [e8]; exact hr_t
          refine ab_iload (i := 4) dX7_swap_55 rfl ?_
          exact ab_iret rfl dX7_swap_57 (Nat.le_of_ble_eq_true rfl) (Nat.le_of_ble_eq_true rfl) ht
        · have ht := ht.2 c4
          refine ab_iconst (v := (-1)) dX7_swap_24 (by decide) ?_
          exact ab_iret rfl dX7_swap_25 (Nat.le_of_ble_eq_true rfl) (Nat.le_of_ble_eq_true rfl) ht
theorem dX7_add_0 : decode cX7_add 0 = .ok (.aload_n 0, 1) := by decide +kernel
theorem dX7_add_1 : decode cX7_add 1 = .ok (.getfield 9, 3) := by decide +kernel
theorem dX7_add_4 : decode cX7_add 4 = .ok (.aload_n 0, 1) := by decide +kernel
theorem dX7_add_5 : decode cX7_add 5 = .ok (.getfield 18, 3) := by decide +kernel
theorem dX7_add_8 : decode cX7_add 8 = .ok (.imul, 1) := by decide +kernel
theorem dX7_add_9 : decode cX7_add 9 = .ok (.istore 4, 2) := by decide +kernel
theorem dX7_add_11 : decode cX7_add 11 = .ok (.aload_n 0, 1) := by decide +kernel
theorem dX7_add_12 : decode cX7_add 12 = .ok (.getfield 9, 3) := by decide +kernel
theorem dX7_add_15 : decode cX7_add 15 = .ok (.aload_n 0, 1) := by decide +kernel
theorem dX7_add_16 : decode cX7_add 16 = .ok (.getfield 15, 3) := by decide +kernel
theorem dX7_add_19 : decode cX7_add 19 = .ok (.if_icmp .ge 26, 3) := by decide +kernel
theorem dX7_add_22 : decode cX7_add 22 = .ok (.aload_n 0, 1) := by decide +kernel
theorem dX7_add_23 : decode cX7_add 23 = .ok (.getfield 18, 3) := by decide +kernel
theorem dX7_add_26 : decode cX7_add 26 = .ok (.iconst 3, 1) := by decide +kernel
theorem dX7_add_27 : decode cX7_add 27 = .ok (.if_icmp .lt 18, 3) := by decide +kernel
theorem dX7_add_30 : decode cX7_add 30 = .ok (.iload 4, 2) := by decide +kernel
theorem dX7_add_32 : decode cX7_add 32 = .ok (.aload_n 0, 1) := by decide +kernel
theorem dX7_add_33 : decode cX7_add 33 = .ok (.getfield 18, 3) := by decide +kernel
theorem dX7_add_36 : decode cX7_add 36 = .ok (.iadd, 1) := by decide +kernel
theorem dX7_add_37 : decode cX7_add 37 = .ok (.aload_n 0, 1) := by decide +kernel
theorem dX7_add_38 : decode cX7_add 38 = .ok (.getfield 21, 3) := by decide +kernel
theorem dX7_add_41 : decode cX7_add 41 = .ok (.arraylength, 1) := by decide +kernel
theorem dX7_add_42 : decode cX7_add 42 = .ok (.if_icmp .le 5, 3) := by decide +kernel
theorem dX7_add_45 : decode cX7_add 45 = .ok (.iconst (-1), 1) := by decide +kernel
theorem dX7_add_46 : decode cX7_add 46 = .ok (.ireturn, 1) := by decide +kernel
theorem dX7_add_47 : decode cX7_add 47 = .ok (.aload_n 0, 1) := by decide +kernel
theorem dX7_add_48 : decode cX7_add 48 = .ok (.getfield 21, 3) := by decide +kernel
theorem dX7_add_51 : decode cX7_add 51 = .ok (.iload 4, 2) := by decide +kernel
theorem dX7_add_53 : decode cX7_add 53 = .ok (.iload 4, 2) := by decide +kernel
theorem dX7_add_55 : decode cX7_add 55 = .ok (.aload_n 0, 1) := by decide +kernel
theorem dX7_add_56 : decode cX7_add 56 = .ok (.getfield 18, 3) := by decide +kernel
theorem dX7_add_59 : decode cX7_add 59 = .ok (.iadd, 1) := by decide +kernel
theorem dX7_add_60 : decode cX7_add 60 = .ok (.iconst 0, 1) := by decide +kernel
theorem dX7_add_61 : decode cX7_add 61 = .ok (.invokestatic 25, 3) := by decide +kernel
theorem dX7_add_64 : decode cX7_add 64 = .ok (.aload_n 0, 1) := by decide +kernel
theorem dX7_add_65 : decode cX7_add 65 = .ok (.getfield 21, 3) := by decide +kernel
theorem dX7_add_68 : decode cX7_add 68 = .ok (.iload 4, 2) := by decide +kernel
theorem dX7_add_70 : decode cX7_add 70 = .ok (.iload_n 1, 1) := by decide +kernel
theorem dX7_add_71 : decode cX7_add 71 = .ok (.iastore, 1) := by decide +kernel
theorem dX7_add_72 : decode cX7_add 72 = .ok (.aload_n 0, 1) := by decide +kernel
theorem dX7_add_73 : decode cX7_add 73 = .ok (.getfield 21, 3) := by decide +kernel
theorem dX7_add_76 : decode cX7_add 76 = .ok (.iload 4, 2) := by decide +kernel
theorem dX7_add_78 : decode cX7_add 78 = .ok (.iconst 1, 1) := by decide +kernel
theorem dX7_add_79 : decode cX7_add 79 = .ok (.iadd, 1) := by decide +kernel
theorem dX7_add_80 : decode cX7_add 80 = .ok (.iload_n 2, 1) := by decide +kernel
theorem dX7_add_81 : decode cX7_add 81 = .ok (.iastore, 1) := by decide +kernel
theorem dX7_add_82 : decode cX7_add 82 = .ok (.aload_n 0, 1) := by decide +kernel
theorem dX7_add_83 : decode cX7_add 83 = .ok (.getfield 21, 3) := by decide +kernel
theorem dX7_add_86 : decode cX7_add 86 = .ok (.iload 4, 2) := by decide +kernel
theorem dX7_add_88 : decode cX7_add 88 = .ok (.iconst 2, 1) := by decide +kernel
theorem dX7_add_89 : decode cX7_add 89 = .ok (.iadd, 1) := by decide +kernel
theorem dX7_add_90 : decode cX7_add 90 = .ok (.iload_n 3, 1) := by decide +kernel
theorem dX7_add_91 : decode cX7_add 91 = .ok (.iastore, 1) := by decide +kernel
theorem dX7_add_92 : decode cX7_add 92 = .ok (.aload_n 0, 1) := by decide +kernel
theorem dX7_add_93 : decode cX7_add 93 = .ok (.dup, 1) := by decide +kernel
theorem dX7_add_94 : decode cX7_add 94 = .ok (.getfield 9, 3) := by decide +kernel
theorem dX7_add_97 : decode cX7_add 97 = .ok (.iconst 1, 1) := by decide +kernel
theorem dX7_add_98 : decode cX7_add 98 = .ok (.iadd, 1) := by decide +kernel
theorem dX7_add_99 : decode cX7_add 99 = .ok (.putfield 9, 3) := by decide +kernel
theorem dX7_add_102 : decode cX7_add 102 = .ok (.aload_n 0, 1) := by decide +kernel
theorem dX7_add_103 : decode cX7_add 103 = .ok (.getfield 9, 3) := by decide +kernel
theorem dX7_add_106 : decode cX7_add 106 = .ok (.iconst 1, 1) := by decide +kernel
theorem dX7_add_107 : decode cX7_add 107 = .ok (.isub, 1) := by decide +kernel
theorem dX7_add_108 : decode cX7_add 108 = .ok (.ireturn, 1) := by decide +kernel
set_option maxRecDepth 20000 in
theorem T_X7_add {Q : Option Value → ah_T → Prop} {h : ah_T} (hs : Sh h) (t cc : Nat) (x1 : Int32) (x2 : Int32) (x3 : Int32) (hk_t : ah_k h t = 7) (hk_cc : ah_k h cc = 14) (hr_t : ah_r h t 2 = some cc) (ht : (((ah_i h t 0) ≤ (ah_i h t 3) → Q (some (.int (-1))) h) ∧ (¬ (ah_i h t 0) ≤ (ah_i h t 3) → (((ah_i h t 1) < 3 → Q (some (.int (-1))) h) ∧ (¬ (ah_i h t 1) < 3 → (((((ah_i h t 3) * (ah_i h t 1)) + (ah_i h t 1)) ≤ (Int32.ofNat (ah_n h cc)) → (Mt mJ7_fill_fda19 [.ref cc, .int ((ah_i h t 3) * (ah_i h t 1)), .int (((ah_i h t 3) * (ah_i h t 1)) + (ah_i h t 1)), .int 0] h (ab_qv fun h4 => Sh h4 ∧ ah_k h4 t = 7 ∧ ah_r h4 t 2 = some cc ∧ ah_k h4 cc = 14 ∧ (vp_in ((ah_i h t 3) * (ah_i h t 1)) (ah_n h4 cc)) ∧ (∀ h11, h11 = ah_si h4 cc (Int32.toNatClampNeg ((ah_i h t 3) * (ah_i h t 1))) x1 → (vp_in (((ah_i h t 3) * (ah_i h t 1)) + 1) (ah_n h11 cc)) ∧ (∀ h18, h18 = ah_si h11 cc (Int32.toNatClampNeg (((ah_i h t 3) * (ah_i h t 1)) + 1)) x2 → (vp_in (((ah_i h t 3) * (ah_i h t 1)) + 2) (ah_n h18 cc)) ∧ (∀ h25, h25 = ah_si h18 cc (Int32.toNatClampNeg (((ah_i h t 3) * (ah_i h t 1)) + 2)) x3 → (∀ h31, h31 = ah_si h25 t 3 ((ah_i h25 t 3) + 1) → Q (some (.int ((ah_i h31 t 3) - 1))) h31))))))) ∧ (¬ (((ah_i h t 3) * (ah_i h t 1)) + (ah_i h t 1)) ≤ (Int32.ofNat (ah_n h cc)) → Q (some (.int (-1))) h))))))) : Mt mX7_add [.ref t, .int x1, .int x2, .int x3] h Q := by
  refine Mt.ofWp rfl (by exact (Nat.le_of_ble_eq_true rfl)) (Wp.fewer (L' := [some (.ref t), some (.int x1), some (.int x2), some (.int x3), none]) (show ab_leL _ _ from ⟨rfl, ⟨rfl, ⟨rfl, ⟨rfl, trivial⟩⟩⟩⟩) ?_)
  refine ab_aload_n (i := 0) dX7_add_0 rfl rfl ?_
  refine ab_getI f_X7_9 rfl hk_t dX7_add_1 ?_
  refine ab_aload_n (i := 0) dX7_add_4 rfl rfl ?_
  refine ab_getI f_X7_18 rfl hk_t dX7_add_5 ?_
  refine ab_imul dX7_add_8 ?_
  refine ab_istore (i := 4) (L' := [some (.ref t), some (.int x1), some (.int x2), some (.int x3), some (.int ((ah_i h t 3) * (ah_i h t 1)))]) dX7_add_9 (by exact (Nat.le_of_ble_eq_true rfl)) rfl rfl ?_
  refine ab_aload_n (i := 0) dX7_add_11 rfl rfl ?_
  refine ab_getI f_X7_9 rfl hk_t dX7_add_12 ?_
  refine ab_aload_n (i := 0) dX7_add_15 rfl rfl ?_
  refine ab_getI f_X7_15 rfl hk_t dX7_add_16 ?_
  refine ab_icmp_ge (tgt := 45) dX7_add_19 (by decide) (fun c1 => ?_) (fun c1 => ?_)
  · have ht := ht.1 c1
    refine ab_iconst (v := (-1)) dX7_add_45 (by decide) ?_
    exact ab_iret rfl dX7_add_46 (Nat.le_of_ble_eq_true rfl) (Nat.le_of_ble_eq_true rfl) ht
  · have ht := ht.2 c1
    refine ab_aload_n (i := 0) dX7_add_22 rfl rfl ?_
    refine ab_getI f_X7_18 rfl hk_t dX7_add_23 ?_
    refine ab_iconst (v := 3) dX7_add_26 (by decide) ?_
    refine ab_icmp_lt (tgt := 45) dX7_add_27 (by decide) (fun c2 => ?_) (fun c2 => ?_)
    · have ht := ht.1 c2
      refine ab_iconst (v := (-1)) dX7_add_45 (by decide) ?_
      exact ab_iret rfl dX7_add_46 (Nat.le_of_ble_eq_true rfl) (Nat.le_of_ble_eq_true rfl) ht
    · have ht := ht.2 c2
      refine ab_iload (i := 4) dX7_add_30 rfl ?_
      refine ab_aload_n (i := 0) dX7_add_32 rfl rfl ?_
      refine ab_getI f_X7_18 rfl hk_t dX7_add_33 ?_
      refine ab_iadd dX7_add_36 ?_
      refine ab_aload_n (i := 0) dX7_add_37 rfl rfl ?_
      refine ab_getR (b := cc) f_X7_21 rfl hk_t hr_t dX7_add_38 ?_
      refine ab_alen 14 (by decide) hk_cc rfl dX7_add_41 ?_
      refine ab_icmp_le (tgt := 47) dX7_add_42 (by decide) (fun c3 => ?_) (fun c3 => ?_)
      · have ht := ht.1 c3
        refine ab_aload_n (i := 0) dX7_add_47 rfl rfl ?_
        refine ab_getR (b := cc) f_X7_21 rfl hk_t hr_t dX7_add_48 ?_
        refine ab_iload (i := 4) dX7_add_51 rfl ?_
        refine ab_iload (i := 4) dX7_add_53 rfl ?_
        refine ab_aload_n (i := 0) dX7_add_55 rfl rfl ?_
        refine ab_getI f_X7_18 rfl hk_t dX7_add_56 ?_
        refine ab_iadd dX7_add_59 ?_
        refine ab_iconst (v := 0) dX7_add_60 (by decide) ?_
        refine ab_callS (As := [.ref cc, .int ((ah_i h t 3) * (ah_i h t 1)), .int (((ah_i h t 3) * (ah_i h t 1)) + (ah_i h t 1)), .int 0]) ht (Y_J7_fill_fda19) l_X7_25 st_J7_fill_fda19 rfl ⟨(Nat.le_of_ble_eq_true rfl), (Nat.le_of_ble_eq_true rfl), (Nat.le_of_ble_eq_true rfl), (Nat.le_of_ble_eq_true rfl)⟩ dX7_add_61 ?_
        rintro _ h4 ⟨rfl, hs5, hk7, hr8, hk9, ht⟩
        refine ab_aload_n (i := 0) dX7_add_64 rfl rfl ?_
        refine ab_getR (b := cc) f_X7_21 rfl hk7 hr8 dX7_add_65 ?_
        refine ab_iload (i := 4) dX7_add_68 rfl ?_
        refine ab_iload_n (i := 1) dX7_add_70 rfl rfl ?_
        obtain ⟨hc10, ht⟩ := ht
        refine ab_iast hk9 hc10 dX7_add_71 ?_
        refine Wp.nm fun h11 e12 => ?_
        have ht := ht h11 e12
        have hs13 : Sh h11 := by rw [e12]; exact sh_si hs5
        have hk14 : ah_k h11 t = 7 := by rw [e12]; exact hk7
        have hk15 : ah_k h11 cc = 14 := by rw [e12]; exact hk9
        have hr16 : ah_r h11 t 2 = some cc := by rw [e12]; exact hr8
        refine ab_aload_n (i := 0) dX7_add_72 rfl rfl ?_
        refine ab_getR (b := cc) f_X7_21 rfl hk14 hr16 dX7_add_73 ?_
        refine ab_iload (i := 4) dX7_add_76 rfl ?_
        refine ab_iconst (v := 1) dX7_add_78 (by decide) ?_
        refine ab_iadd dX7_add_79 ?_
        refine ab_iload_n (i := 2) dX7_add_80 rfl rfl ?_
        obtain ⟨hc17, ht⟩ := ht
        refine ab_iast hk15 hc17 dX7_add_81 ?_
        refine Wp.nm fun h18 e19 => ?_
        have ht := ht h18 e19
        have hs20 : Sh h18 := by rw [e19]; exact sh_si hs13
        have hk21 : ah_k h18 t = 7 := by rw [e19]; exact hk14
        have hk22 : ah_k h18 cc = 14 := by rw [e19]; exact hk15
        have hr23 : ah_r h18 t 2 = some cc := by rw [e19]; exact hr16
        refine ab_aload_n (i := 0) dX7_add_82 rfl rfl ?_
        refine ab_getR (b := cc) f_X7_21 rfl hk21 hr23 dX7_add_83 ?_
        refine ab_iload (i := 4) dX7_add_86 rfl ?_
        refine ab_iconst (v := 2) dX7_add_88 (by decide) ?_
        refine ab_iadd dX7_add_89 ?_
        refine ab_iload_n (i := 3) dX7_add_90 rfl rfl ?_
        obtain ⟨hc24, ht⟩ := ht
        refine ab_iast hk22 hc24 dX7_add_91 ?_
        refine Wp.nm fun h25 e26 => ?_
        have ht := ht h25 e26
        have hs27 : Sh h25 := by rw [e26]; exact sh_si hs20
        have hk28 : ah_k h25 t = 7 := by rw [e26]; exact hk21
        have hk29 : ah_k h25 cc = 14 := by rw [e26]; exact hk22
        have hr30 : ah_r h25 t 2 = some cc := by rw [e26]; exact hr23
        refine ab_aload_n (i := 0) dX7_add_92 rfl rfl ?_
        refine ab_dup dX7_add_93 rfl ?_
        refine ab_getI f_X7_9 rfl hk28 dX7_add_94 ?_
        refine ab_iconst (v := 1) dX7_add_97 (by decide) ?_
        refine ab_iadd dX7_add_98 ?_
        refine ab_putI f_X7_9 (Or.inl rfl) rfl hk28 rfl rfl dX7_add_99 ?_
        refine Wp.nm fun h31 e32 => ?_
        have ht := ht h31 e32
        have hs33 : Sh h31 := by rw [e32]; exact sh_si hs27
        have hk34 : ah_k h31 t = 7 := by rw [e32]; exact hk28
        have hk35 : ah_k h31 cc = 14 := by rw [e32]; exact hk29
        have hr36 : ah_r h31 t 2 = some cc := by rw [e32]; exact hr30
        refine ab_aload_n (i := 0) dX7_add_102 rfl rfl ?_
        refine ab_getI f_X7_9 rfl hk34 dX7_add_103 ?_
        refine ab_iconst (v := 1) dX7_add_106 (by decide) ?_
        refine ab_isub dX7_add_107 ?_
        exact ab_iret rfl dX7_add_108 (Nat.le_of_ble_eq_true rfl) (Nat.le_of_ble_eq_true rfl) ht
      · have ht := ht.2 c3
        refine ab_iconst (v := (-1)) dX7_add_45 (by decide) ?_
        exact ab_iret rfl dX7_add_46 (Nat.le_of_ble_eq_true rfl) (Nat.le_of_ble_eq_true rfl) ht
theorem dX7_list_0 : decode cX7_list 0 = .ok (.aload_n 0, 1) := by decide +kernel
theorem dX7_list_1 : decode cX7_list 1 = .ok (.getfield 18, 3) := by decide +kernel
theorem dX7_list_4 : decode cX7_list 4 = .ok (.iconst 1, 1) := by decide +kernel
theorem dX7_list_5 : decode cX7_list 5 = .ok (.if_icmp .ne 35, 3) := by decide +kernel
theorem dX7_list_8 : decode cX7_list 8 = .ok (.aload_n 0, 1) := by decide +kernel
theorem dX7_list_9 : decode cX7_list 9 = .ok (.getfield 9, 3) := by decide +kernel
theorem dX7_list_12 : decode cX7_list 12 = .ok (.aload_n 0, 1) := by decide +kernel
theorem dX7_list_13 : decode cX7_list 13 = .ok (.getfield 21, 3) := by decide +kernel
theorem dX7_list_16 : decode cX7_list 16 = .ok (.arraylength, 1) := by decide +kernel
theorem dX7_list_17 : decode cX7_list 17 = .ok (.if_icmp .ge 23, 3) := by decide +kernel
theorem dX7_list_20 : decode cX7_list 20 = .ok (.aload_n 0, 1) := by decide +kernel
theorem dX7_list_21 : decode cX7_list 21 = .ok (.getfield 21, 3) := by decide +kernel
theorem dX7_list_24 : decode cX7_list 24 = .ok (.aload_n 0, 1) := by decide +kernel
theorem dX7_list_25 : decode cX7_list 25 = .ok (.getfield 9, 3) := by decide +kernel
theorem dX7_list_28 : decode cX7_list 28 = .ok (.iload_n 1, 1) := by decide +kernel
theorem dX7_list_29 : decode cX7_list 29 = .ok (.iastore, 1) := by decide +kernel
theorem dX7_list_30 : decode cX7_list 30 = .ok (.aload_n 0, 1) := by decide +kernel
theorem dX7_list_31 : decode cX7_list 31 = .ok (.dup, 1) := by decide +kernel
theorem dX7_list_32 : decode cX7_list 32 = .ok (.getfield 9, 3) := by decide +kernel
theorem dX7_list_35 : decode cX7_list 35 = .ok (.iconst 1, 1) := by decide +kernel
theorem dX7_list_36 : decode cX7_list 36 = .ok (.iadd, 1) := by decide +kernel
theorem dX7_list_37 : decode cX7_list 37 = .ok (.putfield 9, 3) := by decide +kernel
theorem dX7_list_40 : decode cX7_list 40 = .ok (.return_, 1) := by decide +kernel
set_option maxRecDepth 20000 in
theorem T_X7_list {Q : Option Value → ah_T → Prop} {h : ah_T} (hs : Sh h) (t cc : Nat) (x1 : Int32) (hk_t : ah_k h t = 7) (hk_cc : ah_k h cc = 14) (hr_t : ah_r h t 2 = some cc) (ht : ((¬ (ah_i h t 1) = 1 → Q none h) ∧ ((ah_i h t 1) = 1 → (((Int32.ofNat (ah_n h cc)) ≤ (ah_i h t 3) → Q none h) ∧ (¬ (Int32.ofNat (ah_n h cc)) ≤ (ah_i h t 3) → (vp_in (ah_i h t 3) (ah_n h cc)) ∧ (∀ h4, h4 = ah_si h cc (Int32.toNatClampNeg (ah_i h t 3)) x1 → (∀ h10, h10 = ah_si h4 t 3 ((ah_i h4 t 3) + 1) → Q none h10))))))) : Mt mX7_list [.ref t, .int x1] h Q := by
  refine Mt.ofWp rfl (by exact (Nat.le_of_ble_eq_true rfl)) (Wp.fewer (L' := [some (.ref t), some (.int x1)]) (show ab_leL _ _ from ⟨rfl, ⟨rfl, trivial⟩⟩) ?_)
  refine ab_aload_n (i := 0) dX7_list_0 rfl rfl ?_
  refine ab_getI f_X7_18 rfl hk_t dX7_list_1 ?_
  refine ab_iconst (v := 1) dX7_list_4 (by decide) ?_
  refine ab_icmp_ne (tgt := 40) dX7_list_5 (by decide) (fun c1 => ?_) (fun c1 => ?_)
  · have ht := ht.1 c1
    exact ab_vret rfl dX7_list_40 (Nat.le_of_ble_eq_true rfl) (Nat.le_of_ble_eq_true rfl) ht
  · have ht := ht.2 c1
    refine ab_aload_n (i := 0) dX7_list_8 rfl rfl ?_
    refine ab_getI f_X7_9 rfl hk_t dX7_list_9 ?_
    refine ab_aload_n (i := 0) dX7_list_12 rfl rfl ?_
    refine ab_getR (b := cc) f_X7_21 rfl hk_t hr_t dX7_list_13 ?_
    refine ab_alen 14 (by decide) hk_cc rfl dX7_list_16 ?_
    refine ab_icmp_ge (tgt := 40) dX7_list_17 (by decide) (fun c2 => ?_) (fun c2 => ?_)
    · have ht := ht.1 c2
      exact ab_vret rfl dX7_list_40 (Nat.le_of_ble_eq_true rfl) (Nat.le_of_ble_eq_true rfl) ht
    · have ht := ht.2 c2
      refine ab_aload_n (i := 0) dX7_list_20 rfl rfl ?_
      refine ab_getR (b := cc) f_X7_21 rfl hk_t hr_t dX7_list_21 ?_
      refine ab_aload_n (i := 0) dX7_list_24 rfl rfl ?_
      refine ab_getI f_X7_9 rfl hk_t dX7_list_25 ?_
      refine ab_iload_n (i := 1) dX7_list_28 rfl rfl ?_
      obtain ⟨hc3, ht⟩ := ht
      refine ab_iast hk_cc hc3 dX7_list_29 ?_
      refine Wp.nm fun h4 e5 => ?_
      have ht := ht h4 e5
      have hs6 : Sh h4 := by rw [e5]; exact sh_si hs
      have hk7 : ah_k h4 t = 7 := by rw [e5]; exact hk_t
      have hk8 : ah_k h4 cc = 14 := by rw [e5]; exact hk_cc
      have hr9 : ah_r h4 t 2 = some cc := by rw [e5]; exact hr_t
      refine ab_aload_n (i := 0) dX7_list_30 rfl rfl ?_
      refine ab_dup dX7_list_31 rfl ?_
      refine ab_getI f_X7_9 rfl hk7 dX7_list_32 ?_
      refine ab_iconst (v := 1) dX7_list_35 (by decide) ?_
      refine ab_iadd dX7_list_36 ?_
      refine ab_putI f_X7_9 (Or.inl rfl) rfl hk7 rfl rfl dX7_list_37 ?_
      refine Wp.nm fun h10 e11 => ?_
      have ht := ht h10 e11
      have hs12 : Sh h10 := by rw [e11]; exact sh_si hs6
      have hk13 : ah_k h10 t = 7 := by rw [e11]; exact hk7
      have hk14 : ah_k h10 cc = 14 := by rw [e11]; exact hk8
      have hr15 : ah_r h10 t 2 = some cc := by rw [e11]; exact hr9
      exact ab_vret rfl dX7_list_40 (Nat.le_of_ble_eq_true rfl) (Nat.le_of_ble_eq_true rfl) ht
theorem dX7_pick_0 : decode cX7_pick 0 = .ok (.iload_n 1, 1) := by decide +kernel
theorem dX7_pick_1 : decode cX7_pick 1 = .ok (.iconst (-1), 1) := by decide +kernel
theorem dX7_pick_2 : decode cX7_pick 2 = .ok (.if_icmp .ne 10, 3) := by decide +kernel
theorem dX7_pick_5 : decode cX7_pick 5 = .ok (.aload_n 0, 1) := by decide +kernel
theorem dX7_pick_6 : decode cX7_pick 6 = .ok (.getfield 9, 3) := by decide +kernel
theorem dX7_pick_9 : decode cX7_pick 9 = .ok (.goto 9, 3) := by decide +kernel
theorem dX7_pick_12 : decode cX7_pick 12 = .ok (.aload_n 0, 1) := by decide +kernel
theorem dX7_pick_13 : decode cX7_pick 13 = .ok (.iload_n 1, 1) := by decide +kernel
theorem dX7_pick_14 : decode cX7_pick 14 = .ok (.iconst 0, 1) := by decide +kernel
theorem dX7_pick_15 : decode cX7_pick 15 = .ok (.invokevirtual 31, 3) := by decide +kernel
theorem dX7_pick_18 : decode cX7_pick 18 = .ok (.ireturn, 1) := by decide +kernel
set_option maxRecDepth 20000 in
theorem T_X7_pick {Q : Option Value → ah_T → Prop} {h : ah_T} (hs : Sh h) (t cc : Nat) (x1 : Int32) (hk_t : ah_k h t = 7) (hk_cc : ah_k h cc = 14) (hr_t : ah_r h t 2 = some cc) (ht : ((¬ x1 = (-1) → (Mt mX7_get [.ref t, .int x1, .int 0] h (ab_qi fun v4 h2 => Sh h2 ∧ ah_k h2 t = 7 ∧ ah_r h2 t 2 = some cc ∧ ah_k h2 cc = 14 ∧ Q (some (.int v4)) h2))) ∧ (x1 = (-1) → Q (some (.int (ah_i h t 3))) h))) : Mt mX7_pick [.ref t, .int x1] h Q := by
  refine Mt.ofWp rfl (by exact (Nat.le_of_ble_eq_true rfl)) (Wp.fewer (L' := [some (.ref t), some (.int x1)]) (show ab_leL _ _ from ⟨rfl, ⟨rfl, trivial⟩⟩) ?_)
  refine ab_iload_n (i := 1) dX7_pick_0 rfl rfl ?_
  refine ab_iconst (v := (-1)) dX7_pick_1 (by decide) ?_
  refine ab_icmp_ne (tgt := 12) dX7_pick_2 (by decide) (fun c1 => ?_) (fun c1 => ?_)
  · have ht := ht.1 c1
    refine ab_aload_n (i := 0) dX7_pick_12 rfl rfl ?_
    refine ab_iload_n (i := 1) dX7_pick_13 rfl rfl ?_
    refine ab_iconst (v := 0) dX7_pick_14 (by decide) ?_
    refine ab_callV (b := t) (As := [.int x1, .int 0]) ht (Y_X7_get) l_X7_31 in_X7_get se_X7_get hk_t (by decide) rfl rfl ⟨(Nat.le_of_ble_eq_true rfl), (Nat.le_of_ble_eq_true rfl), (Nat.le_of_ble_eq_true rfl), (Nat.le_of_ble_eq_true rfl)⟩ dX7_pick_15 ?_
    rintro _ h2 ⟨v4, rfl, hs3, hk5, hr6, hk7, ht⟩
    exact ab_iret rfl dX7_pick_18 (Nat.le_of_ble_eq_true rfl) (Nat.le_of_ble_eq_true rfl) ht
  · have ht := ht.2 c1
    refine ab_aload_n (i := 0) dX7_pick_5 rfl rfl ?_
    refine ab_getI f_X7_9 rfl hk_t dX7_pick_6 ?_
    refine ab_goto (tgt := 18) dX7_pick_9 (by decide) ?_
    exact ab_iret rfl dX7_pick_18 (Nat.le_of_ble_eq_true rfl) (Nat.le_of_ble_eq_true rfl) ht
theorem dX7_become_0 : decode cX7_become 0 = .ok (.aload_n 1, 1) := by decide +kernel
theorem dX7_become_1 : decode cX7_become 1 = .ok (.getfield 21, 3) := by decide +kernel
theorem dX7_become_4 : decode cX7_become 4 = .ok (.arraylength, 1) := by decide +kernel
theorem dX7_become_5 : decode cX7_become 5 = .ok (.aload_n 0, 1) := by decide +kernel
theorem dX7_become_6 : decode cX7_become 6 = .ok (.getfield 21, 3) := by decide +kernel
theorem dX7_become_9 : decode cX7_become 9 = .ok (.arraylength, 1) := by decide +kernel
theorem dX7_become_10 : decode cX7_become 10 = .ok (.if_icmp .ne 29, 3) := by decide +kernel
theorem dX7_become_13 : decode cX7_become 13 = .ok (.aload_n 1, 1) := by decide +kernel
theorem dX7_become_14 : decode cX7_become 14 = .ok (.getfield 21, 3) := by decide +kernel
theorem dX7_become_17 : decode cX7_become 17 = .ok (.iconst 0, 1) := by decide +kernel
theorem dX7_become_18 : decode cX7_become 18 = .ok (.aload_n 0, 1) := by decide +kernel
theorem dX7_become_19 : decode cX7_become 19 = .ok (.getfield 21, 3) := by decide +kernel
theorem dX7_become_22 : decode cX7_become 22 = .ok (.iconst 0, 1) := by decide +kernel
theorem dX7_become_23 : decode cX7_become 23 = .ok (.aload_n 0, 1) := by decide +kernel
theorem dX7_become_24 : decode cX7_become 24 = .ok (.getfield 21, 3) := by decide +kernel
theorem dX7_become_27 : decode cX7_become 27 = .ok (.arraylength, 1) := by decide +kernel
theorem dX7_become_28 : decode cX7_become 28 = .ok (.invokestatic 35, 3) := by decide +kernel
theorem dX7_become_31 : decode cX7_become 31 = .ok (.aload_n 0, 1) := by decide +kernel
theorem dX7_become_32 : decode cX7_become 32 = .ok (.aload_n 1, 1) := by decide +kernel
theorem dX7_become_33 : decode cX7_become 33 = .ok (.getfield 9, 3) := by decide +kernel
theorem dX7_become_36 : decode cX7_become 36 = .ok (.putfield 9, 3) := by decide +kernel
theorem dX7_become_39 : decode cX7_become 39 = .ok (.return_, 1) := by decide +kernel
set_option maxRecDepth 20000 in
theorem T_X7_become {Q : Option Value → ah_T → Prop} {h : ah_T} (hs : Sh h) (t cc : Nat) (a1 : Nat) (hk_t : ah_k h t = 7) (hk_cc : ah_k h cc = 14) (hr_t : ah_r h t 2 = some cc) (hk_a1 : ah_k h a1 = 7) (ht : (∃ b1, ah_r h a1 2 = some b1 ∧ ah_k h b1 = 14 ∧ ((¬ (Int32.ofNat (ah_n h b1)) = (Int32.ofNat (ah_n h cc)) → Q none h) ∧ ((Int32.ofNat (ah_n h b1)) = (Int32.ofNat (ah_n h cc)) → (¬ (Int32.ofNat (ah_n h cc)) < 0) ∧ ((Int32.toNatClampNeg 0) + (Int32.toNatClampNeg (Int32.ofNat (ah_n h cc))) ≤ ah_n h b1) ∧ ((Int32.toNatClampNeg 0) + (Int32.toNatClampNeg (Int32.ofNat (ah_n h cc))) ≤ ah_n h cc) ∧ (∀ h8, h8 = ah_sa h cc (va_cpy (ah_i h b1) (ah_i h cc) (Int32.toNatClampNeg 0) (Int32.toNatClampNeg 0) (Int32.toNatClampNeg (Int32.ofNat (ah_n h cc)))) → (∀ h17, h17 = ah_si h8 t 3 (ah_i h8 a1 3) → Q none h17)))))) : Mt mX7_become [.ref t, .ref a1] h Q := by
  refine Mt.ofWp rfl (by exact (Nat.le_of_ble_eq_true rfl)) (Wp.fewer (L' := [some (.ref t), some (.ref a1)]) (show ab_leL _ _ from ⟨rfl, ⟨rfl, trivial⟩⟩) ?_)
  refine ab_aload_n (i := 1) dX7_become_0 rfl rfl ?_
  obtain ⟨b1, hr2, hk3, ht⟩ := ht
  refine ab_getR (b := b1) f_X7_21 rfl hk_a1 hr2 dX7_become_1 ?_
  refine ab_alen 14 (by decide) hk3 rfl dX7_become_4 ?_
  refine ab_aload_n (i := 0) dX7_become_5 rfl rfl ?_
  refine ab_getR (b := cc) f_X7_21 rfl hk_t hr_t dX7_become_6 ?_
  refine ab_alen 14 (by decide) hk_cc rfl dX7_become_9 ?_
  refine ab_icmp_ne (tgt := 39) dX7_become_10 (by decide) (fun c4 => ?_) (fun c4 => ?_)
  · have ht := ht.1 c4
    exact ab_vret rfl dX7_become_39 (Nat.le_of_ble_eq_true rfl) (Nat.le_of_ble_eq_true rfl) ht
  · have ht := ht.2 c4
    refine ab_aload_n (i := 1) dX7_become_13 rfl rfl ?_
    refine ab_getR (b := b1) f_X7_21 rfl hk_a1 hr2 dX7_become_14 ?_
    refine ab_iconst (v := 0) dX7_become_17 (by decide) ?_
    refine ab_aload_n (i := 0) dX7_become_18 rfl rfl ?_
    refine ab_getR (b := cc) f_X7_21 rfl hk_t hr_t dX7_become_19 ?_
    refine ab_iconst (v := 0) dX7_become_22 (by decide) ?_
    refine ab_aload_n (i := 0) dX7_become_23 rfl rfl ?_
    refine ab_getR (b := cc) f_X7_21 rfl hk_t hr_t dX7_become_24 ?_
    refine ab_alen 14 (by decide) hk_cc rfl dX7_become_27 ?_
    obtain ⟨hc5, ht⟩ := ht
    obtain ⟨hc6, ht⟩ := ht
    obtain ⟨hc7, ht⟩ := ht
    refine ab_copy (tb_6 (List.mem_of_getElem? (i := 198) (by decide +kernel)) rfl) na_copy st_copy in_sys hk3 hk_cc (by decide) (by decide) hc5 hc6 hc7 (Nat.le_of_ble_eq_true rfl) (Nat.le_of_ble_eq_true rfl) dX7_become_28 ?_
    refine Wp.nm fun h8 e9 => ?_
    have ht := ht h8 e9
    have hs10 : Sh h8 := by rw [e9]; exact sh_sa hs
    have hk11 : ah_k h8 t = 7 := by rw [e9]; exact hk_t
    have hk12 : ah_k h8 cc = 14 := by rw [e9]; exact hk_cc
    have hk13 : ah_k h8 a1 = 7 := by rw [e9]; exact hk_a1
    have hk14 : ah_k h8 b1 = 14 := by rw [e9]; exact hk3
    have hr15 : ah_r h8 t 2 = some cc := by rw [e9]; exact hr_t
    have hr16 : ah_r h8 a1 2 = some b1 := by rw [e9]; exact hr2
    refine ab_aload_n (i := 0) dX7_become_31 rfl rfl ?_
    refine ab_aload_n (i := 1) dX7_become_32 rfl rfl ?_
    refine ab_getI f_X7_9 rfl hk13 dX7_become_33 ?_
    refine ab_putI f_X7_9 (Or.inl rfl) rfl hk11 rfl rfl dX7_become_36 ?_
    refine Wp.nm fun h17 e18 => ?_
    have ht := ht h17 e18
    have hs19 : Sh h17 := by rw [e18]; exact sh_si hs10
    have hk20 : ah_k h17 t = 7 := by rw [e18]; exact hk11
    have hk21 : ah_k h17 cc = 14 := by rw [e18]; exact hk12
    have hk22 : ah_k h17 a1 = 7 := by rw [e18]; exact hk13
    have hk23 : ah_k h17 b1 = 14 := by rw [e18]; exact hk14
    have hr24 : ah_r h17 t 2 = some cc := by rw [e18]; exact hr15
    have hr25 : ah_r h17 a1 2 = some b1 := by rw [e18]; exact hr16
    exact ab_vret rfl dX7_become_39 (Nat.le_of_ble_eq_true rfl) (Nat.le_of_ble_eq_true rfl) ht
