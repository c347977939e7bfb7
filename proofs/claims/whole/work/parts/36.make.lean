/-! ===== methods that make rows (printed) ===== -/
theorem cl_same : Cond.sameMethod "[I" "java/lang/Object" "clone" "()Ljava/lang/Object;" ∈ lw_T := tb_4 (List.mem_of_getElem? (i := 201) (by decide +kernel)) rfl
theorem cl_nat : Cond.native ⟨"java/lang/Object", "clone", "()Ljava/lang/Object;"⟩ ∈ lw_T := tb_4 (List.mem_of_getElem? (i := 202) (by decide +kernel)) rfl
theorem cl_inst : Cond.instanceMethod ⟨"java/lang/Object", "clone", "()Ljava/lang/Object;"⟩ ∈ lw_T := tb_4 (List.mem_of_getElem? (i := 203) (by decide +kernel)) rfl
theorem cl_sel : Cond.selects "[I" ⟨"[I", "clone", "()Ljava/lang/Object;"⟩ ⟨"java/lang/Object", "clone", "()Ljava/lang/Object;"⟩ ∈ lw_T := tb_4 (List.mem_of_getElem? (i := 204) (by decide +kernel)) rfl
theorem ab_castI {M : ab_M} {Q : Option Value → ah_T → Prop} {c0 s0 pc : Nat} {L : List (Option Value)} {st : List Value} {h : ah_T} {index a : Nat} (hw : Cond.classLink M.1.cls index "[I" ∈ lw_T) (hk : ah_k h a = 14) (d : decode M.2.1 pc = .ok (.checkcast index, 3)) (kk : Wp M Q c0 s0 (pc + 3) L (.ref a :: st) h) : Wp M Q c0 s0 pc L (.ref a :: st) h := by
  intro p l e s m args below meth c g A σ0 n0 C σ H locs ls S
  have s3 := S.2.2.1
  have hts : ∀ w ∈ lw_T, w.before args s = true := fun w hw => C.2.2.2.2.2.2.1 w (List.mem_cons_of_mem _ hw)
  have ha : a < ah_x h := s3.2.2.1 a (by rw [hk]; omega)
  exact va_castA (D := g.1) (cl := vwCl) (own := M.1.cls) (nm := "[I") C.1 C.2.1 C.2.2.2.2.2.1 (hts _ hw) s3.1 a (cA := g.2.1 14) (x := (ah_n h a, .inl (ah_i h a))) (by rw [ab_ws_at ha, ab_E_i hk (by omega)]) (C.2.2.2.2.2.2.2.1.2 1 _ rfl).2 d (kk p l e s m args below meth c g A σ0 n0 C σ H locs ls S)
theorem dJ7_rangeCheck_23922_0 : decode cJ7_rangeCheck_23922 0 = .ok (.iload_n 1, 1) := by decide +kernel
theorem dJ7_rangeCheck_23922_1 : decode cJ7_rangeCheck_23922 1 = .ok (.iload_n 2, 1) := by decide +kernel
theorem dJ7_rangeCheck_23922_2 : decode cJ7_rangeCheck_23922 2 = .ok (.if_icmp .le 44, 3) := by decide +kernel
theorem dJ7_rangeCheck_23922_5 : decode cJ7_rangeCheck_23922 5 = .ok (.new 43, 3) := by decide +kernel
theorem dJ7_rangeCheck_23922_8 : decode cJ7_rangeCheck_23922 8 = .ok (.dup, 1) := by decide +kernel
theorem dJ7_rangeCheck_23922_9 : decode cJ7_rangeCheck_23922 9 = .ok (.new 45, 3) := by decide +kernel
theorem dJ7_rangeCheck_23922_12 : decode cJ7_rangeCheck_23922 12 = .ok (.dup, 1) := by decide +kernel
theorem dJ7_rangeCheck_23922_13 : decode cJ7_rangeCheck_23922 13 = .ok (.invokespecial 47, 3) := by decide +kernel
theorem dJ7_rangeCheck_23922_16 : decode cJ7_rangeCheck_23922 16 = .ok (.ldc 48, 2) := by decide +kernel
theorem dJ7_rangeCheck_23922_18 : decode cJ7_rangeCheck_23922 18 = .ok (.invokevirtual 50, 3) := by decide +kernel
theorem dJ7_rangeCheck_23922_21 : decode cJ7_rangeCheck_23922 21 = .ok (.iload_n 1, 1) := by decide +kernel
theorem dJ7_rangeCheck_23922_22 : decode cJ7_rangeCheck_23922 22 = .ok (.invokevirtual 54, 3) := by decide +kernel
theorem dJ7_rangeCheck_23922_25 : decode cJ7_rangeCheck_23922 25 = .ok (.ldc 57, 2) := by decide +kernel
theorem dJ7_rangeCheck_23922_27 : decode cJ7_rangeCheck_23922 27 = .ok (.invokevirtual 50, 3) := by decide +kernel
theorem dJ7_rangeCheck_23922_30 : decode cJ7_rangeCheck_23922 30 = .ok (.iload_n 2, 1) := by decide +kernel
theorem dJ7_rangeCheck_23922_31 : decode cJ7_rangeCheck_23922 31 = .ok (.invokevirtual 54, 3) := by decide +kernel
theorem dJ7_rangeCheck_23922_34 : decode cJ7_rangeCheck_23922 34 = .ok (.ldc 59, 2) := by decide +kernel
theorem dJ7_rangeCheck_23922_36 : decode cJ7_rangeCheck_23922 36 = .ok (.invokevirtual 50, 3) := by decide +kernel
theorem dJ7_rangeCheck_23922_39 : decode cJ7_rangeCheck_23922 39 = .ok (.invokevirtual 61, 3) := by decide +kernel
theorem dJ7_rangeCheck_23922_42 : decode cJ7_rangeCheck_23922 42 = .ok (.invokespecial 65, 3) := by decide +kernel
theorem dJ7_rangeCheck_23922_45 : decode cJ7_rangeCheck_23922 45 = .ok (.athrow, 1) := by decide +kernel
theorem dJ7_rangeCheck_23922_46 : decode cJ7_rangeCheck_23922 46 = .ok (.iload_n 1, 1) := by decide +kernel
theorem dJ7_rangeCheck_23922_47 : decode cJ7_rangeCheck_23922 47 = .ok (.ifCond .ge 12, 3) := by decide +kernel
theorem dJ7_rangeCheck_23922_50 : decode cJ7_rangeCheck_23922 50 = .ok (.new 68, 3) := by decide +kernel
theorem dJ7_rangeCheck_23922_53 : decode cJ7_rangeCheck_23922 53 = .ok (.dup, 1) := by decide +kernel
theorem dJ7_rangeCheck_23922_54 : decode cJ7_rangeCheck_23922 54 = .ok (.iload_n 1, 1) := by decide +kernel
theorem dJ7_rangeCheck_23922_55 : decode cJ7_rangeCheck_23922 55 = .ok (.invokespecial 70, 3) := by decide +kernel
theorem dJ7_rangeCheck_23922_58 : decode cJ7_rangeCheck_23922 58 = .ok (.athrow, 1) := by decide +kernel
theorem dJ7_rangeCheck_23922_59 : decode cJ7_rangeCheck_23922 59 = .ok (.iload_n 2, 1) := by decide +kernel
theorem dJ7_rangeCheck_23922_60 : decode cJ7_rangeCheck_23922 60 = .ok (.iload_n 0, 1) := by decide +kernel
theorem dJ7_rangeCheck_23922_61 : decode cJ7_rangeCheck_23922 61 = .ok (.if_icmp .le 12, 3) := by decide +kernel
theorem dJ7_rangeCheck_23922_64 : decode cJ7_rangeCheck_23922 64 = .ok (.new 68, 3) := by decide +kernel
theorem dJ7_rangeCheck_23922_67 : decode cJ7_rangeCheck_23922 67 = .ok (.dup, 1) := by decide +kernel
theorem dJ7_rangeCheck_23922_68 : decode cJ7_rangeCheck_23922 68 = .ok (.iload_n 2, 1) := by decide +kernel
theorem dJ7_rangeCheck_23922_69 : decode cJ7_rangeCheck_23922 69 = .ok (.invokespecial 70, 3) := by decide +kernel
theorem dJ7_rangeCheck_23922_72 : decode cJ7_rangeCheck_23922 72 = .ok (.athrow, 1) := by decide +kernel
theorem dJ7_rangeCheck_23922_73 : decode cJ7_rangeCheck_23922 73 = .ok (.return_, 1) := by decide +kernel
set_option maxRecDepth 20000 in
theorem T_J7_rangeCheck_23922 {Q : Option Value → ah_T → Prop} {h : ah_T} (hs : Sh h) (x0 : Int32) (x1 : Int32) (x2 : Int32) (ht : ((x1 ≤ x2 → ((0 ≤ x1 → ((x2 ≤ x0 → Q none h) ∧ (¬ x2 ≤ x0 → False))) ∧ (¬ 0 ≤ x1 → False))) ∧ (¬ x1 ≤ x2 → False))) : Mt mJ7_rangeCheck_23922 [.int x0, .int x1, .int x2] h Q := by
  refine Mt.ofWp rfl (by exact (Nat.le_of_ble_eq_true rfl)) (Wp.fewer (L' := [some (.int x0), some (.int x1), some (.int x2)]) (show ab_leL _ _ from ⟨rfl, ⟨rfl, ⟨rfl, trivial⟩⟩⟩) ?_)
  refine ab_iload_n (i := 1) dJ7_rangeCheck_23922_0 rfl rfl ?_
  refine ab_iload_n (i := 2) dJ7_rangeCheck_23922_1 rfl rfl ?_
  refine ab_icmp_le (tgt := 46) dJ7_rangeCheck_23922_2 (by decide) (fun c1 => ?_) (fun c1 => ?_)
  · have ht := ht.1 c1
    refine ab_iload_n (i := 1) dJ7_rangeCheck_23922_46 rfl rfl ?_
    refine ab_if_ge (tgt := 59) dJ7_rangeCheck_23922_47 (by decide) (fun c2 => ?_) (fun c2 => ?_)
    · have ht := ht.1 c2
      refine ab_iload_n (i := 2) dJ7_rangeCheck_23922_59 rfl rfl ?_
      refine ab_iload_n (i := 0) dJ7_rangeCheck_23922_60 rfl rfl ?_
      refine ab_icmp_le (tgt := 73) dJ7_rangeCheck_23922_61 (by decide) (fun c3 => ?_) (fun c3 => ?_)
      · have ht := ht.1 c3
        exact ab_vret rfl dJ7_rangeCheck_23922_73 (Nat.le_of_ble_eq_true rfl) (Nat.le_of_ble_eq_true rfl) ht
      · have ht := ht.2 c3
        exact False.elim ht
    · have ht := ht.2 c2
      exact False.elim ht
  · have ht := ht.2 c1
    exact False.elim ht
theorem dJ7_copyOf_59c91_0 : decode cJ7_copyOf_59c91 0 = .ok (.iload_n 1, 1) := by decide +kernel
theorem dJ7_copyOf_59c91_1 : decode cJ7_copyOf_59c91 1 = .ok (.aload_n 0, 1) := by decide +kernel
theorem dJ7_copyOf_59c91_2 : decode cJ7_copyOf_59c91 2 = .ok (.arraylength, 1) := by decide +kernel
theorem dJ7_copyOf_59c91_3 : decode cJ7_copyOf_59c91 3 = .ok (.if_icmp .ne 11, 3) := by decide +kernel
theorem dJ7_copyOf_59c91_6 : decode cJ7_copyOf_59c91 6 = .ok (.aload_n 0, 1) := by decide +kernel
theorem dJ7_copyOf_59c91_7 : decode cJ7_copyOf_59c91 7 = .ok (.invokevirtual 316, 3) := by decide +kernel
theorem dJ7_copyOf_59c91_10 : decode cJ7_copyOf_59c91 10 = .ok (.checkcast 317, 3) := by decide +kernel
theorem dJ7_copyOf_59c91_13 : decode cJ7_copyOf_59c91 13 = .ok (.areturn, 1) := by decide +kernel
theorem dJ7_copyOf_59c91_14 : decode cJ7_copyOf_59c91 14 = .ok (.iload_n 1, 1) := by decide +kernel
theorem dJ7_copyOf_59c91_15 : decode cJ7_copyOf_59c91 15 = .ok (.newarray .int, 2) := by decide +kernel
theorem dJ7_copyOf_59c91_17 : decode cJ7_copyOf_59c91 17 = .ok (.astore_n 2, 1) := by decide +kernel
theorem dJ7_copyOf_59c91_18 : decode cJ7_copyOf_59c91 18 = .ok (.aload_n 0, 1) := by decide +kernel
theorem dJ7_copyOf_59c91_19 : decode cJ7_copyOf_59c91 19 = .ok (.iconst 0, 1) := by decide +kernel
theorem dJ7_copyOf_59c91_20 : decode cJ7_copyOf_59c91 20 = .ok (.aload_n 2, 1) := by decide +kernel
theorem dJ7_copyOf_59c91_21 : decode cJ7_copyOf_59c91 21 = .ok (.iconst 0, 1) := by decide +kernel
theorem dJ7_copyOf_59c91_22 : decode cJ7_copyOf_59c91 22 = .ok (.aload_n 0, 1) := by decide +kernel
theorem dJ7_copyOf_59c91_23 : decode cJ7_copyOf_59c91 23 = .ok (.arraylength, 1) := by decide +kernel
theorem dJ7_copyOf_59c91_24 : decode cJ7_copyOf_59c91 24 = .ok (.iload_n 1, 1) := by decide +kernel
theorem dJ7_copyOf_59c91_25 : decode cJ7_copyOf_59c91 25 = .ok (.invokestatic 304, 3) := by decide +kernel
theorem dJ7_copyOf_59c91_28 : decode cJ7_copyOf_59c91 28 = .ok (.invokestatic 150, 3) := by decide +kernel
theorem dJ7_copyOf_59c91_31 : decode cJ7_copyOf_59c91 31 = .ok (.aload_n 2, 1) := by decide +kernel
theorem dJ7_copyOf_59c91_32 : decode cJ7_copyOf_59c91 32 = .ok (.areturn, 1) := by decide +kernel
set_option maxRecDepth 20000 in
theorem T_J7_copyOf_59c91 {Q : Option Value → ah_T → Prop} {h : ah_T} (hs : Sh h) (a0 : Nat) (x1 : Int32) (hk_a0 : ah_k h a0 = 14) (ht : ((¬ x1 = (Int32.ofNat (ah_n h a0)) → (¬ x1 < 0) ∧ (0 + (Int32.toNatClampNeg x1) ≤ 500) ∧ (∀ w4, w4 = ah_x h → (∀ h6, h6 = ah_nw h 14 (Int32.toNatClampNeg x1) → (¬ a0 = ah_x h) ∧ (¬ (if x1 < (Int32.ofNat (ah_n h6 a0)) then x1 else (Int32.ofNat (ah_n h6 a0))) < 0) ∧ ((Int32.toNatClampNeg 0) + (Int32.toNatClampNeg (if x1 < (Int32.ofNat (ah_n h6 a0)) then x1 else (Int32.ofNat (ah_n h6 a0)))) ≤ ah_n h6 a0) ∧ ((Int32.toNatClampNeg 0) + (Int32.toNatClampNeg (if x1 < (Int32.ofNat (ah_n h6 a0)) then x1 else (Int32.ofNat (ah_n h6 a0)))) ≤ ah_n h6 w4) ∧ (∀ h16, h16 = ah_sa h6 w4 (va_cpy (ah_i h6 a0) (ah_i h6 w4) (Int32.toNatClampNeg 0) (Int32.toNatClampNeg 0) (Int32.toNatClampNeg (if x1 < (Int32.ofNat (ah_n h6 a0)) then x1 else (Int32.ofNat (ah_n h6 a0))))) → Q (some (va_rf (some w4))) h16)))) ∧ (x1 = (Int32.ofNat (ah_n h a0)) → (0 + ah_n h a0 ≤ 500) ∧ (∀ w22, w22 = ah_x h → (∀ h24, h24 = ah_sa (ah_nw h 14 (ah_n h a0)) w22 (ah_i h a0) → (¬ a0 = ah_x h) ∧ Q (some (va_rf (some w22))) h24))))) : Mt mJ7_copyOf_59c91 [.ref a0, .int x1] h Q := by
  refine Mt.ofWp rfl (by exact (Nat.le_of_ble_eq_true rfl)) (Wp.fewer (L' := [some (.ref a0), some (.int x1), none]) (show ab_leL _ _ from ⟨rfl, ⟨rfl, trivial⟩⟩) ?_)
  refine ab_iload_n (i := 1) dJ7_copyOf_59c91_0 rfl rfl ?_
  refine ab_aload_n (i := 0) dJ7_copyOf_59c91_1 rfl rfl ?_
  refine ab_alen 14 (by decide) hk_a0 rfl dJ7_copyOf_59c91_2 ?_
  refine ab_icmp_ne (tgt := 14) dJ7_copyOf_59c91_3 (by decide) (fun c1 => ?_) (fun c1 => ?_)
  · have ht := ht.1 c1
    refine ab_iload_n (i := 1) dJ7_copyOf_59c91_14 rfl rfl ?_
    obtain ⟨hc2, ht⟩ := ht
    obtain ⟨hc3, ht⟩ := ht
    refine ab_newa (N := (Int32.toNatClampNeg x1)) 14 1 .int (by decide) rfl wa_int hc2 rfl (Nat.le_trans (Nat.mul_le_mul_right 4 (Nat.le_trans (Nat.le_add_left _ _) hc3)) (by decide)) (Nat.le_of_ble_eq_true rfl) hc3 dJ7_copyOf_59c91_15 ?_
    obtain ⟨w4, ew5⟩ : ∃ z, z = ah_x h := ⟨_, rfl⟩
    rw [← ew5]
    have ht := ht w4 ew5
    refine Wp.nm fun h6 e7 => ?_
    have ht := ht h6 e7
    have hs8 : Sh h6 := by rw [e7]; exact sh_nw hs
    have hc10 := ht.1
    have ht := ht.2
    have hk9 : ah_k h6 a0 = 14 := by rw [e7, ah_k_nw, if_neg hc10]; exact hk_a0
    have hk11 : ah_k h6 w4 = 14 := by rw [e7, ew5, ah_k_nw, if_pos rfl]
    have hn12 : ah_n h6 w4 = (Int32.toNatClampNeg x1) := by rw [e7, ew5, ah_n_nw, if_pos rfl]
    refine ab_astore_n (i := 2) (L' := [some (.ref a0), some (.int x1), some (.ref w4)]) dJ7_copyOf_59c91_17 rfl (by exact (Nat.le_of_ble_eq_true rfl)) rfl rfl ?_
    refine ab_aload_n (i := 0) dJ7_copyOf_59c91_18 rfl rfl ?_
    refine ab_iconst (v := 0) dJ7_copyOf_59c91_19 (by decide) ?_
    refine ab_aload_n (i := 2) dJ7_copyOf_59c91_20 rfl rfl ?_
    refine ab_iconst (v := 0) dJ7_copyOf_59c91_21 (by decide) ?_
    refine ab_aload_n (i := 0) dJ7_copyOf_59c91_22 rfl rfl ?_
    refine ab_alen 14 (by decide) hk9 rfl dJ7_copyOf_59c91_23 ?_
    refine ab_iload_n (i := 1) dJ7_copyOf_59c91_24 rfl rfl ?_
    refine ab_mmin (tb_4 (List.mem_of_getElem? (i := 207) (by decide +kernel)) rfl) st_mmin in_m co_mmin (Nat.le_of_ble_eq_true rfl) (Nat.le_of_ble_eq_true rfl) (Nat.le_of_ble_eq_true rfl) (by first | exact (Nat.le_of_ble_eq_true rfl) | assumption) dJ7_copyOf_59c91_25 ?_
    obtain ⟨hc13, ht⟩ := ht
    obtain ⟨hc14, ht⟩ := ht
    obtain ⟨hc15, ht⟩ := ht
    refine ab_copy (tb_4 (List.mem_of_getElem? (i := 208) (by decide +kernel)) rfl) na_copy st_copy in_sys hk9 hk11 (by decide) (by decide) hc13 hc14 hc15 (Nat.le_of_ble_eq_true rfl) (Nat.le_of_ble_eq_true rfl) dJ7_copyOf_59c91_28 ?_
    refine Wp.nm fun h16 e17 => ?_
    have ht := ht h16 e17
    have hs18 : Sh h16 := by rw [e17]; exact sh_sa hs8
    have hk19 : ah_k h16 a0 = 14 := by rw [e17]; exact hk9
    have hk20 : ah_k h16 w4 = 14 := by rw [e17]; exact hk11
    refine ab_aload_n (i := 2) dJ7_copyOf_59c91_31 rfl rfl ?_
    exact ab_aret (r := (some w4)) rfl (by first | exact Or.inl ⟨_, rfl⟩ | exact Or.inr ⟨_, rfl⟩) dJ7_copyOf_59c91_32 (Nat.le_of_ble_eq_true rfl) (by first | exact (Nat.le_of_ble_eq_true rfl) | assumption | omega) ht
  · have ht := ht.2 c1
    refine ab_aload_n (i := 0) dJ7_copyOf_59c91_6 rfl rfl ?_
    obtain ⟨hc21, ht⟩ := ht
    refine ab_clone (tb_4 (List.mem_of_getElem? (i := 200) (by decide +kernel)) rfl) cl_same cl_nat cl_inst cl_sel hk_a0 (Nat.le_of_ble_eq_true rfl) (Nat.le_of_ble_eq_true rfl) (Nat.le_of_ble_eq_true rfl) hc21 dJ7_copyOf_59c91_7 ?_
    obtain ⟨w22, ew23⟩ : ∃ z, z = ah_x h := ⟨_, rfl⟩
    rw [← ew23]
    have ht := ht w22 ew23
    refine Wp.nm fun h24 e25 => ?_
    have ht := ht h24 e25
    have hs26 : Sh h24 := by rw [e25]; exact sh_sa (sh_nw hs)
    have hc28 := ht.1
    have ht := ht.2
    have hk27 : ah_k h24 a0 = 14 := by rw [e25, ah_k_sa, ah_k_nw, if_neg hc28]; exact hk_a0
    have hk29 : ah_k h24 w22 = 14 := by rw [e25, ew23, ah_k_sa, ah_k_nw, if_pos rfl]
    refine ab_castI (tb_4 (List.mem_of_getElem? (i := 206) (by decide +kernel)) rfl) hk29 dJ7_copyOf_59c91_10 ?_
    exact ab_aret (r := (some w22)) rfl (by first | exact Or.inl ⟨_, rfl⟩ | exact Or.inr ⟨_, rfl⟩) dJ7_copyOf_59c91_13 (Nat.le_of_ble_eq_true rfl) (by first | exact (Nat.le_of_ble_eq_true rfl) | assumption | omega) ht
theorem dX5_read_0 : decode cX5_read 0 = .ok (.aload_n 0, 1) := by decide +kernel
theorem dX5_read_1 : decode cX5_read 1 = .ok (.aload_n 1, 1) := by decide +kernel
theorem dX5_read_2 : decode cX5_read 2 = .ok (.iload_n 2, 1) := by decide +kernel
theorem dX5_read_3 : decode cX5_read 3 = .ok (.invokevirtual 46, 3) := by decide +kernel
theorem dX5_read_6 : decode cX5_read 6 = .ok (.aload_n 0, 1) := by decide +kernel
theorem dX5_read_7 : decode cX5_read 7 = .ok (.getfield 25, 3) := by decide +kernel
theorem dX5_read_10 : decode cX5_read 10 = .ok (.iconst (-1), 1) := by decide +kernel
theorem dX5_read_11 : decode cX5_read 11 = .ok (.invokestatic 50, 3) := by decide +kernel
theorem dX5_read_14 : decode cX5_read 14 = .ok (.aload_n 0, 1) := by decide +kernel
theorem dX5_read_15 : decode cX5_read 15 = .ok (.getfield 28, 3) := by decide +kernel
theorem dX5_read_18 : decode cX5_read 18 = .ok (.iconst 0, 1) := by decide +kernel
theorem dX5_read_19 : decode cX5_read 19 = .ok (.invokestatic 50, 3) := by decide +kernel
theorem dX5_read_22 : decode cX5_read 22 = .ok (.aload_n 0, 1) := by decide +kernel
theorem dX5_read_23 : decode cX5_read 23 = .ok (.iconst 0, 1) := by decide +kernel
theorem dX5_read_24 : decode cX5_read 24 = .ok (.putfield 31, 3) := by decide +kernel
theorem dX5_read_27 : decode cX5_read 27 = .ok (.aload_n 0, 1) := by decide +kernel
theorem dX5_read_28 : decode cX5_read 28 = .ok (.iconst 0, 1) := by decide +kernel
theorem dX5_read_29 : decode cX5_read 29 = .ok (.putfield 34, 3) := by decide +kernel
theorem dX5_read_32 : decode cX5_read 32 = .ok (.aload_n 0, 1) := by decide +kernel
theorem dX5_read_33 : decode cX5_read 33 = .ok (.iconst 0, 1) := by decide +kernel
theorem dX5_read_34 : decode cX5_read 34 = .ok (.putfield 37, 3) := by decide +kernel
theorem dX5_read_37 : decode cX5_read 37 = .ok (.aload_n 0, 1) := by decide +kernel
theorem dX5_read_38 : decode cX5_read 38 = .ok (.iload_n 3, 1) := by decide +kernel
theorem dX5_read_39 : decode cX5_read 39 = .ok (.ifCond .eq 9, 3) := by decide +kernel
theorem dX5_read_42 : decode cX5_read 42 = .ok (.sipush 255, 3) := by decide +kernel
theorem dX5_read_45 : decode cX5_read 45 = .ok (.goto 6, 3) := by decide +kernel
theorem dX5_read_48 : decode cX5_read 48 = .ok (.sipush 8000, 3) := by decide +kernel
theorem dX5_read_51 : decode cX5_read 51 = .ok (.putfield 40, 3) := by decide +kernel
theorem dX5_read_54 : decode cX5_read 54 = .ok (.iconst 0, 1) := by decide +kernel
theorem dX5_read_55 : decode cX5_read 55 = .ok (.istore 4, 2) := by decide +kernel
theorem dX5_read_57 : decode cX5_read 57 = .ok (.iload 4, 2) := by decide +kernel
theorem dX5_read_59 : decode cX5_read 59 = .ok (.bipush 12, 2) := by decide +kernel
theorem dX5_read_61 : decode cX5_read 61 = .ok (.if_icmp .ge 171, 3) := by decide +kernel
theorem dX5_read_64 : decode cX5_read 64 = .ok (.aload_n 0, 1) := by decide +kernel
theorem dX5_read_65 : decode cX5_read 65 = .ok (.iconst 0, 1) := by decide +kernel
theorem dX5_read_66 : decode cX5_read 66 = .ok (.putfield 43, 3) := by decide +kernel
theorem dX5_read_69 : decode cX5_read 69 = .ok (.iload 4, 2) := by decide +kernel
theorem dX5_read_71 : decode cX5_read 71 = .ok (.bipush 6, 2) := by decide +kernel
theorem dX5_read_73 : decode cX5_read 73 = .ok (.imul, 1) := by decide +kernel
theorem dX5_read_74 : decode cX5_read 74 = .ok (.istore 5, 2) := by decide +kernel
theorem dX5_read_76 : decode cX5_read 76 = .ok (.iload_n 3, 1) := by decide +kernel
theorem dX5_read_77 : decode cX5_read 77 = .ok (.ifCond .eq 15, 3) := by decide +kernel
theorem dX5_read_80 : decode cX5_read 80 = .ok (.aload_n 0, 1) := by decide +kernel
theorem dX5_read_81 : decode cX5_read 81 = .ok (.iload 5, 2) := by decide +kernel
theorem dX5_read_83 : decode cX5_read 83 = .ok (.invokevirtual 55, 3) := by decide +kernel
theorem dX5_read_86 : decode cX5_read 86 = .ok (.ifCond .eq 146, 3) := by decide +kernel
theorem dX5_read_89 : decode cX5_read 89 = .ok (.goto 12, 3) := by decide +kernel
theorem dX5_read_92 : decode cX5_read 92 = .ok (.aload_n 0, 1) := by decide +kernel
theorem dX5_read_93 : decode cX5_read 93 = .ok (.iload 5, 2) := by decide +kernel
theorem dX5_read_95 : decode cX5_read 95 = .ok (.invokevirtual 59, 3) := by decide +kernel
theorem dX5_read_98 : decode cX5_read 98 = .ok (.ifCond .eq 134, 3) := by decide +kernel
theorem dX5_read_101 : decode cX5_read 101 = .ok (.aload_n 0, 1) := by decide +kernel
theorem dX5_read_102 : decode cX5_read 102 = .ok (.iload 5, 2) := by decide +kernel
theorem dX5_read_104 : decode cX5_read 104 = .ok (.invokevirtual 62, 3) := by decide +kernel
theorem dX5_read_107 : decode cX5_read 107 = .ok (.ifCond .ne 6, 3) := by decide +kernel
theorem dX5_read_110 : decode cX5_read 110 = .ok (.goto 122, 3) := by decide +kernel
theorem dX5_read_113 : decode cX5_read 113 = .ok (.aload_n 0, 1) := by decide +kernel
theorem dX5_read_114 : decode cX5_read 114 = .ok (.getfield 28, 3) := by decide +kernel
theorem dX5_read_117 : decode cX5_read 117 = .ok (.aload_n 0, 1) := by decide +kernel
theorem dX5_read_118 : decode cX5_read 118 = .ok (.getfield 25, 3) := by decide +kernel
theorem dX5_read_121 : decode cX5_read 121 = .ok (.iload 5, 2) := by decide +kernel
theorem dX5_read_123 : decode cX5_read 123 = .ok (.iconst 0, 1) := by decide +kernel
theorem dX5_read_124 : decode cX5_read 124 = .ok (.iadd, 1) := by decide +kernel
theorem dX5_read_125 : decode cX5_read 125 = .ok (.iaload, 1) := by decide +kernel
theorem dX5_read_126 : decode cX5_read 126 = .ok (.dup2, 1) := by decide +kernel
theorem dX5_read_127 : decode cX5_read 127 = .ok (.iaload, 1) := by decide +kernel
theorem dX5_read_128 : decode cX5_read 128 = .ok (.aload_n 0, 1) := by decide +kernel
theorem dX5_read_129 : decode cX5_read 129 = .ok (.getfield 43, 3) := by decide +kernel
theorem dX5_read_132 : decode cX5_read 132 = .ok (.ior, 1) := by decide +kernel
theorem dX5_read_133 : decode cX5_read 133 = .ok (.iastore, 1) := by decide +kernel
theorem dX5_read_134 : decode cX5_read 134 = .ok (.aload_n 0, 1) := by decide +kernel
theorem dX5_read_135 : decode cX5_read 135 = .ok (.getfield 15, 3) := by decide +kernel
theorem dX5_read_138 : decode cX5_read 138 = .ok (.aload_n 0, 1) := by decide +kernel
theorem dX5_read_139 : decode cX5_read 139 = .ok (.getfield 31, 3) := by decide +kernel
theorem dX5_read_142 : decode cX5_read 142 = .ok (.iaload, 1) := by decide +kernel
theorem dX5_read_143 : decode cX5_read 143 = .ok (.bipush 99, 2) := by decide +kernel
theorem dX5_read_145 : decode cX5_read 145 = .ok (.if_icmp .ne 53, 3) := by decide +kernel
theorem dX5_read_148 : decode cX5_read 148 = .ok (.aload_n 0, 1) := by decide +kernel
theorem dX5_read_149 : decode cX5_read 149 = .ok (.iconst (-1), 1) := by decide +kernel
theorem dX5_read_150 : decode cX5_read 150 = .ok (.putfield 9, 3) := by decide +kernel
theorem dX5_read_153 : decode cX5_read 153 = .ok (.new 65, 3) := by decide +kernel
theorem dX5_read_156 : decode cX5_read 156 = .ok (.dup, 1) := by decide +kernel
theorem dX5_read_157 : decode cX5_read 157 = .ok (.aload_n 0, 1) := by decide +kernel
theorem dX5_read_158 : decode cX5_read 158 = .ok (.getfield 22, 3) := by decide +kernel
theorem dX5_read_161 : decode cX5_read 161 = .ok (.aload_n 0, 1) := by decide +kernel
theorem dX5_read_162 : decode cX5_read 162 = .ok (.getfield 34, 3) := by decide +kernel
theorem dX5_read_165 : decode cX5_read 165 = .ok (.invokestatic 67, 3) := by decide +kernel
theorem dX5_read_168 : decode cX5_read 168 = .ok (.aload_n 0, 1) := by decide +kernel
theorem dX5_read_169 : decode cX5_read 169 = .ok (.getfield 25, 3) := by decide +kernel
theorem dX5_read_172 : decode cX5_read 172 = .ok (.iload 5, 2) := by decide +kernel
theorem dX5_read_174 : decode cX5_read 174 = .ok (.bipush 6, 2) := by decide +kernel
theorem dX5_read_176 : decode cX5_read 176 = .ok (.iadd, 1) := by decide +kernel
theorem dX5_read_177 : decode cX5_read 177 = .ok (.invokestatic 67, 3) := by decide +kernel
theorem dX5_read_180 : decode cX5_read 180 = .ok (.iload 4, 2) := by decide +kernel
theorem dX5_read_182 : decode cX5_read 182 = .ok (.iconst 1, 1) := by decide +kernel
theorem dX5_read_183 : decode cX5_read 183 = .ok (.iadd, 1) := by decide +kernel
theorem dX5_read_184 : decode cX5_read 184 = .ok (.aload_n 0, 1) := by decide +kernel
theorem dX5_read_185 : decode cX5_read 185 = .ok (.getfield 28, 3) := by decide +kernel
theorem dX5_read_188 : decode cX5_read 188 = .ok (.invokevirtual 71, 3) := by decide +kernel
theorem dX5_read_191 : decode cX5_read 191 = .ok (.checkcast 72, 3) := by decide +kernel
theorem dX5_read_194 : decode cX5_read 194 = .ok (.invokespecial 76, 3) := by decide +kernel
theorem dX5_read_197 : decode cX5_read 197 = .ok (.areturn, 1) := by decide +kernel
theorem dX5_read_198 : decode cX5_read 198 = .ok (.aload_n 0, 1) := by decide +kernel
theorem dX5_read_199 : decode cX5_read 199 = .ok (.getfield 15, 3) := by decide +kernel
theorem dX5_read_202 : decode cX5_read 202 = .ok (.aload_n 0, 1) := by decide +kernel
theorem dX5_read_203 : decode cX5_read 203 = .ok (.getfield 31, 3) := by decide +kernel
theorem dX5_read_206 : decode cX5_read 206 = .ok (.iaload, 1) := by decide +kernel
theorem dX5_read_207 : decode cX5_read 207 = .ok (.sipush 159, 3) := by decide +kernel
theorem dX5_read_210 : decode cX5_read 210 = .ok (.if_icmp .eq 6, 3) := by decide +kernel
theorem dX5_read_213 : decode cX5_read 213 = .ok (.goto 19, 3) := by decide +kernel
theorem dX5_read_216 : decode cX5_read 216 = .ok (.aload_n 0, 1) := by decide +kernel
theorem dX5_read_217 : decode cX5_read 217 = .ok (.dup, 1) := by decide +kernel
theorem dX5_read_218 : decode cX5_read 218 = .ok (.getfield 31, 3) := by decide +kernel
theorem dX5_read_221 : decode cX5_read 221 = .ok (.iconst 1, 1) := by decide +kernel
theorem dX5_read_222 : decode cX5_read 222 = .ok (.iadd, 1) := by decide +kernel
theorem dX5_read_223 : decode cX5_read 223 = .ok (.putfield 31, 3) := by decide +kernel
theorem dX5_read_226 : decode cX5_read 226 = .ok (.iinc 4 1, 3) := by decide +kernel
theorem dX5_read_229 : decode cX5_read 229 = .ok (.goto (-172), 3) := by decide +kernel
theorem dX5_read_232 : decode cX5_read 232 = .ok (.aload_n 0, 1) := by decide +kernel
theorem dX5_read_233 : decode cX5_read 233 = .ok (.aload_n 0, 1) := by decide +kernel
theorem dX5_read_234 : decode cX5_read 234 = .ok (.getfield 19, 3) := by decide +kernel
theorem dX5_read_237 : decode cX5_read 237 = .ok (.aload_n 0, 1) := by decide +kernel
theorem dX5_read_238 : decode cX5_read 238 = .ok (.getfield 31, 3) := by decide +kernel
theorem dX5_read_241 : decode cX5_read 241 = .ok (.iaload, 1) := by decide +kernel
theorem dX5_read_242 : decode cX5_read 242 = .ok (.putfield 9, 3) := by decide +kernel
theorem dX5_read_245 : decode cX5_read 245 = .ok (.aconst_null, 1) := by decide +kernel
theorem dX5_read_246 : decode cX5_read 246 = .ok (.areturn, 1) := by decide +kernel
set_option maxRecDepth 20000 in
theorem T_X5_read_57 {Q : Option Value → ah_T → Prop} {h : ah_T} (hs : Sh h) (x3 : Int32) (x4 : Int32) (ht : ((12 ≤ x4 → (vp_in (ah_i h 20 6) (ah_n h 22)) ∧ (∀ h36, h36 = ah_si h 20 0 (ah_i h 22 (Int32.toNatClampNeg (ah_i h 20 6))) → Q (some (va_rf none)) h36)) ∧ (¬ 12 ≤ x4 → (∀ h39, h39 = ah_si h 20 10 0 → ((x3 = 0 → (Mt mX5_readRound [.ref 20, .int (x4 * 6)] h39 (ab_qi fun v45 h43 => Sh h43 ∧ ((v45 = 0 → (vp_in (ah_i h43 20 6) (ah_n h43 22)) ∧ (∀ h48, h48 = ah_si h43 20 0 (ah_i h43 22 (Int32.toNatClampNeg (ah_i h43 20 6))) → Q (some (va_rf none)) h48)) ∧ (¬ v45 = 0 → (Mt mX5_readIf [.ref 20, .int (x4 * 6)] h43 (ab_qi fun v53 h51 => Sh h51 ∧ ((¬ v53 = 0 → (vp_in ((x4 * 6) + 0) (ah_n h51 24)) ∧ (vp_in (ah_i h51 24 (Int32.toNatClampNeg ((x4 * 6) + 0))) (ah_n h51 25)) ∧ (vp_in (ah_i h51 24 (Int32.toNatClampNeg ((x4 * 6) + 0))) (ah_n h51 25)) ∧ (∀ h58, h58 = ah_si h51 25 (Int32.toNatClampNeg (ah_i h51 24 (Int32.toNatClampNeg ((x4 * 6) + 0)))) ((ah_i h51 25 (Int32.toNatClampNeg (ah_i h51 24 (Int32.toNatClampNeg ((x4 * 6) + 0))))) ||| (ah_i h51 20 10)) → (vp_in (ah_i h58 20 6) (ah_n h58 21)) ∧ ((¬ (ah_i h58 21 (Int32.toNatClampNeg (ah_i h58 20 6))) = 99 → (vp_in (ah_i h58 20 6) (ah_n h58 21)) ∧ (((ah_i h58 21 (Int32.toNatClampNeg (ah_i h58 20 6))) = 159 → (∀ h65, h65 = ah_si h58 20 6 ((ah_i h58 20 6) + 1) → Wp mX5_read Q 0 0 57 [some (.ref 20), none, none, some (.int x3), some (.int (x4 + 1)), none] [] h65)) ∧ (¬ (ah_i h58 21 (Int32.toNatClampNeg (ah_i h58 20 6))) = 159 → (vp_in (ah_i h58 20 6) (ah_n h58 22)) ∧ (∀ h69, h69 = ah_si h58 20 0 (ah_i h58 22 (Int32.toNatClampNeg (ah_i h58 20 6))) → Q (some (va_rf none)) h69)))) ∧ ((ah_i h58 21 (Int32.toNatClampNeg (ah_i h58 20 6))) = 99 → (∀ h72, h72 = ah_si h58 20 0 (-1) → (∀ w75, w75 = ah_x h72 → (∀ h77, h77 = ah_nw h72 9 0 → (Mt mJ7_copyOf_59c91 [.ref 23, .int (ah_i h77 20 7)] h77 (ab_qr fun v83 h81 => Sh h81 ∧ ah_k h81 w75 = 9 ∧ (∃ b85, v83 = some b85 ∧ ah_k h81 b85 = 14 ∧ (Mt mJ7_copyOf_59c91 [.ref 24, .int ((x4 * 6) + 6)] h81 (ab_qr fun v89 h87 => Sh h87 ∧ ah_k h87 b85 = 14 ∧ ah_k h87 w75 = 9 ∧ (∃ b92, v89 = some b92 ∧ ah_k h87 b92 = 14 ∧ ((((0 + 4) + 500) + 500) + ah_n h87 25 ≤ 1010) ∧ (∀ w95, w95 = ah_x h87 → (∀ h97, h97 = ah_sa (ah_nw h87 14 (ah_n h87 25)) w95 (ah_i h87 25) → (¬ b85 = ah_x h87) ∧ (¬ w75 = ah_x h87) ∧ (¬ b92 = ah_x h87) ∧ (Mt nX9_init [.ref w75, .ref b85, .ref b92, .int (x4 + 1), .ref w95] h97 (ab_qv fun h107 => Sh h107 ∧ ah_k h107 w75 = 9 ∧ Q (some (va_rf (some w75))) h107))))))))))))))))) ∧ (v53 = 0 → (vp_in (ah_i h51 20 6) (ah_n h51 22)) ∧ (∀ h112, h112 = ah_si h51 20 0 (ah_i h51 22 (Int32.toNatClampNeg (ah_i h51 20 6))) → Q (some (va_rf none)) h112)))))))))) ∧ (¬ x3 = 0 → (Mt mX5_readLaw [.ref 20, .int (x4 * 6)] h39 (ab_qi fun v117 h115 => Sh h115 ∧ ((v117 = 0 → (vp_in (ah_i h115 20 6) (ah_n h115 22)) ∧ (∀ h120, h120 = ah_si h115 20 0 (ah_i h115 22 (Int32.toNatClampNeg (ah_i h115 20 6))) → Q (some (va_rf none)) h120)) ∧ (¬ v117 = 0 → (Mt mX5_readIf [.ref 20, .int (x4 * 6)] h115 (ab_qi fun v125 h123 => Sh h123 ∧ ((¬ v125 = 0 → (vp_in ((x4 * 6) + 0) (ah_n h123 24)) ∧ (vp_in (ah_i h123 24 (Int32.toNatClampNeg ((x4 * 6) + 0))) (ah_n h123 25)) ∧ (vp_in (ah_i h123 24 (Int32.toNatClampNeg ((x4 * 6) + 0))) (ah_n h123 25)) ∧ (∀ h130, h130 = ah_si h123 25 (Int32.toNatClampNeg (ah_i h123 24 (Int32.toNatClampNeg ((x4 * 6) + 0)))) ((ah_i h123 25 (Int32.toNatClampNeg (ah_i h123 24 (Int32.toNatClampNeg ((x4 * 6) + 0))))) ||| (ah_i h123 20 10)) → (vp_in (ah_i h130 20 6) (ah_n h130 21)) ∧ ((¬ (ah_i h130 21 (Int32.toNatClampNeg (ah_i h130 20 6))) = 99 → (vp_in (ah_i h130 20 6) (ah_n h130 21)) ∧ (((ah_i h130 21 (Int32.toNatClampNeg (ah_i h130 20 6))) = 159 → (∀ h137, h137 = ah_si h130 20 6 ((ah_i h130 20 6) + 1) → Wp mX5_read Q 0 0 57 [some (.ref 20), none, none, some (.int x3), some (.int (x4 + 1)), none] [] h137)) ∧ (¬ (ah_i h130 21 (Int32.toNatClampNeg (ah_i h130 20 6))) = 159 → (vp_in (ah_i h130 20 6) (ah_n h130 22)) ∧ (∀ h141, h141 = ah_si h130 20 0 (ah_i h130 22 (Int32.toNatClampNeg (ah_i h130 20 6))) → Q (some (va_rf none)) h141)))) ∧ ((ah_i h130 21 (Int32.toNatClampNeg (ah_i h130 20 6))) = 99 → (∀ h144, h144 = ah_si h130 20 0 (-1) → (∀ w147, w147 = ah_x h144 → (∀ h149, h149 = ah_nw h144 9 0 → (Mt mJ7_copyOf_59c91 [.ref 23, .int (ah_i h149 20 7)] h149 (ab_qr fun v155 h153 => Sh h153 ∧ ah_k h153 w147 = 9 ∧ (∃ b157, v155 = some b157 ∧ ah_k h153 b157 = 14 ∧ (Mt mJ7_copyOf_59c91 [.ref 24, .int ((x4 * 6) + 6)] h153 (ab_qr fun v161 h159 => Sh h159 ∧ ah_k h159 b157 = 14 ∧ ah_k h159 w147 = 9 ∧ (∃ b164, v161 = some b164 ∧ ah_k h159 b164 = 14 ∧ ((((0 + 4) + 500) + 500) + ah_n h159 25 ≤ 1010) ∧ (∀ w167, w167 = ah_x h159 → (∀ h169, h169 = ah_sa (ah_nw h159 14 (ah_n h159 25)) w167 (ah_i h159 25) → (¬ b157 = ah_x h159) ∧ (¬ w147 = ah_x h159) ∧ (¬ b164 = ah_x h159) ∧ (Mt nX9_init [.ref w147, .ref b157, .ref b164, .int (x4 + 1), .ref w167] h169 (ab_qv fun h179 => Sh h179 ∧ ah_k h179 w147 = 9 ∧ Q (some (va_rf (some w147))) h179))))))))))))))))) ∧ (v125 = 0 → (vp_in (ah_i h123 20 6) (ah_n h123 22)) ∧ (∀ h184, h184 = ah_si h123 20 0 (ah_i h123 22 (Int32.toNatClampNeg (ah_i h123 20 6))) → Q (some (va_rf none)) h184))))))))))))))) : Wp mX5_read Q 0 0 57 [some (.ref 20), none, none, some (.int x3), some (.int x4), none] [] h := by
  refine ab_iload (i := 4) dX5_read_57 rfl ?_
  refine ab_bipush (v := 12) dX5_read_59 (by decide) ?_
  refine ab_icmp_ge (tgt := 232) dX5_read_61 (by decide) (fun c34 => ?_) (fun c34 => ?_)
  · have ht := ht.1 c34
    refine ab_aload_n (i := 0) dX5_read_232 rfl rfl ?_
    refine ab_aload_n (i := 0) dX5_read_233 rfl rfl ?_
    refine ab_getR (b := 22) f_X5_19 rfl (sh_k hs 20 5 (by decide) rfl) (sh_r hs 28 rfl) dX5_read_234 ?_
    refine ab_aload_n (i := 0) dX5_read_237 rfl rfl ?_
    refine ab_getI f_X5_31 rfl (sh_k hs 20 5 (by decide) rfl) dX5_read_238 ?_
    obtain ⟨hc35, ht⟩ := ht
    refine ab_iald (sh_k hs 22 14 (by decide) rfl) hc35 dX5_read_241 ?_
    refine ab_putI f_X5_9 (Or.inl rfl) rfl (sh_k hs 20 5 (by decide) rfl) rfl rfl dX5_read_242 ?_
    refine Wp.nm fun h36 e37 => ?_
    have ht := ht h36 e37
    have hs38 : Sh h36 := by rw [e37]; exact sh_si hs
    refine ab_null dX5_read_245 ?_
    exact ab_aret (r := none) rfl (by first | exact Or.inl ⟨_, rfl⟩ | exact Or.inr ⟨_, rfl⟩) dX5_read_246 (Nat.le_of_ble_eq_true rfl) (by first | exact (Nat.le_of_ble_eq_true rfl) | assumption | omega) ht
  · have ht := ht.2 c34
    refine ab_aload_n (i := 0) dX5_read_64 rfl rfl ?_
    refine ab_iconst (v := 0) dX5_read_65 (by decide) ?_
    refine ab_putI f_X5_43 (Or.inl rfl) rfl (sh_k hs 20 5 (by decide) rfl) rfl rfl dX5_read_66 ?_
    refine Wp.nm fun h39 e40 => ?_
    have ht := ht h39 e40
    have hs41 : Sh h39 := by rw [e40]; exact sh_si hs
    refine ab_iload (i := 4) dX5_read_69 rfl ?_
    refine ab_bipush (v := 6) dX5_read_71 (by decide) ?_
    refine ab_imul dX5_read_73 ?_
    refine ab_istore (i := 5) (L' := [some (.ref 20), none, none, some (.int x3), some (.int x4), some (.int (x4 * 6))]) dX5_read_74 (by exact (Nat.le_of_ble_eq_true rfl)) rfl rfl ?_
    refine ab_iload_n (i := 3) dX5_read_76 rfl rfl ?_
    refine ab_if_eq (tgt := 92) dX5_read_77 (by decide) (fun c42 => ?_) (fun c42 => ?_)
    · have ht := ht.1 c42
      refine ab_aload_n (i := 0) dX5_read_92 rfl rfl ?_
      refine ab_iload (i := 5) dX5_read_93 rfl ?_
      refine ab_callV (b := 20) (As := [.int (x4 * 6)]) ht (Y_X5_readRound) l_X5_59 in_X5_readRound se_X5_readRound (sh_k hs41 20 5 (by decide) rfl) (by decide) rfl rfl ⟨(Nat.le_of_ble_eq_true rfl), (Nat.le_of_ble_eq_true rfl), (Nat.le_of_ble_eq_true rfl), (Nat.le_of_ble_eq_true rfl)⟩ dX5_read_95 ?_
      rintro _ h43 ⟨v45, rfl, hs44, ht⟩
      refine ab_if_eq (tgt := 232) dX5_read_98 (by decide) (fun c46 => ?_) (fun c46 => ?_)
      · have ht := ht.1 c46
        refine ab_aload_n (i := 0) dX5_read_232 rfl rfl ?_
        refine ab_aload_n (i := 0) dX5_read_233 rfl rfl ?_
        refine ab_getR (b := 22) f_X5_19 rfl (sh_k hs44 20 5 (by decide) rfl) (sh_r hs44 28 rfl) dX5_read_234 ?_
        refine ab_aload_n (i := 0) dX5_read_237 rfl rfl ?_
        refine ab_getI f_X5_31 rfl (sh_k hs44 20 5 (by decide) rfl) dX5_read_238 ?_
        obtain ⟨hc47, ht⟩ := ht
        refine ab_iald (sh_k hs44 22 14 (by decide) rfl) hc47 dX5_read_241 ?_
        refine ab_putI f_X5_9 (Or.inl rfl) rfl (sh_k hs44 20 5 (by decide) rfl) rfl rfl dX5_read_242 ?_
        refine Wp.nm fun h48 e49 => ?_
        have ht := ht h48 e49
        have hs50 : Sh h48 := by rw [e49]; exact sh_si hs44
        refine ab_null dX5_read_245 ?_
        exact ab_aret (r := none) rfl (by first | exact Or.inl ⟨_, rfl⟩ | exact Or.inr ⟨_, rfl⟩) dX5_read_246 (Nat.le_of_ble_eq_true rfl) (by first | exact (Nat.le_of_ble_eq_true rfl) | assumption | omega) ht
      · have ht := ht.2 c46
        refine ab_aload_n (i := 0) dX5_read_101 rfl rfl ?_
        refine ab_iload (i := 5) dX5_read_102 rfl ?_
        refine ab_callV (b := 20) (As := [.int (x4 * 6)]) ht (Y_X5_readIf) l_X5_62 in_X5_readIf se_X5_readIf (sh_k hs44 20 5 (by decide) rfl) (by decide) rfl rfl ⟨(Nat.le_of_ble_eq_true rfl), (Nat.le_of_ble_eq_true rfl), (Nat.le_of_ble_eq_true rfl), (Nat.le_of_ble_eq_true rfl)⟩ dX5_read_104 ?_
        rintro _ h51 ⟨v53, rfl, hs52, ht⟩
        refine ab_if_ne (tgt := 113) dX5_read_107 (by decide) (fun c54 => ?_) (fun c54 => ?_)
        · have ht := ht.1 c54
          refine ab_aload_n (i := 0) dX5_read_113 rfl rfl ?_
          refine ab_getR (b := 25) f_X5_28 rfl (sh_k hs52 20 5 (by decide) rfl) (sh_r hs52 31 rfl) dX5_read_114 ?_
          refine ab_aload_n (i := 0) dX5_read_117 rfl rfl ?_
          refine ab_getR (b := 24) f_X5_25 rfl (sh_k hs52 20 5 (by decide) rfl) (sh_r hs52 30 rfl) dX5_read_118 ?_
          refine ab_iload (i := 5) dX5_read_121 rfl ?_
          refine ab_iconst (v := 0) dX5_read_123 (by decide) ?_
          refine ab_iadd dX5_read_124 ?_
          obtain ⟨hc55, ht⟩ := ht
          refine ab_iald (sh_k hs52 24 14 (by decide) rfl) hc55 dX5_read_125 ?_
          refine ab_dup2 dX5_read_126 rfl rfl ?_
          obtain ⟨hc56, ht⟩ := ht
          refine ab_iald (sh_k hs52 25 14 (by decide) rfl) hc56 dX5_read_127 ?_
          refine ab_aload_n (i := 0) dX5_read_128 rfl rfl ?_
          refine ab_getI f_X5_43 rfl (sh_k hs52 20 5 (by decide) rfl) dX5_read_129 ?_
          refine ab_ior dX5_read_132 ?_
          obtain ⟨hc57, ht⟩ := ht
          refine ab_iast (sh_k hs52 25 14 (by decide) rfl) hc57 dX5_read_133 ?_
          refine Wp.nm fun h58 e59 => ?_
          have ht := ht h58 e59
          have hs60 : Sh h58 := by rw [e59]; exact sh_si hs52
          refine ab_aload_n (i := 0) dX5_read_134 rfl rfl ?_
          refine ab_getR (b := 21) f_X5_15 rfl (sh_k hs60 20 5 (by decide) rfl) (sh_r hs60 27 rfl) dX5_read_135 ?_
          refine ab_aload_n (i := 0) dX5_read_138 rfl rfl ?_
          refine ab_getI f_X5_31 rfl (sh_k hs60 20 5 (by decide) rfl) dX5_read_139 ?_
          obtain ⟨hc61, ht⟩ := ht
          refine ab_iald (sh_k hs60 21 14 (by decide) rfl) hc61 dX5_read_142 ?_
          refine ab_bipush (v := 99) dX5_read_143 (by decide) ?_
          refine ab_icmp_ne (tgt := 198) dX5_read_145 (by decide) (fun c62 => ?_) (fun c62 => ?_)
          · have ht := ht.1 c62
            refine ab_aload_n (i := 0) dX5_read_198 rfl rfl ?_
            refine ab_getR (b := 21) f_X5_15 rfl (sh_k hs60 20 5 (by decide) rfl) (sh_r hs60 27 rfl) dX5_read_199 ?_
            refine ab_aload_n (i := 0) dX5_read_202 rfl rfl ?_
            refine ab_getI f_X5_31 rfl (sh_k hs60 20 5 (by decide) rfl) dX5_read_203 ?_
            obtain ⟨hc63, ht⟩ := ht
            refine ab_iald (sh_k hs60 21 14 (by decide) rfl) hc63 dX5_read_206 ?_
            refine ab_sipush (v := 159) dX5_read_207 (by decide) ?_
            refine ab_icmp_eq (tgt := 216) dX5_read_210 (by decide) (fun c64 => ?_) (fun c64 => ?_)
            · have ht := ht.1 c64
              refine ab_aload_n (i := 0) dX5_read_216 rfl rfl ?_
              refine ab_dup dX5_read_217 rfl ?_
              refine ab_getI f_X5_31 rfl (sh_k hs60 20 5 (by decide) rfl) dX5_read_218 ?_
              refine ab_iconst (v := 1) dX5_read_221 (by decide) ?_
              refine ab_iadd dX5_read_222 ?_
              refine ab_putI f_X5_31 (Or.inl rfl) rfl (sh_k hs60 20 5 (by decide) rfl) rfl rfl dX5_read_223 ?_
              refine Wp.nm fun h65 e66 => ?_
              have ht := ht h65 e66
              have hs67 : Sh h65 := by rw [e66]; exact sh_si hs60
              refine ab_iinc (i := 4) (x := x4) (v := (x4 + 1)) (L' := [some (.ref 20), none, none, some (.int x3), some (.int (x4 + 1)), some (.int (x4 * 6))]) dX5_read_226 rfl rfl (by exact (Nat.le_of_ble_eq_true rfl)) rfl rfl ?_
              refine ab_goto (tgt := 57) dX5_read_229 (by decide) ?_
              exact Wp.fewer (L' := [some (.ref 20), none, none, some (.int x3), some (.int (x4 + 1)), none]) (show ab_leL _ _ from ⟨rfl, ⟨rfl, ⟨rfl, trivial⟩⟩⟩) ht
            · have ht := ht.2 c64
              refine ab_goto (tgt := 232) dX5_read_213 (by decide) ?_
              refine ab_aload_n (i := 0) dX5_read_232 rfl rfl ?_
              refine ab_aload_n (i := 0) dX5_read_233 rfl rfl ?_
              refine ab_getR (b := 22) f_X5_19 rfl (sh_k hs60 20 5 (by decide) rfl) (sh_r hs60 28 rfl) dX5_read_234 ?_
              refine ab_aload_n (i := 0) dX5_read_237 rfl rfl ?_
              refine ab_getI f_X5_31 rfl (sh_k hs60 20 5 (by decide) rfl) dX5_read_238 ?_
              obtain ⟨hc68, ht⟩ := ht
              refine ab_iald (sh_k hs60 22 14 (by decide) rfl) hc68 dX5_read_241 ?_
              refine ab_putI f_X5_9 (Or.inl rfl) rfl (sh_k hs60 20 5 (by decide) rfl) rfl rfl dX5_read_242 ?_
              refine Wp.nm fun h69 e70 => ?_
              have ht := ht h69 e70
              have hs71 : Sh h69 := by rw [e70]; exact sh_si hs60
              refine ab_null dX5_read_245 ?_
              exact ab_aret (r := none) rfl (by first | exact Or.inl ⟨_, rfl⟩ | exact Or.inr ⟨_, rfl⟩) dX5_read_246 (Nat.le_of_ble_eq_true rfl) (by first | exact (Nat.le_of_ble_eq_true rfl) | assumption | omega) ht
          · have ht := ht.2 c62
            refine ab_aload_n (i := 0) dX5_read_148 rfl rfl ?_
            refine ab_iconst (v := (-1)) dX5_read_149 (by decide) ?_
            refine ab_putI f_X5_9 (Or.inl rfl) rfl (sh_k hs60 20 5 (by decide) rfl) rfl rfl dX5_read_150 ?_
            refine Wp.nm fun h72 e73 => ?_
            have ht := ht h72 e73
            have hs74 : Sh h72 := by rw [e73]; exact sh_si hs60
            refine ab_new k_X5_65 (Nat.le_of_ble_eq_true rfl) (Nat.le_of_ble_eq_true rfl) dX5_read_153 ?_
            obtain ⟨w75, ew76⟩ : ∃ z, z = ah_x h72 := ⟨_, rfl⟩
            rw [← ew76]
            have ht := ht w75 ew76
            refine Wp.nm fun h77 e78 => ?_
            have ht := ht h77 e78
            have hs79 : Sh h77 := by rw [e78]; exact sh_nw hs74
            have hk80 : ah_k h77 w75 = 9 := by rw [e78, ew76, ah_k_nw, if_pos rfl]
            refine ab_dup dX5_read_156 rfl ?_
            refine ab_aload_n (i := 0) dX5_read_157 rfl rfl ?_
            refine ab_getR (b := 23) f_X5_22 rfl (sh_k hs79 20 5 (by decide) rfl) (sh_r hs79 29 rfl) dX5_read_158 ?_
            refine ab_aload_n (i := 0) dX5_read_161 rfl rfl ?_
            refine ab_getI f_X5_34 rfl (sh_k hs79 20 5 (by decide) rfl) dX5_read_162 ?_
            refine ab_callS (As := [.ref 23, .int (ah_i h77 20 7)]) ht (Y_J7_copyOf_59c91) l_X5_67 st_J7_copyOf_59c91 rfl ⟨(Nat.le_of_ble_eq_true rfl), (Nat.le_of_ble_eq_true rfl), (Nat.le_of_ble_eq_true rfl), (Nat.le_of_ble_eq_true rfl)⟩ dX5_read_165 ?_
            rintro _ h81 ⟨v83, rfl, hs82, hk84, ht⟩
            obtain ⟨b85, rfl, hk86, ht⟩ := ht
            refine ab_aload_n (i := 0) dX5_read_168 rfl rfl ?_
            refine ab_getR (b := 24) f_X5_25 rfl (sh_k hs82 20 5 (by decide) rfl) (sh_r hs82 30 rfl) dX5_read_169 ?_
            refine ab_iload (i := 5) dX5_read_172 rfl ?_
            refine ab_bipush (v := 6) dX5_read_174 (by decide) ?_
            refine ab_iadd dX5_read_176 ?_
            refine ab_callS (As := [.ref 24, .int ((x4 * 6) + 6)]) ht (Y_J7_copyOf_59c91) l_X5_67 st_J7_copyOf_59c91 rfl ⟨(Nat.le_of_ble_eq_true rfl), (Nat.le_of_ble_eq_true rfl), (Nat.le_of_ble_eq_true rfl), (Nat.le_of_ble_eq_true rfl)⟩ dX5_read_177 ?_
            rintro _ h87 ⟨v89, rfl, hs88, hk90, hk91, ht⟩
            obtain ⟨b92, rfl, hk93, ht⟩ := ht
            refine ab_iload (i := 4) dX5_read_180 rfl ?_
            refine ab_iconst (v := 1) dX5_read_182 (by decide) ?_
            refine ab_iadd dX5_read_183 ?_
            refine ab_aload_n (i := 0) dX5_read_184 rfl rfl ?_
            refine ab_getR (b := 25) f_X5_28 rfl (sh_k hs88 20 5 (by decide) rfl) (sh_r hs88 31 rfl) dX5_read_185 ?_
            obtain ⟨hc94, ht⟩ := ht
            refine ab_clone (tb_4 (List.mem_of_getElem? (i := 211) (by decide +kernel)) rfl) cl_same cl_nat cl_inst cl_sel (sh_k hs88 25 14 (by decide) rfl) (Nat.le_of_ble_eq_true rfl) (Nat.le_of_ble_eq_true rfl) (Nat.le_of_ble_eq_true rfl) hc94 dX5_read_188 ?_
            refine Wp.wide (c1 := (((0 + 1) + 1) + 1) + 1) (s1 := (((0 + 4) + 500) + 500) + 5) (Nat.le_refl _) (Nat.add_le_add_left (Nat.le_of_eq (sh_n hs88 25 5 (by decide) (by decide) rfl)) _) ?_
            obtain ⟨w95, ew96⟩ : ∃ z, z = ah_x h87 := ⟨_, rfl⟩
            rw [← ew96]
            have ht := ht w95 ew96
            refine Wp.nm fun h97 e98 => ?_
            have ht := ht h97 e98
            have hs99 : Sh h97 := by rw [e98]; exact sh_sa (sh_nw hs88)
            have hc101 := ht.1
            have ht := ht.2
            have hk100 : ah_k h97 b85 = 14 := by rw [e98, ah_k_sa, ah_k_nw, if_neg hc101]; exact hk90
            have hc103 := ht.1
            have ht := ht.2
            have hk102 : ah_k h97 w75 = 9 := by rw [e98, ah_k_sa, ah_k_nw, if_neg hc103]; exact hk91
            have hc105 := ht.1
            have ht := ht.2
            have hk104 : ah_k h97 b92 = 14 := by rw [e98, ah_k_sa, ah_k_nw, if_neg hc105]; exact hk93
            have hk106 : ah_k h97 w95 = 14 := by rw [e98, ew96, ah_k_sa, ah_k_nw, if_pos rfl]
            refine ab_castI (tb_4 (List.mem_of_getElem? (i := 212) (by decide +kernel)) rfl) hk106 dX5_read_191 ?_
            refine ab_callI (b := w75) (As := [.ref b85, .ref b92, .int (x4 + 1), .ref w95]) ht (Y_X9_init) rfl rfl l_X5_76 in_X9_init rfl ⟨(Nat.le_of_ble_eq_true rfl), (Nat.le_of_ble_eq_true rfl), (Nat.le_of_ble_eq_true rfl), (Nat.le_of_ble_eq_true rfl)⟩ dX5_read_194 ?_
            rintro _ h107 ⟨rfl, hs108, hk110, ht⟩
            exact ab_aret (r := (some w75)) rfl (by first | exact Or.inl ⟨_, rfl⟩ | exact Or.inr ⟨_, rfl⟩) dX5_read_197 (Nat.le_of_ble_eq_true rfl) (by first | exact (Nat.le_of_ble_eq_true rfl) | assumption | omega) ht
        · have ht := ht.2 c54
          refine ab_goto (tgt := 232) dX5_read_110 (by decide) ?_
          refine ab_aload_n (i := 0) dX5_read_232 rfl rfl ?_
          refine ab_aload_n (i := 0) dX5_read_233 rfl rfl ?_
          refine ab_getR (b := 22) f_X5_19 rfl (sh_k hs52 20 5 (by decide) rfl) (sh_r hs52 28 rfl) dX5_read_234 ?_
          refine ab_aload_n (i := 0) dX5_read_237 rfl rfl ?_
          refine ab_getI f_X5_31 rfl (sh_k hs52 20 5 (by decide) rfl) dX5_read_238 ?_
          obtain ⟨hc111, ht⟩ := ht
          refine ab_iald (sh_k hs52 22 14 (by decide) rfl) hc111 dX5_read_241 ?_
          refine ab_putI f_X5_9 (Or.inl rfl) rfl (sh_k hs52 20 5 (by decide) rfl) rfl rfl dX5_read_242 ?_
          refine Wp.nm fun h112 e113 => ?_
          have ht := ht h112 e113
          have hs114 : Sh h112 := by rw [e113]; exact sh_si hs52
          refine ab_null dX5_read_245 ?_
          exact ab_aret (r := none) rfl (by first | exact Or.inl ⟨_, rfl⟩ | exact Or.inr ⟨_, rfl⟩) dX5_read_246 (Nat.le_of_ble_eq_true rfl) (by first | exact (Nat.le_of_ble_eq_true rfl) | assumption | omega) ht
    · have ht := ht.2 c42
      refine ab_aload_n (i := 0) dX5_read_80 rfl rfl ?_
      refine ab_iload (i := 5) dX5_read_81 rfl ?_
      refine ab_callV (b := 20) (As := [.int (x4 * 6)]) ht (Y_X5_readLaw) l_X5_55 in_X5_readLaw se_X5_readLaw (sh_k hs41 20 5 (by decide) rfl) (by decide) rfl rfl ⟨(Nat.le_of_ble_eq_true rfl), (Nat.le_of_ble_eq_true rfl), (Nat.le_of_ble_eq_true rfl), (Nat.le_of_ble_eq_true rfl)⟩ dX5_read_83 ?_
      rintro _ h115 ⟨v117, rfl, hs116, ht⟩
      refine ab_if_eq (tgt := 232) dX5_read_86 (by decide) (fun c118 => ?_) (fun c118 => ?_)
      · have ht := ht.1 c118
        refine ab_aload_n (i := 0) dX5_read_232 rfl rfl ?_
        refine ab_aload_n (i := 0) dX5_read_233 rfl rfl ?_
        refine ab_getR (b := 22) f_X5_19 rfl (sh_k hs116 20 5 (by decide) rfl) (sh_r hs116 28 rfl) dX5_read_234 ?_
        refine ab_aload_n (i := 0) dX5_read_237 rfl rfl ?_
        refine ab_getI f_X5_31 rfl (sh_k hs116 20 5 (by decide) rfl) dX5_read_238 ?_
        obtain ⟨hc119, ht⟩ := ht
        refine ab_iald (sh_k hs116 22 14 (by decide) rfl) hc119 dX5_read_241 ?_
        refine ab_putI f_X5_9 (Or.inl rfl) rfl (sh_k hs116 20 5 (by decide) rfl) rfl rfl dX5_read_242 ?_
        refine Wp.nm fun h120 e121 => ?_
        have ht := ht h120 e121
        have hs122 : Sh h120 := by rw [e121]; exact sh_si hs116
        refine ab_null dX5_read_245 ?_
        exact ab_aret (r := none) rfl (by first | exact Or.inl ⟨_, rfl⟩ | exact Or.inr ⟨_, rfl⟩) dX5_read_246 (Nat.le_of_ble_eq_true rfl) (by first | exact (Nat.le_of_ble_eq_true rfl) | assumption | omega) ht
      · have ht := ht.2 c118
        refine ab_goto (tgt := 101) dX5_read_89 (by decide) ?_
        refine ab_aload_n (i := 0) dX5_read_101 rfl rfl ?_
        refine ab_iload (i := 5) dX5_read_102 rfl ?_
        refine ab_callV (b := 20) (As := [.int (x4 * 6)]) ht (Y_X5_readIf) l_X5_62 in_X5_readIf se_X5_readIf (sh_k hs116 20 5 (by decide) rfl) (by decide) rfl rfl ⟨(Nat.le_of_ble_eq_true rfl), (Nat.le_of_ble_eq_true rfl), (Nat.le_of_ble_eq_true rfl), (Nat.le_of_ble_eq_true rfl)⟩ dX5_read_104 ?_
        rintro _ h123 ⟨v125, rfl, hs124, ht⟩
        refine ab_if_ne (tgt := 113) dX5_read_107 (by decide) (fun c126 => ?_) (fun c126 => ?_)
        · have ht := ht.1 c126
          refine ab_aload_n (i := 0) dX5_read_113 rfl rfl ?_
          refine ab_getR (b := 25) f_X5_28 rfl (sh_k hs124 20 5 (by decide) rfl) (sh_r hs124 31 rfl) dX5_read_114 ?_
          refine ab_aload_n (i := 0) dX5_read_117 rfl rfl ?_
          refine ab_getR (b := 24) f_X5_25 rfl (sh_k hs124 20 5 (by decide) rfl) (sh_r hs124 30 rfl) dX5_read_118 ?_
          refine ab_iload (i := 5) dX5_read_121 rfl ?_
          refine ab_iconst (v := 0) dX5_read_123 (by decide) ?_
          refine ab_iadd dX5_read_124 ?_
          obtain ⟨hc127, ht⟩ := ht
          refine ab_iald (sh_k hs124 24 14 (by decide) rfl) hc127 dX5_read_125 ?_
          refine ab_dup2 dX5_read_126 rfl rfl ?_
          obtain ⟨hc128, ht⟩ := ht
          refine ab_iald (sh_k hs124 25 14 (by decide) rfl) hc128 dX5_read_127 ?_
          refine ab_aload_n (i := 0) dX5_read_128 rfl rfl ?_
          refine ab_getI f_X5_43 rfl (sh_k hs124 20 5 (by decide) rfl) dX5_read_129 ?_
          refine ab_ior dX5_read_132 ?_
          obtain ⟨hc129, ht⟩ := ht
          refine ab_iast (sh_k hs124 25 14 (by decide) rfl) hc129 dX5_read_133 ?_
          refine Wp.nm fun h130 e131 => ?_
          have ht := ht h130 e131
          have hs132 : Sh h130 := by rw [e131]; exact sh_si hs124
          refine ab_aload_n (i := 0) dX5_read_134 rfl rfl ?_
          refine ab_getR (b := 21) f_X5_15 rfl (sh_k hs132 20 5 (by decide) rfl) (sh_r hs132 27 rfl) dX5_read_135 ?_
          refine ab_aload_n (i := 0) dX5_read_138 rfl rfl ?_
          refine ab_getI f_X5_31 rfl (sh_k hs132 20 5 (by decide) rfl) dX5_read_139 ?_
          obtain ⟨hc133, ht⟩ := ht
          refine ab_iald (sh_k hs132 21 14 (by decide) rfl) hc133 dX5_read_142 ?_
          refine ab_bipush (v := 99) dX5_read_143 (by decide) ?_
          refine ab_icmp_ne (tgt := 198) dX5_read_145 (by decide) (fun c134 => ?_) (fun c134 => ?_)
          · have ht := ht.1 c134
            refine ab_aload_n (i := 0) dX5_read_198 rfl rfl ?_
            refine ab_getR (b := 21) f_X5_15 rfl (sh_k hs132 20 5 (by decide) rfl) (sh_r hs132 27 rfl) dX5_read_199 ?_
            refine ab_aload_n (i := 0) dX5_read_202 rfl rfl ?_
            refine ab_getI f_X5_31 rfl (sh_k hs132 20 5 (by decide) rfl) dX5_read_203 ?_
            obtain ⟨hc135, ht⟩ := ht
            refine ab_iald (sh_k hs132 21 14 (by decide) rfl) hc135 dX5_read_206 ?_
            refine ab_sipush (v := 159) dX5_read_207 (by decide) ?_
            refine ab_icmp_eq (tgt := 216) dX5_read_210 (by decide) (fun c136 => ?_) (fun c136 => ?_)
            · have ht := ht.1 c136
              refine ab_aload_n (i := 0) dX5_read_216 rfl rfl ?_
              refine ab_dup dX5_read_217 rfl ?_
              refine ab_getI f_X5_31 rfl (sh_k hs132 20 5 (by decide) rfl) dX5_read_218 ?_
              refine ab_iconst (v := 1) dX5_read_221 (by decide) ?_
              refine ab_iadd dX5_read_222 ?_
              refine ab_putI f_X5_31 (Or.inl rfl) rfl (sh_k hs132 20 5 (by decide) rfl) rfl rfl dX5_read_223 ?_
              refine Wp.nm fun h137 e138 => ?_
              have ht := ht h137 e138
              have hs139 : Sh h137 := by rw [e138]; exact sh_si hs132
              refine ab_iinc (i := 4) (x := x4) (v := (x4 + 1)) (L' := [some (.ref 20), none, none, some (.int x3), some (.int (x4 + 1)), some (.int (x4 * 6))]) dX5_read_226 rfl rfl (by exact (Nat.le_of_ble_eq_true rfl)) rfl rfl ?_
              refine ab_goto (tgt := 57) dX5_read_229 (by decide) ?_
              exact Wp.fewer (L' := [some (.ref 20), none, none, some (.int x3), some (.int (x4 + 1)), none]) (show ab_leL _ _ from ⟨rfl, ⟨rfl, ⟨rfl, trivial⟩⟩⟩) ht
            · have ht := ht.2 c136
              refine ab_goto (tgt := 232) dX5_read_213 (by decide) ?_
              refine ab_aload_n (i := 0) dX5_read_232 rfl rfl ?_
              refine ab_aload_n (i := 0) dX5_read_233 rfl rfl ?_
              refine ab_getR (b := 22) f_X5_19 rfl (sh_k hs132 20 5 (by decide) rfl) (sh_r hs132 28 rfl) dX5_read_234 ?_
              refine ab_aload_n (i := 0) dX5_read_237 rfl rfl ?_
              refine ab_getI f_X5_31 rfl (sh_k hs132 20 5 (by decide) rfl) dX5_read_238 ?_
              obtain ⟨hc140, ht⟩ := ht
              refine ab_iald (sh_k hs132 22 14 (by decide) rfl) hc140 dX5_read_241 ?_
              refine ab_putI f_X5_9 (Or.inl rfl) rfl (sh_k hs132 20 5 (by decide) rfl) rfl rfl dX5_read_242 ?_
              refine Wp.nm fun h141 e142 => ?_
              have ht := ht h141 e142
              have hs143 : Sh h141 := by rw [e142]; exact sh_si hs132
              refine ab_null dX5_read_245 ?_
              exact ab_aret (r := none) rfl (by first | exact Or.inl ⟨_, rfl⟩ | exact Or.inr ⟨_, rfl⟩) dX5_read_246 (Nat.le_of_ble_eq_true rfl) (by first | exact (Nat.le_of_ble_eq_true rfl) | assumption | omega) ht
          · have ht := ht.2 c134
            refine ab_aload_n (i := 0) dX5_read_148 rfl rfl ?_
            refine ab_iconst (v := (-1)) dX5_read_149 (by decide) ?_
            refine ab_putI f_X5_9 (Or.inl rfl) rfl (sh_k hs132 20 5 (by decide) rfl) rfl rfl dX5_read_150 ?_
            refine Wp.nm fun h144 e145 => ?_
            have ht := ht h144 e145
            have hs146 : Sh h144 := by rw [e145]; exact sh_si hs132
            refine ab_new k_X5_65 (Nat.le_of_ble_eq_true rfl) (Nat.le_of_ble_eq_true rfl) dX5_read_153 ?_
            obtain ⟨w147, ew148⟩ : ∃ z, z = ah_x h144 := ⟨_, rfl⟩
            rw [← ew148]
            have ht := ht w147 ew148
            refine Wp.nm fun h149 e150 => ?_
            have ht := ht h149 e150
            have hs151 : Sh h149 := by rw [e150]; exact sh_nw hs146
            have hk152 : ah_k h149 w147 = 9 := by rw [e150, ew148, ah_k_nw, if_pos rfl]
            refine ab_dup dX5_read_156 rfl ?_
            refine ab_aload_n (i := 0) dX5_read_157 rfl rfl ?_
            refine ab_getR (b := 23) f_X5_22 rfl (sh_k hs151 20 5 (by decide) rfl) (sh_r hs151 29 rfl) dX5_read_158 ?_
            refine ab_aload_n (i := 0) dX5_read_161 rfl rfl ?_
            refine ab_getI f_X5_34 rfl (sh_k hs151 20 5 (by decide) rfl) dX5_read_162 ?_
            refine ab_callS (As := [.ref 23, .int (ah_i h149 20 7)]) ht (Y_J7_copyOf_59c91) l_X5_67 st_J7_copyOf_59c91 rfl ⟨(Nat.le_of_ble_eq_true rfl), (Nat.le_of_ble_eq_true rfl), (Nat.le_of_ble_eq_true rfl), (Nat.le_of_ble_eq_true rfl)⟩ dX5_read_165 ?_
            rintro _ h153 ⟨v155, rfl, hs154, hk156, ht⟩
            obtain ⟨b157, rfl, hk158, ht⟩ := ht
            refine ab_aload_n (i := 0) dX5_read_168 rfl rfl ?_
            refine ab_getR (b := 24) f_X5_25 rfl (sh_k hs154 20 5 (by decide) rfl) (sh_r hs154 30 rfl) dX5_read_169 ?_
            refine ab_iload (i := 5) dX5_read_172 rfl ?_
            refine ab_bipush (v := 6) dX5_read_174 (by decide) ?_
            refine ab_iadd dX5_read_176 ?_
            refine ab_callS (As := [.ref 24, .int ((x4 * 6) + 6)]) ht (Y_J7_copyOf_59c91) l_X5_67 st_J7_copyOf_59c91 rfl ⟨(Nat.le_of_ble_eq_true rfl), (Nat.le_of_ble_eq_true rfl), (Nat.le_of_ble_eq_true rfl), (Nat.le_of_ble_eq_true rfl)⟩ dX5_read_177 ?_
            rintro _ h159 ⟨v161, rfl, hs160, hk162, hk163, ht⟩
            obtain ⟨b164, rfl, hk165, ht⟩ := ht
            refine ab_iload (i := 4) dX5_read_180 rfl ?_
            refine ab_iconst (v := 1) dX5_read_182 (by decide) ?_
            refine ab_iadd dX5_read_183 ?_
            refine ab_aload_n (i := 0) dX5_read_184 rfl rfl ?_
            refine ab_getR (b := 25) f_X5_28 rfl (sh_k hs160 20 5 (by decide) rfl) (sh_r hs160 31 rfl) dX5_read_185 ?_
            obtain ⟨hc166, ht⟩ := ht
            refine ab_clone (tb_4 (List.mem_of_getElem? (i := 211) (by decide +kernel)) rfl) cl_same cl_nat cl_inst cl_sel (sh_k hs160 25 14 (by decide) rfl) (Nat.le_of_ble_eq_true rfl) (Nat.le_of_ble_eq_true rfl) (Nat.le_of_ble_eq_true rfl) hc166 dX5_read_188 ?_
            refine Wp.wide (c1 := (((0 + 1) + 1) + 1) + 1) (s1 := (((0 + 4) + 500) + 500) + 5) (Nat.le_refl _) (Nat.add_le_add_left (Nat.le_of_eq (sh_n hs160 25 5 (by decide) (by decide) rfl)) _) ?_
            obtain ⟨w167, ew168⟩ : ∃ z, z = ah_x h159 := ⟨_, rfl⟩
            rw [← ew168]
            have ht := ht w167 ew168
            refine Wp.nm fun h169 e170 => ?_
            have ht := ht h169 e170
            have hs171 : Sh h169 := by rw [e170]; exact sh_sa (sh_nw hs160)
            have hc173 := ht.1
            have ht := ht.2
            have hk172 : ah_k h169 b157 = 14 := by rw [e170, ah_k_sa, ah_k_nw, if_neg hc173]; exact hk162
            have hc175 := ht.1
            have ht := ht.2
            have hk174 : ah_k h169 w147 = 9 := by rw [e170, ah_k_sa, ah_k_nw, if_neg hc175]; exact hk163
            have hc177 := ht.1
            have ht := ht.2
            have hk176 : ah_k h169 b164 = 14 := by rw [e170, ah_k_sa, ah_k_nw, if_neg hc177]; exact hk165
            have hk178 : ah_k h169 w167 = 14 := by rw [e170, ew168, ah_k_sa, ah_k_nw, if_pos rfl]
            refine ab_castI (tb_4 (List.mem_of_getElem? (i := 212) (by decide +kernel)) rfl) hk178 dX5_read_191 ?_
            refine ab_callI (b := w147) (As := [.ref b157, .ref b164, .int (x4 + 1), .ref w167]) ht (Y_X9_init) rfl rfl l_X5_76 in_X9_init rfl ⟨(Nat.le_of_ble_eq_true rfl), (Nat.le_of_ble_eq_true rfl), (Nat.le_of_ble_eq_true rfl), (Nat.le_of_ble_eq_true rfl)⟩ dX5_read_194 ?_
            rintro _ h179 ⟨rfl, hs180, hk182, ht⟩
            exact ab_aret (r := (some w147)) rfl (by first | exact Or.inl ⟨_, rfl⟩ | exact Or.inr ⟨_, rfl⟩) dX5_read_197 (Nat.le_of_ble_eq_true rfl) (by first | exact (Nat.le_of_ble_eq_true rfl) | assumption | omega) ht
        · have ht := ht.2 c126
          refine ab_goto (tgt := 232) dX5_read_110 (by decide) ?_
          refine ab_aload_n (i := 0) dX5_read_232 rfl rfl ?_
          refine ab_aload_n (i := 0) dX5_read_233 rfl rfl ?_
          refine ab_getR (b := 22) f_X5_19 rfl (sh_k hs124 20 5 (by decide) rfl) (sh_r hs124 28 rfl) dX5_read_234 ?_
          refine ab_aload_n (i := 0) dX5_read_237 rfl rfl ?_
          refine ab_getI f_X5_31 rfl (sh_k hs124 20 5 (by decide) rfl) dX5_read_238 ?_
          obtain ⟨hc183, ht⟩ := ht
          refine ab_iald (sh_k hs124 22 14 (by decide) rfl) hc183 dX5_read_241 ?_
          refine ab_putI f_X5_9 (Or.inl rfl) rfl (sh_k hs124 20 5 (by decide) rfl) rfl rfl dX5_read_242 ?_
          refine Wp.nm fun h184 e185 => ?_
          have ht := ht h184 e185
          have hs186 : Sh h184 := by rw [e185]; exact sh_si hs124
          refine ab_null dX5_read_245 ?_
          exact ab_aret (r := none) rfl (by first | exact Or.inl ⟨_, rfl⟩ | exact Or.inr ⟨_, rfl⟩) dX5_read_246 (Nat.le_of_ble_eq_true rfl) (by first | exact (Nat.le_of_ble_eq_true rfl) | assumption | omega) ht
set_option maxRecDepth 20000 in
theorem T_X5_read {Q : Option Value → ah_T → Prop} {h : ah_T} (hs : Sh h) (a1 : Nat) (x2 : Int32) (x3 : Int32) (hk_a1 : ah_k h a1 = 14) (ht : (Mt mX5_split [.ref 20, .ref a1, .int x2] h (ab_qv fun h1 => Sh h1 ∧ ah_k h1 a1 = 14 ∧ (Mt mJ7_fill_53178 [.ref 24, .int (-1)] h1 (ab_qv fun h5 => Sh h5 ∧ ah_k h5 a1 = 14 ∧ (Mt mJ7_fill_53178 [.ref 25, .int 0] h5 (ab_qv fun h9 => Sh h9 ∧ ah_k h9 a1 = 14 ∧ (∀ h13, h13 = ah_si h9 20 6 0 → (∀ h17, h17 = ah_si h13 20 7 0 → (∀ h21, h21 = ah_si h17 20 8 0 → ((x3 = 0 → (∀ h26, h26 = ah_si h21 20 9 8000 → Wp mX5_read Q 0 0 57 [some (.ref 20), none, none, some (.int x3), some (.int 0), none] [] h26)) ∧ (¬ x3 = 0 → (∀ h30, h30 = ah_si h21 20 9 255 → Wp mX5_read Q 0 0 57 [some (.ref 20), none, none, some (.int x3), some (.int 0), none] [] h30))))))))))))) : Mt mX5_read [.ref 20, .ref a1, .int x2, .int x3] h Q := by
  refine Mt.ofWp rfl (by exact (Nat.le_of_ble_eq_true rfl)) (Wp.fewer (L' := [some (.ref 20), some (.ref a1), some (.int x2), some (.int x3), none, none]) (show ab_leL _ _ from ⟨rfl, ⟨rfl, ⟨rfl, ⟨rfl, trivial⟩⟩⟩⟩) ?_)
  refine ab_aload_n (i := 0) dX5_read_0 rfl rfl ?_
  refine ab_aload_n (i := 1) dX5_read_1 rfl rfl ?_
  refine ab_iload_n (i := 2) dX5_read_2 rfl rfl ?_
  refine ab_callV (b := 20) (As := [.ref a1, .int x2]) ht (Y_X5_split) l_X5_46 in_X5_split se_X5_split (sh_k hs 20 5 (by decide) rfl) (by decide) rfl rfl ⟨(Nat.le_of_ble_eq_true rfl), (Nat.le_of_ble_eq_true rfl), (Nat.le_of_ble_eq_true rfl), (Nat.le_of_ble_eq_true rfl)⟩ dX5_read_3 ?_
  rintro _ h1 ⟨rfl, hs2, hk4, ht⟩
  refine ab_aload_n (i := 0) dX5_read_6 rfl rfl ?_
  refine ab_getR (b := 24) f_X5_25 rfl (sh_k hs2 20 5 (by decide) rfl) (sh_r hs2 30 rfl) dX5_read_7 ?_
  refine ab_iconst (v := (-1)) dX5_read_10 (by decide) ?_
  refine ab_callS (As := [.ref 24, .int (-1)]) ht (Y_J7_fill_53178) l_X5_50 st_J7_fill_53178 rfl ⟨(Nat.le_of_ble_eq_true rfl), (Nat.le_of_ble_eq_true rfl), (Nat.le_of_ble_eq_true rfl), (Nat.le_of_ble_eq_true rfl)⟩ dX5_read_11 ?_
  rintro _ h5 ⟨rfl, hs6, hk8, ht⟩
  refine ab_aload_n (i := 0) dX5_read_14 rfl rfl ?_
  refine ab_getR (b := 25) f_X5_28 rfl (sh_k hs6 20 5 (by decide) rfl) (sh_r hs6 31 rfl) dX5_read_15 ?_
  refine ab_iconst (v := 0) dX5_read_18 (by decide) ?_
  refine ab_callS (As := [.ref 25, .int 0]) ht (Y_J7_fill_53178) l_X5_50 st_J7_fill_53178 rfl ⟨(Nat.le_of_ble_eq_true rfl), (Nat.le_of_ble_eq_true rfl), (Nat.le_of_ble_eq_true rfl), (Nat.le_of_ble_eq_true rfl)⟩ dX5_read_19 ?_
  rintro _ h9 ⟨rfl, hs10, hk12, ht⟩
  refine ab_aload_n (i := 0) dX5_read_22 rfl rfl ?_
  refine ab_iconst (v := 0) dX5_read_23 (by decide) ?_
  refine ab_putI f_X5_31 (Or.inl rfl) rfl (sh_k hs10 20 5 (by decide) rfl) rfl rfl dX5_read_24 ?_
  refine Wp.nm fun h13 e14 => ?_
  have ht := ht h13 e14
  have hs15 : Sh h13 := by rw [e14]; exact sh_si hs10
  have hk16 : ah_k h13 a1 = 14 := by rw [e14]; exact hk12
  refine ab_aload_n (i := 0) dX5_read_27 rfl rfl ?_
  refine ab_iconst (v := 0) dX5_read_28 (by decide) ?_
  refine ab_putI f_X5_34 (Or.inl rfl) rfl (sh_k hs15 20 5 (by decide) rfl) rfl rfl dX5_read_29 ?_
  refine Wp.nm fun h17 e18 => ?_
  have ht := ht h17 e18
  have hs19 : Sh h17 := by rw [e18]; exact sh_si hs15
  have hk20 : ah_k h17 a1 = 14 := by rw [e18]; exact hk16
  refine ab_aload_n (i := 0) dX5_read_32 rfl rfl ?_
  refine ab_iconst (v := 0) dX5_read_33 (by decide) ?_
  refine ab_putI f_X5_37 (Or.inl rfl) rfl (sh_k hs19 20 5 (by decide) rfl) rfl rfl dX5_read_34 ?_
  refine Wp.nm fun h21 e22 => ?_
  have ht := ht h21 e22
  have hs23 : Sh h21 := by rw [e22]; exact sh_si hs19
  have hk24 : ah_k h21 a1 = 14 := by rw [e22]; exact hk20
  refine ab_aload_n (i := 0) dX5_read_37 rfl rfl ?_
  refine ab_iload_n (i := 3) dX5_read_38 rfl rfl ?_
  refine ab_if_eq (tgt := 48) dX5_read_39 (by decide) (fun c25 => ?_) (fun c25 => ?_)
  · have ht := ht.1 c25
    refine ab_sipush (v := 8000) dX5_read_48 (by decide) ?_
    refine ab_putI f_X5_40 (Or.inl rfl) rfl (sh_k hs23 20 5 (by decide) rfl) rfl rfl dX5_read_51 ?_
    refine Wp.nm fun h26 e27 => ?_
    have ht := ht h26 e27
    have hs28 : Sh h26 := by rw [e27]; exact sh_si hs23
    have hk29 : ah_k h26 a1 = 14 := by rw [e27]; exact hk24
    refine ab_iconst (v := 0) dX5_read_54 (by decide) ?_
    refine ab_istore (i := 4) (L' := [some (.ref 20), some (.ref a1), some (.int x2), some (.int x3), some (.int 0), none]) dX5_read_55 (by exact (Nat.le_of_ble_eq_true rfl)) rfl rfl ?_
    exact Wp.fewer (L' := [some (.ref 20), none, none, some (.int x3), some (.int 0), none]) (show ab_leL _ _ from ⟨rfl, ⟨rfl, ⟨rfl, trivial⟩⟩⟩) ht
  · have ht := ht.2 c25
    refine ab_sipush (v := 255) dX5_read_42 (by decide) ?_
    refine ab_goto (tgt := 51) dX5_read_45 (by decide) ?_
    refine ab_putI f_X5_40 (Or.inl rfl) rfl (sh_k hs23 20 5 (by decide) rfl) rfl rfl dX5_read_51 ?_
    refine Wp.nm fun h30 e31 => ?_
    have ht := ht h30 e31
    have hs32 : Sh h30 := by rw [e31]; exact sh_si hs23
    have hk33 : ah_k h30 a1 = 14 := by rw [e31]; exact hk24
    refine ab_iconst (v := 0) dX5_read_54 (by decide) ?_
    refine ab_istore (i := 4) (L' := [some (.ref 20), some (.ref a1), some (.int x2), some (.int x3), some (.int 0), none]) dX5_read_55 (by exact (Nat.le_of_ble_eq_true rfl)) rfl rfl ?_
    exact Wp.fewer (L' := [some (.ref 20), none, none, some (.int x3), some (.int 0), none]) (show ab_leL _ _ from ⟨rfl, ⟨rfl, ⟨rfl, trivial⟩⟩⟩) ht
theorem dX11_image_0 : decode cX11_image 0 = .ok (.iload_n 1, 1) := by decide +kernel
theorem dX11_image_1 : decode cX11_image 1 = .ok (.iconst 2, 1) := by decide +kernel
theorem dX11_image_2 : decode cX11_image 2 = .ok (.invokestatic 119, 3) := by decide +kernel
theorem dX11_image_5 : decode cX11_image 5 = .ok (.ifCond .ne 9, 3) := by decide +kernel
theorem dX11_image_8 : decode cX11_image 8 = .ok (.aload_n 0, 1) := by decide +kernel
theorem dX11_image_9 : decode cX11_image 9 = .ok (.iconst (-1), 1) := by decide +kernel
theorem dX11_image_10 : decode cX11_image 10 = .ok (.invokevirtual 123, 3) := by decide +kernel
theorem dX11_image_13 : decode cX11_image 13 = .ok (.ireturn, 1) := by decide +kernel
theorem dX11_image_14 : decode cX11_image 14 = .ok (.aload_n 0, 1) := by decide +kernel
theorem dX11_image_15 : decode cX11_image 15 = .ok (.getfield 16, 3) := by decide +kernel
theorem dX11_image_18 : decode cX11_image 18 = .ok (.iload_n 1, 1) := by decide +kernel
theorem dX11_image_19 : decode cX11_image 19 = .ok (.aaload, 1) := by decide +kernel
theorem dX11_image_20 : decode cX11_image 20 = .ok (.astore_n 2, 1) := by decide +kernel
theorem dX11_image_21 : decode cX11_image 21 = .ok (.aload_n 2, 1) := by decide +kernel
theorem dX11_image_22 : decode cX11_image 22 = .ok (.ifnonnull 18, 3) := by decide +kernel
theorem dX11_image_25 : decode cX11_image 25 = .ok (.new 7, 3) := by decide +kernel
theorem dX11_image_28 : decode cX11_image 28 = .ok (.dup, 1) := by decide +kernel
theorem dX11_image_29 : decode cX11_image 29 = .ok (.invokespecial 9, 3) := by decide +kernel
theorem dX11_image_32 : decode cX11_image 32 = .ok (.astore_n 2, 1) := by decide +kernel
theorem dX11_image_33 : decode cX11_image 33 = .ok (.aload_n 0, 1) := by decide +kernel
theorem dX11_image_34 : decode cX11_image 34 = .ok (.getfield 16, 3) := by decide +kernel
theorem dX11_image_37 : decode cX11_image 37 = .ok (.iload_n 1, 1) := by decide +kernel
theorem dX11_image_38 : decode cX11_image 38 = .ok (.aload_n 2, 1) := by decide +kernel
theorem dX11_image_39 : decode cX11_image 39 = .ok (.aastore, 1) := by decide +kernel
theorem dX11_image_40 : decode cX11_image 40 = .ok (.aload_n 2, 1) := by decide +kernel
theorem dX11_image_41 : decode cX11_image 41 = .ok (.aload_n 0, 1) := by decide +kernel
theorem dX11_image_42 : decode cX11_image 42 = .ok (.getfield 10, 3) := by decide +kernel
theorem dX11_image_45 : decode cX11_image 45 = .ok (.invokevirtual 360, 3) := by decide +kernel
theorem dX11_image_48 : decode cX11_image 48 = .ok (.aload_n 0, 1) := by decide +kernel
theorem dX11_image_49 : decode cX11_image 49 = .ok (.iconst 0, 1) := by decide +kernel
theorem dX11_image_50 : decode cX11_image 50 = .ok (.invokevirtual 357, 3) := by decide +kernel
theorem dX11_image_53 : decode cX11_image 53 = .ok (.ireturn, 1) := by decide +kernel
set_option maxRecDepth 20000 in
theorem T_X11_image {Q : Option Value → ah_T → Prop} {h : ah_T} (hs : Sh h) (x1 : Int32) (ht : ((¬ (f_X11_isIn x1 2) = 0 → (vp_in x1 (ah_n h 16)) ∧ ((ah_r h 16 (Int32.toNatClampNeg x1) = none → (∀ w6, w6 = ah_x h → (∀ h8, h8 = ah_nw h 10 0 → (Mt nX10_init [.ref w6] h8 (ab_qv fun h12 => Sh h12 ∧ ah_k h12 w6 = 10 ∧ (vp_in x1 (ah_n h12 16)) ∧ (∀ h17, h17 = ah_sr h12 16 (Int32.toNatClampNeg x1) (some w6) → (Mt mX10_become [.ref w6, .ref 1] h17 (ab_qv fun h21 => Sh h21 ∧ ah_k h21 w6 = 10 ∧ (Mt mX11_grant [.ref 0, .int 0] h21 (ab_qi fun v27 h25 => Sh h25 ∧ ah_k h25 w6 = 10 ∧ Q (some (.int v27)) h25)))))))))) ∧ (∀ b4, ah_r h 16 (Int32.toNatClampNeg x1) = some b4 → (ah_k h b4 = 10) ∧ (Mt mX10_become [.ref b4, .ref 1] h (ab_qv fun h29 => Sh h29 ∧ ah_k h29 b4 = 10 ∧ (Mt mX11_grant [.ref 0, .int 0] h29 (ab_qi fun v35 h33 => Sh h33 ∧ ah_k h33 b4 = 10 ∧ Q (some (.int v35)) h33))))))) ∧ ((f_X11_isIn x1 2) = 0 → (Mt mX11_refuse [.ref 0, .int (-1)] h (ab_qi fun v39 h37 => Sh h37 ∧ Q (some (.int v39)) h37))))) : Mt mX11_image [.ref 0, .int x1] h Q := by
  refine Mt.ofWp rfl (by exact (Nat.le_of_ble_eq_true rfl)) (Wp.fewer (L' := [some (.ref 0), some (.int x1), none]) (show ab_leL _ _ from ⟨rfl, ⟨rfl, trivial⟩⟩) ?_)
  refine ab_iload_n (i := 1) dX11_image_0 rfl rfl ?_
  refine ab_iconst (v := 2) dX11_image_1 (by decide) ?_
  refine ab_callS (Q' := fun r h' => r = some (.int (f_X11_isIn x1 2)) ∧ h = h') (As := [.int x1, .int 2]) (c_X11_isIn hs x1 2 ⟨rfl, rfl⟩) (Y_X11_isIn) l_X11_119 st_X11_isIn rfl ⟨(Nat.le_of_ble_eq_true rfl), (Nat.le_of_ble_eq_true rfl), (Nat.le_of_ble_eq_true rfl), (Nat.le_of_ble_eq_true rfl)⟩ dX11_image_2 ?_
  rintro _ _ ⟨rfl, rfl⟩
  refine ab_if_ne (tgt := 14) dX11_image_5 (by decide) (fun c1 => ?_) (fun c1 => ?_)
  · have ht := ht.1 c1
    refine ab_aload_n (i := 0) dX11_image_14 rfl rfl ?_
    refine ab_getR (b := 16) f_X11_16 rfl (sh_k hs 0 11 (by decide) rfl) (sh_r hs 1 rfl) dX11_image_15 ?_
    refine ab_iload_n (i := 1) dX11_image_18 rfl rfl ?_
    obtain ⟨hc2, ht⟩ := ht
    rcases hr3 : ah_r h 16 (Int32.toNatClampNeg x1) with _ | b4
    · have ht := ht.1 hr3
      refine ab_aald (r := none) 18 (by decide) (sh_k hs 16 18 (by decide) rfl) hc2 hr3 dX11_image_19 ?_
      refine ab_astore_nN (i := 2) (L' := [some (.ref 0), some (.int x1), some (.null)]) dX11_image_20 rfl (by exact (Nat.le_of_ble_eq_true rfl)) rfl rfl ?_
      refine ab_aload_nN (i := 2) dX11_image_21 rfl rfl ?_
      refine ab_nonnullN dX11_image_22 ?_
      refine ab_new k_X11_7 (Nat.le_of_ble_eq_true rfl) (Nat.le_of_ble_eq_true rfl) dX11_image_25 ?_
      obtain ⟨w6, ew7⟩ : ∃ z, z = ah_x h := ⟨_, rfl⟩
      rw [← ew7]
      have ht := ht w6 ew7
      refine Wp.nm fun h8 e9 => ?_
      have ht := ht h8 e9
      have hs10 : Sh h8 := by rw [e9]; exact sh_nw hs
      have hk11 : ah_k h8 w6 = 10 := by rw [e9, ew7, ah_k_nw, if_pos rfl]
      refine ab_dup dX11_image_28 rfl ?_
      refine ab_callI (b := w6) (As := []) ht (Y_X10_init) rfl rfl l_X11_9 in_X10_init rfl ⟨(Nat.le_of_ble_eq_true rfl), (Nat.le_of_ble_eq_true rfl), (Nat.le_of_ble_eq_true rfl), (Nat.le_of_ble_eq_true rfl)⟩ dX11_image_29 ?_
      rintro _ h12 ⟨rfl, hs13, hk15, ht⟩
      refine ab_astore_n (i := 2) (L' := [some (.ref 0), some (.int x1), some (.ref w6)]) dX11_image_32 rfl (by exact (Nat.le_of_ble_eq_true rfl)) rfl rfl ?_
      refine ab_aload_n (i := 0) dX11_image_33 rfl rfl ?_
      refine ab_getR (b := 16) f_X11_16 rfl (sh_k hs13 0 11 (by decide) rfl) (sh_r hs13 1 rfl) dX11_image_34 ?_
      refine ab_iload_n (i := 1) dX11_image_37 rfl rfl ?_
      refine ab_aload_n (i := 2) dX11_image_38 rfl rfl ?_
      obtain ⟨hc16, ht⟩ := ht
      refine ab_aast 18 10 (by decide) (sh_k hs13 16 18 (by decide) rfl) hk15 hc16 dX11_image_39 ?_
      refine Wp.nm fun h17 e18 => ?_
      have ht := ht h17 e18
      have hs19 : Sh h17 := by rw [e18]; exact sh_srA hs13 (by decide +kernel)
      have hk20 : ah_k h17 w6 = 10 := by rw [e18]; exact hk15
      refine ab_aload_n (i := 2) dX11_image_40 rfl rfl ?_
      refine ab_aload_n (i := 0) dX11_image_41 rfl rfl ?_
      refine ab_getR (b := 1) f_X11_10 rfl (sh_k hs19 0 11 (by decide) rfl) (sh_r hs19 0 rfl) dX11_image_42 ?_
      refine ab_callV (b := w6) (As := [.ref 1]) ht (Y_X10_become) l_X11_360 in_X10_become se_X10_become hk20 (by decide) rfl rfl ⟨(Nat.le_of_ble_eq_true rfl), (Nat.le_of_ble_eq_true rfl), (Nat.le_of_ble_eq_true rfl), (Nat.le_of_ble_eq_true rfl)⟩ dX11_image_45 ?_
      rintro _ h21 ⟨rfl, hs22, hk24, ht⟩
      refine ab_aload_n (i := 0) dX11_image_48 rfl rfl ?_
      refine ab_iconst (v := 0) dX11_image_49 (by decide) ?_
      refine ab_callV (b := 0) (As := [.int 0]) ht (Y_X11_grant) l_X11_357 in_X11_grant se_X11_grant (sh_k hs22 0 11 (by decide) rfl) (by decide) rfl rfl ⟨(Nat.le_of_ble_eq_true rfl), (Nat.le_of_ble_eq_true rfl), (Nat.le_of_ble_eq_true rfl), (Nat.le_of_ble_eq_true rfl)⟩ dX11_image_50 ?_
      rintro _ h25 ⟨v27, rfl, hs26, hk28, ht⟩
      exact ab_iret rfl dX11_image_53 (Nat.le_of_ble_eq_true rfl) (Nat.le_of_ble_eq_true rfl) ht
    · obtain ⟨hk5, ht⟩ := ht.2 b4 hr3
      refine ab_aald (r := some b4) 18 (by decide) (sh_k hs 16 18 (by decide) rfl) hc2 hr3 dX11_image_19 ?_
      refine ab_astore_n (i := 2) (L' := [some (.ref 0), some (.int x1), some (.ref b4)]) dX11_image_20 rfl (by exact (Nat.le_of_ble_eq_true rfl)) rfl rfl ?_
      refine ab_aload_n (i := 2) dX11_image_21 rfl rfl ?_
      refine ab_nonnull (tgt := 40) dX11_image_22 (by decide) ?_
      refine ab_aload_n (i := 2) dX11_image_40 rfl rfl ?_
      refine ab_aload_n (i := 0) dX11_image_41 rfl rfl ?_
      refine ab_getR (b := 1) f_X11_10 rfl (sh_k hs 0 11 (by decide) rfl) (sh_r hs 0 rfl) dX11_image_42 ?_
      refine ab_callV (b := b4) (As := [.ref 1]) ht (Y_X10_become) l_X11_360 in_X10_become se_X10_become hk5 (by decide) rfl rfl ⟨(Nat.le_of_ble_eq_true rfl), (Nat.le_of_ble_eq_true rfl), (Nat.le_of_ble_eq_true rfl), (Nat.le_of_ble_eq_true rfl)⟩ dX11_image_45 ?_
      rintro _ h29 ⟨rfl, hs30, hk32, ht⟩
      refine ab_aload_n (i := 0) dX11_image_48 rfl rfl ?_
      refine ab_iconst (v := 0) dX11_image_49 (by decide) ?_
      refine ab_callV (b := 0) (As := [.int 0]) ht (Y_X11_grant) l_X11_357 in_X11_grant se_X11_grant (sh_k hs30 0 11 (by decide) rfl) (by decide) rfl rfl ⟨(Nat.le_of_ble_eq_true rfl), (Nat.le_of_ble_eq_true rfl), (Nat.le_of_ble_eq_true rfl), (Nat.le_of_ble_eq_true rfl)⟩ dX11_image_50 ?_
      rintro _ h33 ⟨v35, rfl, hs34, hk36, ht⟩
      exact ab_iret rfl dX11_image_53 (Nat.le_of_ble_eq_true rfl) (Nat.le_of_ble_eq_true rfl) ht
  · have ht := ht.2 c1
    refine ab_aload_n (i := 0) dX11_image_8 rfl rfl ?_
    refine ab_iconst (v := (-1)) dX11_image_9 (by decide) ?_
    refine ab_callV (b := 0) (As := [.int (-1)]) ht (Y_X11_refuse) l_X11_123 in_X11_refuse se_X11_refuse (sh_k hs 0 11 (by decide) rfl) (by decide) rfl rfl ⟨(Nat.le_of_ble_eq_true rfl), (Nat.le_of_ble_eq_true rfl), (Nat.le_of_ble_eq_true rfl), (Nat.le_of_ble_eq_true rfl)⟩ dX11_image_10 ?_
    rintro _ h37 ⟨v39, rfl, hs38, ht⟩
    exact ab_iret rfl dX11_image_13 (Nat.le_of_ble_eq_true rfl) (Nat.le_of_ble_eq_true rfl) ht
