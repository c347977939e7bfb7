/-! ===== blocks of methods (printed by wip/whole/mkall.py) ===== -/
theorem dX11_way_0 : decode cX11_way 0 = .ok (.iload_n 1, 1) := by decide +kernel
theorem dX11_way_1 : decode cX11_way 1 = .ok (.bipush 12, 2) := by decide +kernel
theorem dX11_way_3 : decode cX11_way 3 = .ok (.invokestatic 119, 3) := by decide +kernel
theorem dX11_way_6 : decode cX11_way 6 = .ok (.ifCond .eq 17, 3) := by decide +kernel
theorem dX11_way_9 : decode cX11_way 9 = .ok (.iload_n 2, 1) := by decide +kernel
theorem dX11_way_10 : decode cX11_way 10 = .ok (.bipush 12, 2) := by decide +kernel
theorem dX11_way_12 : decode cX11_way 12 = .ok (.invokestatic 119, 3) := by decide +kernel
theorem dX11_way_15 : decode cX11_way 15 = .ok (.ifCond .eq 8, 3) := by decide +kernel
theorem dX11_way_18 : decode cX11_way 18 = .ok (.iload_n 1, 1) := by decide +kernel
theorem dX11_way_19 : decode cX11_way 19 = .ok (.iload_n 2, 1) := by decide +kernel
theorem dX11_way_20 : decode cX11_way 20 = .ok (.if_icmp .ne 9, 3) := by decide +kernel
theorem dX11_way_23 : decode cX11_way 23 = .ok (.aload_n 0, 1) := by decide +kernel
theorem dX11_way_24 : decode cX11_way 24 = .ok (.iconst (-1), 1) := by decide +kernel
theorem dX11_way_25 : decode cX11_way 25 = .ok (.invokevirtual 123, 3) := by decide +kernel
theorem dX11_way_28 : decode cX11_way 28 = .ok (.ireturn, 1) := by decide +kernel
theorem dX11_way_29 : decode cX11_way 29 = .ok (.aload_n 0, 1) := by decide +kernel
theorem dX11_way_30 : decode cX11_way 30 = .ok (.getfield 10, 3) := by decide +kernel
theorem dX11_way_33 : decode cX11_way 33 = .ok (.iload_n 1, 1) := by decide +kernel
theorem dX11_way_34 : decode cX11_way 34 = .ok (.iload_n 2, 1) := by decide +kernel
theorem dX11_way_35 : decode cX11_way 35 = .ok (.invokevirtual 127, 3) := by decide +kernel
theorem dX11_way_38 : decode cX11_way 38 = .ok (.ifCond .eq 10, 3) := by decide +kernel
theorem dX11_way_41 : decode cX11_way 41 = .ok (.aload_n 0, 1) := by decide +kernel
theorem dX11_way_42 : decode cX11_way 42 = .ok (.bipush (-3), 2) := by decide +kernel
theorem dX11_way_44 : decode cX11_way 44 = .ok (.invokevirtual 123, 3) := by decide +kernel
theorem dX11_way_47 : decode cX11_way 47 = .ok (.ireturn, 1) := by decide +kernel
theorem dX11_way_48 : decode cX11_way 48 = .ok (.aload_n 0, 1) := by decide +kernel
theorem dX11_way_49 : decode cX11_way 49 = .ok (.getfield 10, 3) := by decide +kernel
theorem dX11_way_52 : decode cX11_way 52 = .ok (.getfield 130, 3) := by decide +kernel
theorem dX11_way_55 : decode cX11_way 55 = .ok (.invokevirtual 134, 3) := by decide +kernel
theorem dX11_way_58 : decode cX11_way 58 = .ok (.ifCond .eq 10, 3) := by decide +kernel
theorem dX11_way_61 : decode cX11_way 61 = .ok (.aload_n 0, 1) := by decide +kernel
theorem dX11_way_62 : decode cX11_way 62 = .ok (.bipush (-5), 2) := by decide +kernel
theorem dX11_way_64 : decode cX11_way 64 = .ok (.invokevirtual 123, 3) := by decide +kernel
theorem dX11_way_67 : decode cX11_way 67 = .ok (.ireturn, 1) := by decide +kernel
theorem dX11_way_68 : decode cX11_way 68 = .ok (.aload_n 0, 1) := by decide +kernel
theorem dX11_way_69 : decode cX11_way 69 = .ok (.iconst 1, 1) := by decide +kernel
theorem dX11_way_70 : decode cX11_way 70 = .ok (.putfield 112, 3) := by decide +kernel
theorem dX11_way_73 : decode cX11_way 73 = .ok (.aload_n 0, 1) := by decide +kernel
theorem dX11_way_74 : decode cX11_way 74 = .ok (.aload_n 0, 1) := by decide +kernel
theorem dX11_way_75 : decode cX11_way 75 = .ok (.getfield 10, 3) := by decide +kernel
theorem dX11_way_78 : decode cX11_way 78 = .ok (.getfield 130, 3) := by decide +kernel
theorem dX11_way_81 : decode cX11_way 81 = .ok (.iload_n 1, 1) := by decide +kernel
theorem dX11_way_82 : decode cX11_way 82 = .ok (.iload_n 2, 1) := by decide +kernel
theorem dX11_way_83 : decode cX11_way 83 = .ok (.invokestatic 140, 3) := by decide +kernel
theorem dX11_way_86 : decode cX11_way 86 = .ok (.iload_n 1, 1) := by decide +kernel
theorem dX11_way_87 : decode cX11_way 87 = .ok (.iload_n 2, 1) := by decide +kernel
theorem dX11_way_88 : decode cX11_way 88 = .ok (.invokestatic 146, 3) := by decide +kernel
theorem dX11_way_91 : decode cX11_way 91 = .ok (.iconst 0, 1) := by decide +kernel
theorem dX11_way_92 : decode cX11_way 92 = .ok (.invokevirtual 149, 3) := by decide +kernel
theorem dX11_way_95 : decode cX11_way 95 = .ok (.invokevirtual 153, 3) := by decide +kernel
theorem dX11_way_98 : decode cX11_way 98 = .ok (.ireturn, 1) := by decide +kernel
set_option maxRecDepth 20000 in
theorem T_X11_way {Q : Option Value → ah_T → Prop} {h : ah_T} (hs : Sh h) (x1 : Int32) (x2 : Int32) (ht : (((f_X11_isIn x1 12) = 0 → (Mt mX11_refuse [.ref 0, .int (-1)] h (ab_qi fun v4 h2 => Sh h2 ∧ Q (some (.int v4)) h2))) ∧ (¬ (f_X11_isIn x1 12) = 0 → (((f_X11_isIn x2 12) = 0 → (Mt mX11_refuse [.ref 0, .int (-1)] h (ab_qi fun v8 h6 => Sh h6 ∧ Q (some (.int v8)) h6))) ∧ (¬ (f_X11_isIn x2 12) = 0 → ((¬ x1 = x2 → (Mt mX10_isWay [.ref 1, .int x1, .int x2] h (ab_qi fun v12 h10 => Sh h10 ∧ ((v12 = 0 → (Mt mX7_isFull [.ref 2] h10 (ab_qi fun v16 h14 => Sh h14 ∧ ((v16 = 0 → (∀ h18, h18 = ah_si h14 0 18 1 → (Mt mX7_add [.ref 2, .int (if x2 < x1 then x2 else x1), .int (if x1 < x2 then x2 else x1), .int 0] h18 (ab_qi fun v23 h21 => Sh h21 ∧ (Mt mX11_change [.ref 0, .int v23] h21 (ab_qi fun v26 h24 => Sh h24 ∧ Q (some (.int v26)) h24)))))) ∧ (¬ v16 = 0 → (Mt mX11_refuse [.ref 0, .int (-5)] h14 (ab_qi fun v29 h27 => Sh h27 ∧ Q (some (.int v29)) h27))))))) ∧ (¬ v12 = 0 → (Mt mX11_refuse [.ref 0, .int (-3)] h10 (ab_qi fun v32 h30 => Sh h30 ∧ Q (some (.int v32)) h30))))))) ∧ (x1 = x2 → (Mt mX11_refuse [.ref 0, .int (-1)] h (ab_qi fun v35 h33 => Sh h33 ∧ Q (some (.int v35)) h33))))))))) : Mt mX11_way [.ref 0, .int x1, .int x2] h Q := by
  refine Mt.ofWp rfl (by exact (Nat.le_of_ble_eq_true rfl)) (Wp.fewer (L' := [some (.ref 0), some (.int x1), some (.int x2)]) (show ab_leL _ _ from ⟨rfl, ⟨rfl, ⟨rfl, trivial⟩⟩⟩) ?_)
  refine ab_iload_n (i := 1) dX11_way_0 rfl rfl ?_
  refine ab_bipush (v := 12) dX11_way_1 (by decide) ?_
  refine ab_callS (Q' := fun r h' => r = some (.int (f_X11_isIn x1 12)) ∧ h = h') (As := [.int x1, .int 12]) (c_X11_isIn hs x1 12 ⟨rfl, rfl⟩) (Y_X11_isIn) l_X11_119 st_X11_isIn rfl ⟨(Nat.le_of_ble_eq_true rfl), (Nat.le_of_ble_eq_true rfl), (Nat.le_of_ble_eq_true rfl), (Nat.le_of_ble_eq_true rfl)⟩ dX11_way_3 ?_
  rintro _ _ ⟨rfl, rfl⟩
  refine ab_if_eq (tgt := 23) dX11_way_6 (by decide) (fun c1 => ?_) (fun c1 => ?_)
  · have ht := ht.1 c1
    refine ab_aload_n (i := 0) dX11_way_23 rfl rfl ?_
    refine ab_iconst (v := (-1)) dX11_way_24 (by decide) ?_
    refine ab_callV (b := 0) (As := [.int (-1)]) ht (Y_X11_refuse) l_X11_123 in_X11_refuse se_X11_refuse (sh_k hs 0 11 (by decide) rfl) (by decide) rfl rfl ⟨(Nat.le_of_ble_eq_true rfl), (Nat.le_of_ble_eq_true rfl), (Nat.le_of_ble_eq_true rfl), (Nat.le_of_ble_eq_true rfl)⟩ dX11_way_25 ?_
    rintro _ h2 ⟨v4, rfl, hs3, ht⟩
    exact ab_iret rfl dX11_way_28 (Nat.le_of_ble_eq_true rfl) (Nat.le_of_ble_eq_true rfl) ht
  · have ht := ht.2 c1
    refine ab_iload_n (i := 2) dX11_way_9 rfl rfl ?_
    refine ab_bipush (v := 12) dX11_way_10 (by decide) ?_
    refine ab_callS (Q' := fun r h' => r = some (.int (f_X11_isIn x2 12)) ∧ h = h') (As := [.int x2, .int 12]) (c_X11_isIn hs x2 12 ⟨rfl, rfl⟩) (Y_X11_isIn) l_X11_119 st_X11_isIn rfl ⟨(Nat.le_of_ble_eq_true rfl), (Nat.le_of_ble_eq_true rfl), (Nat.le_of_ble_eq_true rfl), (Nat.le_of_ble_eq_true rfl)⟩ dX11_way_12 ?_
    rintro _ _ ⟨rfl, rfl⟩
    refine ab_if_eq (tgt := 23) dX11_way_15 (by decide) (fun c5 => ?_) (fun c5 => ?_)
    · have ht := ht.1 c5
      refine ab_aload_n (i := 0) dX11_way_23 rfl rfl ?_
      refine ab_iconst (v := (-1)) dX11_way_24 (by decide) ?_
      refine ab_callV (b := 0) (As := [.int (-1)]) ht (Y_X11_refuse) l_X11_123 in_X11_refuse se_X11_refuse (sh_k hs 0 11 (by decide) rfl) (by decide) rfl rfl ⟨(Nat.le_of_ble_eq_true rfl), (Nat.le_of_ble_eq_true rfl), (Nat.le_of_ble_eq_true rfl), (Nat.le_of_ble_eq_true rfl)⟩ dX11_way_25 ?_
      rintro _ h6 ⟨v8, rfl, hs7, ht⟩
      exact ab_iret rfl dX11_way_28 (Nat.le_of_ble_eq_true rfl) (Nat.le_of_ble_eq_true rfl) ht
    · have ht := ht.2 c5
      refine ab_iload_n (i := 1) dX11_way_18 rfl rfl ?_
      refine ab_iload_n (i := 2) dX11_way_19 rfl rfl ?_
      refine ab_icmp_ne (tgt := 29) dX11_way_20 (by decide) (fun c9 => ?_) (fun c9 => ?_)
      · have ht := ht.1 c9
        refine ab_aload_n (i := 0) dX11_way_29 rfl rfl ?_
        refine ab_getR (b := 1) f_X11_10 rfl (sh_k hs 0 11 (by decide) rfl) (sh_r hs 0 rfl) dX11_way_30 ?_
        refine ab_iload_n (i := 1) dX11_way_33 rfl rfl ?_
        refine ab_iload_n (i := 2) dX11_way_34 rfl rfl ?_
        refine ab_callV (b := 1) (As := [.int x1, .int x2]) ht (Y_X10_isWay) l_X11_127 in_X10_isWay se_X10_isWay (sh_k hs 1 10 (by decide) rfl) (by decide) rfl rfl ⟨(Nat.le_of_ble_eq_true rfl), (Nat.le_of_ble_eq_true rfl), (Nat.le_of_ble_eq_true rfl), (Nat.le_of_ble_eq_true rfl)⟩ dX11_way_35 ?_
        rintro _ h10 ⟨v12, rfl, hs11, ht⟩
        refine ab_if_eq (tgt := 48) dX11_way_38 (by decide) (fun c13 => ?_) (fun c13 => ?_)
        · have ht := ht.1 c13
          refine ab_aload_n (i := 0) dX11_way_48 rfl rfl ?_
          refine ab_getR (b := 1) f_X11_10 rfl (sh_k hs11 0 11 (by decide) rfl) (sh_r hs11 0 rfl) dX11_way_49 ?_
          refine ab_getR (b := 2) f_X11_130 rfl (sh_k hs11 1 10 (by decide) rfl) (sh_r hs11 13 rfl) dX11_way_52 ?_
          refine ab_callV (b := 2) (As := []) ht (Y_X7_isFull) l_X11_134 in_X7_isFull se_X7_isFull (sh_k hs11 2 7 (by decide) rfl) (by decide) rfl rfl ⟨(Nat.le_of_ble_eq_true rfl), (Nat.le_of_ble_eq_true rfl), (Nat.le_of_ble_eq_true rfl), (Nat.le_of_ble_eq_true rfl)⟩ dX11_way_55 ?_
          rintro _ h14 ⟨v16, rfl, hs15, ht⟩
          refine ab_if_eq (tgt := 68) dX11_way_58 (by decide) (fun c17 => ?_) (fun c17 => ?_)
          · have ht := ht.1 c17
            refine ab_aload_n (i := 0) dX11_way_68 rfl rfl ?_
            refine ab_iconst (v := 1) dX11_way_69 (by decide) ?_
            refine ab_putI f_X11_112 (Or.inl rfl) rfl (sh_k hs15 0 11 (by decide) rfl) rfl rfl dX11_way_70 ?_
            refine Wp.nm fun h18 e19 => ?_
            have ht := ht h18 e19
            have hs20 : Sh h18 := by rw [e19]; exact sh_si hs15
            refine ab_aload_n (i := 0) dX11_way_73 rfl rfl ?_
            refine ab_aload_n (i := 0) dX11_way_74 rfl rfl ?_
            refine ab_getR (b := 1) f_X11_10 rfl (sh_k hs20 0 11 (by decide) rfl) (sh_r hs20 0 rfl) dX11_way_75 ?_
            refine ab_getR (b := 2) f_X11_130 rfl (sh_k hs20 1 10 (by decide) rfl) (sh_r hs20 13 rfl) dX11_way_78 ?_
            refine ab_iload_n (i := 1) dX11_way_81 rfl rfl ?_
            refine ab_iload_n (i := 2) dX11_way_82 rfl rfl ?_
            refine ab_mmin (tb_3 (List.mem_of_getElem? (i := 147) (by decide +kernel)) rfl) st_mmin in_m co_mmin (Nat.le_of_ble_eq_true rfl) (Nat.le_of_ble_eq_true rfl) (Nat.le_of_ble_eq_true rfl) (Nat.le_of_ble_eq_true rfl) dX11_way_83 ?_
            refine ab_iload_n (i := 1) dX11_way_86 rfl rfl ?_
            refine ab_iload_n (i := 2) dX11_way_87 rfl rfl ?_
            refine ab_mmax (tb_3 (List.mem_of_getElem? (i := 148) (by decide +kernel)) rfl) st_mmax in_m co_mmax (Nat.le_of_ble_eq_true rfl) (Nat.le_of_ble_eq_true rfl) (Nat.le_of_ble_eq_true rfl) (Nat.le_of_ble_eq_true rfl) dX11_way_88 ?_
            refine ab_iconst (v := 0) dX11_way_91 (by decide) ?_
            refine ab_callV (b := 2) (As := [.int (if x2 < x1 then x2 else x1), .int (if x1 < x2 then x2 else x1), .int 0]) ht (Y_X7_add) l_X11_149 in_X7_add se_X7_add (sh_k hs20 2 7 (by decide) rfl) (by decide) rfl rfl ⟨(Nat.le_of_ble_eq_true rfl), (Nat.le_of_ble_eq_true rfl), (Nat.le_of_ble_eq_true rfl), (Nat.le_of_ble_eq_true rfl)⟩ dX11_way_92 ?_
            rintro _ h21 ⟨v23, rfl, hs22, ht⟩
            refine ab_callV (b := 0) (As := [.int v23]) ht (Y_X11_change) l_X11_153 in_X11_change se_X11_change (sh_k hs22 0 11 (by decide) rfl) (by decide) rfl rfl ⟨(Nat.le_of_ble_eq_true rfl), (Nat.le_of_ble_eq_true rfl), (Nat.le_of_ble_eq_true rfl), (Nat.le_of_ble_eq_true rfl)⟩ dX11_way_95 ?_
            rintro _ h24 ⟨v26, rfl, hs25, ht⟩
            exact ab_iret rfl dX11_way_98 (Nat.le_of_ble_eq_true rfl) (Nat.le_of_ble_eq_true rfl) ht
          · have ht := ht.2 c17
            refine ab_aload_n (i := 0) dX11_way_61 rfl rfl ?_
            refine ab_bipush (v := (-5)) dX11_way_62 (by decide) ?_
            refine ab_callV (b := 0) (As := [.int (-5)]) ht (Y_X11_refuse) l_X11_123 in_X11_refuse se_X11_refuse (sh_k hs15 0 11 (by decide) rfl) (by decide) rfl rfl ⟨(Nat.le_of_ble_eq_true rfl), (Nat.le_of_ble_eq_true rfl), (Nat.le_of_ble_eq_true rfl), (Nat.le_of_ble_eq_true rfl)⟩ dX11_way_64 ?_
            rintro _ h27 ⟨v29, rfl, hs28, ht⟩
            exact ab_iret rfl dX11_way_67 (Nat.le_of_ble_eq_true rfl) (Nat.le_of_ble_eq_true rfl) ht
        · have ht := ht.2 c13
          refine ab_aload_n (i := 0) dX11_way_41 rfl rfl ?_
          refine ab_bipush (v := (-3)) dX11_way_42 (by decide) ?_
          refine ab_callV (b := 0) (As := [.int (-3)]) ht (Y_X11_refuse) l_X11_123 in_X11_refuse se_X11_refuse (sh_k hs11 0 11 (by decide) rfl) (by decide) rfl rfl ⟨(Nat.le_of_ble_eq_true rfl), (Nat.le_of_ble_eq_true rfl), (Nat.le_of_ble_eq_true rfl), (Nat.le_of_ble_eq_true rfl)⟩ dX11_way_44 ?_
          rintro _ h30 ⟨v32, rfl, hs31, ht⟩
          exact ab_iret rfl dX11_way_47 (Nat.le_of_ble_eq_true rfl) (Nat.le_of_ble_eq_true rfl) ht
      · have ht := ht.2 c9
        refine ab_aload_n (i := 0) dX11_way_23 rfl rfl ?_
        refine ab_iconst (v := (-1)) dX11_way_24 (by decide) ?_
        refine ab_callV (b := 0) (As := [.int (-1)]) ht (Y_X11_refuse) l_X11_123 in_X11_refuse se_X11_refuse (sh_k hs 0 11 (by decide) rfl) (by decide) rfl rfl ⟨(Nat.le_of_ble_eq_true rfl), (Nat.le_of_ble_eq_true rfl), (Nat.le_of_ble_eq_true rfl), (Nat.le_of_ble_eq_true rfl)⟩ dX11_way_25 ?_
        rintro _ h33 ⟨v35, rfl, hs34, ht⟩
        exact ab_iret rfl dX11_way_28 (Nat.le_of_ble_eq_true rfl) (Nat.le_of_ble_eq_true rfl) ht
theorem dX11_shutter_0 : decode cX11_shutter 0 = .ok (.iload_n 2, 1) := by decide +kernel
theorem dX11_shutter_1 : decode cX11_shutter 1 = .ok (.iconst 2, 1) := by decide +kernel
theorem dX11_shutter_2 : decode cX11_shutter 2 = .ok (.invokestatic 119, 3) := by decide +kernel
theorem dX11_shutter_5 : decode cX11_shutter 5 = .ok (.ifCond .ne 9, 3) := by decide +kernel
theorem dX11_shutter_8 : decode cX11_shutter 8 = .ok (.aload_n 0, 1) := by decide +kernel
theorem dX11_shutter_9 : decode cX11_shutter 9 = .ok (.iconst (-1), 1) := by decide +kernel
theorem dX11_shutter_10 : decode cX11_shutter 10 = .ok (.invokevirtual 123, 3) := by decide +kernel
theorem dX11_shutter_13 : decode cX11_shutter 13 = .ok (.ireturn, 1) := by decide +kernel
theorem dX11_shutter_14 : decode cX11_shutter 14 = .ok (.aload_n 0, 1) := by decide +kernel
theorem dX11_shutter_15 : decode cX11_shutter 15 = .ok (.getfield 10, 3) := by decide +kernel
theorem dX11_shutter_18 : decode cX11_shutter 18 = .ok (.getfield 130, 3) := by decide +kernel
theorem dX11_shutter_21 : decode cX11_shutter 21 = .ok (.iload_n 1, 1) := by decide +kernel
theorem dX11_shutter_22 : decode cX11_shutter 22 = .ok (.invokevirtual 156, 3) := by decide +kernel
theorem dX11_shutter_25 : decode cX11_shutter 25 = .ok (.ifCond .ne 10, 3) := by decide +kernel
theorem dX11_shutter_28 : decode cX11_shutter 28 = .ok (.aload_n 0, 1) := by decide +kernel
theorem dX11_shutter_29 : decode cX11_shutter 29 = .ok (.bipush (-2), 2) := by decide +kernel
theorem dX11_shutter_31 : decode cX11_shutter 31 = .ok (.invokevirtual 123, 3) := by decide +kernel
theorem dX11_shutter_34 : decode cX11_shutter 34 = .ok (.ireturn, 1) := by decide +kernel
theorem dX11_shutter_35 : decode cX11_shutter 35 = .ok (.aload_n 0, 1) := by decide +kernel
theorem dX11_shutter_36 : decode cX11_shutter 36 = .ok (.iconst 1, 1) := by decide +kernel
theorem dX11_shutter_37 : decode cX11_shutter 37 = .ok (.putfield 112, 3) := by decide +kernel
theorem dX11_shutter_40 : decode cX11_shutter 40 = .ok (.aload_n 0, 1) := by decide +kernel
theorem dX11_shutter_41 : decode cX11_shutter 41 = .ok (.aload_n 0, 1) := by decide +kernel
theorem dX11_shutter_42 : decode cX11_shutter 42 = .ok (.getfield 10, 3) := by decide +kernel
theorem dX11_shutter_45 : decode cX11_shutter 45 = .ok (.getfield 130, 3) := by decide +kernel
theorem dX11_shutter_48 : decode cX11_shutter 48 = .ok (.iload_n 1, 1) := by decide +kernel
theorem dX11_shutter_49 : decode cX11_shutter 49 = .ok (.iconst 2, 1) := by decide +kernel
theorem dX11_shutter_50 : decode cX11_shutter 50 = .ok (.iload_n 2, 1) := by decide +kernel
theorem dX11_shutter_51 : decode cX11_shutter 51 = .ok (.invokevirtual 160, 3) := by decide +kernel
theorem dX11_shutter_54 : decode cX11_shutter 54 = .ok (.invokevirtual 153, 3) := by decide +kernel
theorem dX11_shutter_57 : decode cX11_shutter 57 = .ok (.ireturn, 1) := by decide +kernel
set_option maxRecDepth 20000 in
theorem T_X11_shutter {Q : Option Value → ah_T → Prop} {h : ah_T} (hs : Sh h) (x1 : Int32) (x2 : Int32) (ht : ((¬ (f_X11_isIn x2 2) = 0 → (Mt mX7_has [.ref 2, .int x1] h (ab_qi fun v4 h2 => Sh h2 ∧ ((¬ v4 = 0 → (∀ h6, h6 = ah_si h2 0 18 1 → (Mt mX7_swap [.ref 2, .int x1, .int 2, .int x2] h6 (ab_qi fun v11 h9 => Sh h9 ∧ (Mt mX11_change [.ref 0, .int v11] h9 (ab_qi fun v14 h12 => Sh h12 ∧ Q (some (.int v14)) h12)))))) ∧ (v4 = 0 → (Mt mX11_refuse [.ref 0, .int (-2)] h2 (ab_qi fun v17 h15 => Sh h15 ∧ Q (some (.int v17)) h15))))))) ∧ ((f_X11_isIn x2 2) = 0 → (Mt mX11_refuse [.ref 0, .int (-1)] h (ab_qi fun v20 h18 => Sh h18 ∧ Q (some (.int v20)) h18))))) : Mt mX11_shutter [.ref 0, .int x1, .int x2] h Q := by
  refine Mt.ofWp rfl (by exact (Nat.le_of_ble_eq_true rfl)) (Wp.fewer (L' := [some (.ref 0), some (.int x1), some (.int x2)]) (show ab_leL _ _ from ⟨rfl, ⟨rfl, ⟨rfl, trivial⟩⟩⟩) ?_)
  refine ab_iload_n (i := 2) dX11_shutter_0 rfl rfl ?_
  refine ab_iconst (v := 2) dX11_shutter_1 (by decide) ?_
  refine ab_callS (Q' := fun r h' => r = some (.int (f_X11_isIn x2 2)) ∧ h = h') (As := [.int x2, .int 2]) (c_X11_isIn hs x2 2 ⟨rfl, rfl⟩) (Y_X11_isIn) l_X11_119 st_X11_isIn rfl ⟨(Nat.le_of_ble_eq_true rfl), (Nat.le_of_ble_eq_true rfl), (Nat.le_of_ble_eq_true rfl), (Nat.le_of_ble_eq_true rfl)⟩ dX11_shutter_2 ?_
  rintro _ _ ⟨rfl, rfl⟩
  refine ab_if_ne (tgt := 14) dX11_shutter_5 (by decide) (fun c1 => ?_) (fun c1 => ?_)
  · have ht := ht.1 c1
    refine ab_aload_n (i := 0) dX11_shutter_14 rfl rfl ?_
    refine ab_getR (b := 1) f_X11_10 rfl (sh_k hs 0 11 (by decide) rfl) (sh_r hs 0 rfl) dX11_shutter_15 ?_
    refine ab_getR (b := 2) f_X11_130 rfl (sh_k hs 1 10 (by decide) rfl) (sh_r hs 13 rfl) dX11_shutter_18 ?_
    refine ab_iload_n (i := 1) dX11_shutter_21 rfl rfl ?_
    refine ab_callV (b := 2) (As := [.int x1]) ht (Y_X7_has) l_X11_156 in_X7_has se_X7_has (sh_k hs 2 7 (by decide) rfl) (by decide) rfl rfl ⟨(Nat.le_of_ble_eq_true rfl), (Nat.le_of_ble_eq_true rfl), (Nat.le_of_ble_eq_true rfl), (Nat.le_of_ble_eq_true rfl)⟩ dX11_shutter_22 ?_
    rintro _ h2 ⟨v4, rfl, hs3, ht⟩
    refine ab_if_ne (tgt := 35) dX11_shutter_25 (by decide) (fun c5 => ?_) (fun c5 => ?_)
    · have ht := ht.1 c5
      refine ab_aload_n (i := 0) dX11_shutter_35 rfl rfl ?_
      refine ab_iconst (v := 1) dX11_shutter_36 (by decide) ?_
      refine ab_putI f_X11_112 (Or.inl rfl) rfl (sh_k hs3 0 11 (by decide) rfl) rfl rfl dX11_shutter_37 ?_
      refine Wp.nm fun h6 e7 => ?_
      have ht := ht h6 e7
      have hs8 : Sh h6 := by rw [e7]; exact sh_si hs3
      refine ab_aload_n (i := 0) dX11_shutter_40 rfl rfl ?_
      refine ab_aload_n (i := 0) dX11_shutter_41 rfl rfl ?_
      refine ab_getR (b := 1) f_X11_10 rfl (sh_k hs8 0 11 (by decide) rfl) (sh_r hs8 0 rfl) dX11_shutter_42 ?_
      refine ab_getR (b := 2) f_X11_130 rfl (sh_k hs8 1 10 (by decide) rfl) (sh_r hs8 13 rfl) dX11_shutter_45 ?_
      refine ab_iload_n (i := 1) dX11_shutter_48 rfl rfl ?_
      refine ab_iconst (v := 2) dX11_shutter_49 (by decide) ?_
      refine ab_iload_n (i := 2) dX11_shutter_50 rfl rfl ?_
      refine ab_callV (b := 2) (As := [.int x1, .int 2, .int x2]) ht (Y_X7_swap) l_X11_160 in_X7_swap se_X7_swap (sh_k hs8 2 7 (by decide) rfl) (by decide) rfl rfl ⟨(Nat.le_of_ble_eq_true rfl), (Nat.le_of_ble_eq_true rfl), (Nat.le_of_ble_eq_true rfl), (Nat.le_of_ble_eq_true rfl)⟩ dX11_shutter_51 ?_
      rintro _ h9 ⟨v11, rfl, hs10, ht⟩
      refine ab_callV (b := 0) (As := [.int v11]) ht (Y_X11_change) l_X11_153 in_X11_change se_X11_change (sh_k hs10 0 11 (by decide) rfl) (by decide) rfl rfl ⟨(Nat.le_of_ble_eq_true rfl), (Nat.le_of_ble_eq_true rfl), (Nat.le_of_ble_eq_true rfl), (Nat.le_of_ble_eq_true rfl)⟩ dX11_shutter_54 ?_
      rintro _ h12 ⟨v14, rfl, hs13, ht⟩
      exact ab_iret rfl dX11_shutter_57 (Nat.le_of_ble_eq_true rfl) (Nat.le_of_ble_eq_true rfl) ht
    · have ht := ht.2 c5
      refine ab_aload_n (i := 0) dX11_shutter_28 rfl rfl ?_
      refine ab_bipush (v := (-2)) dX11_shutter_29 (by decide) ?_
      refine ab_callV (b := 0) (As := [.int (-2)]) ht (Y_X11_refuse) l_X11_123 in_X11_refuse se_X11_refuse (sh_k hs3 0 11 (by decide) rfl) (by decide) rfl rfl ⟨(Nat.le_of_ble_eq_true rfl), (Nat.le_of_ble_eq_true rfl), (Nat.le_of_ble_eq_true rfl), (Nat.le_of_ble_eq_true rfl)⟩ dX11_shutter_31 ?_
      rintro _ h15 ⟨v17, rfl, hs16, ht⟩
      exact ab_iret rfl dX11_shutter_34 (Nat.le_of_ble_eq_true rfl) (Nat.le_of_ble_eq_true rfl) ht
  · have ht := ht.2 c1
    refine ab_aload_n (i := 0) dX11_shutter_8 rfl rfl ?_
    refine ab_iconst (v := (-1)) dX11_shutter_9 (by decide) ?_
    refine ab_callV (b := 0) (As := [.int (-1)]) ht (Y_X11_refuse) l_X11_123 in_X11_refuse se_X11_refuse (sh_k hs 0 11 (by decide) rfl) (by decide) rfl rfl ⟨(Nat.le_of_ble_eq_true rfl), (Nat.le_of_ble_eq_true rfl), (Nat.le_of_ble_eq_true rfl), (Nat.le_of_ble_eq_true rfl)⟩ dX11_shutter_10 ?_
    rintro _ h18 ⟨v20, rfl, hs19, ht⟩
    exact ab_iret rfl dX11_shutter_13 (Nat.le_of_ble_eq_true rfl) (Nat.le_of_ble_eq_true rfl) ht
theorem dX11_of_0 : decode cX11_of 0 = .ok (.aload_n 0, 1) := by decide +kernel
theorem dX11_of_1 : decode cX11_of 1 = .ok (.getfield 10, 3) := by decide +kernel
theorem dX11_of_4 : decode cX11_of 4 = .ok (.getfield 130, 3) := by decide +kernel
theorem dX11_of_7 : decode cX11_of 7 = .ok (.iload_n 1, 1) := by decide +kernel
theorem dX11_of_8 : decode cX11_of 8 = .ok (.iload_n 2, 1) := by decide +kernel
theorem dX11_of_9 : decode cX11_of 9 = .ok (.invokevirtual 163, 3) := by decide +kernel
theorem dX11_of_12 : decode cX11_of 12 = .ok (.ireturn, 1) := by decide +kernel
set_option maxRecDepth 20000 in
theorem T_X11_of {Q : Option Value → ah_T → Prop} {h : ah_T} (hs : Sh h) (x1 : Int32) (x2 : Int32) (ht : (Mt mX7_get [.ref 2, .int x1, .int x2] h (ab_qi fun v3 h1 => Sh h1 ∧ Q (some (.int v3)) h1))) : Mt mX11_of [.ref 0, .int x1, .int x2] h Q := by
  refine Mt.ofWp rfl (by exact (Nat.le_of_ble_eq_true rfl)) (Wp.fewer (L' := [some (.ref 0), some (.int x1), some (.int x2)]) (show ab_leL _ _ from ⟨rfl, ⟨rfl, ⟨rfl, trivial⟩⟩⟩) ?_)
  refine ab_aload_n (i := 0) dX11_of_0 rfl rfl ?_
  refine ab_getR (b := 1) f_X11_10 rfl (sh_k hs 0 11 (by decide) rfl) (sh_r hs 0 rfl) dX11_of_1 ?_
  refine ab_getR (b := 2) f_X11_130 rfl (sh_k hs 1 10 (by decide) rfl) (sh_r hs 13 rfl) dX11_of_4 ?_
  refine ab_iload_n (i := 1) dX11_of_7 rfl rfl ?_
  refine ab_iload_n (i := 2) dX11_of_8 rfl rfl ?_
  refine ab_callV (b := 2) (As := [.int x1, .int x2]) ht (Y_X7_get) l_X11_163 in_X7_get se_X7_get (sh_k hs 2 7 (by decide) rfl) (by decide) rfl rfl ⟨(Nat.le_of_ble_eq_true rfl), (Nat.le_of_ble_eq_true rfl), (Nat.le_of_ble_eq_true rfl), (Nat.le_of_ble_eq_true rfl)⟩ dX11_of_9 ?_
  rintro _ h1 ⟨v3, rfl, hs2, ht⟩
  exact ab_iret rfl dX11_of_12 (Nat.le_of_ble_eq_true rfl) (Nat.le_of_ble_eq_true rfl) ht
theorem dX11_far_0 : decode cX11_far 0 = .ok (.iload_n 1, 1) := by decide +kernel
theorem dX11_far_1 : decode cX11_far 1 = .ok (.bipush 12, 2) := by decide +kernel
theorem dX11_far_3 : decode cX11_far 3 = .ok (.invokestatic 119, 3) := by decide +kernel
theorem dX11_far_6 : decode cX11_far 6 = .ok (.ifCond .eq 20, 3) := by decide +kernel
theorem dX11_far_9 : decode cX11_far 9 = .ok (.iload_n 2, 1) := by decide +kernel
theorem dX11_far_10 : decode cX11_far 10 = .ok (.bipush 12, 2) := by decide +kernel
theorem dX11_far_12 : decode cX11_far 12 = .ok (.invokestatic 119, 3) := by decide +kernel
theorem dX11_far_15 : decode cX11_far 15 = .ok (.ifCond .eq 11, 3) := by decide +kernel
theorem dX11_far_18 : decode cX11_far 18 = .ok (.iload_n 3, 1) := by decide +kernel
theorem dX11_far_19 : decode cX11_far 19 = .ok (.iconst 2, 1) := by decide +kernel
theorem dX11_far_20 : decode cX11_far 20 = .ok (.invokestatic 119, 3) := by decide +kernel
theorem dX11_far_23 : decode cX11_far 23 = .ok (.ifCond .ne 5, 3) := by decide +kernel
theorem dX11_far_26 : decode cX11_far 26 = .ok (.iconst (-1), 1) := by decide +kernel
theorem dX11_far_27 : decode cX11_far 27 = .ok (.ireturn, 1) := by decide +kernel
theorem dX11_far_28 : decode cX11_far 28 = .ok (.aload_n 0, 1) := by decide +kernel
theorem dX11_far_29 : decode cX11_far 29 = .ok (.invokevirtual 166, 3) := by decide +kernel
theorem dX11_far_32 : decode cX11_far 32 = .ok (.iload_n 3, 1) := by decide +kernel
theorem dX11_far_33 : decode cX11_far 33 = .ok (.ifCond .ne 15, 3) := by decide +kernel
theorem dX11_far_36 : decode cX11_far 36 = .ok (.aload_n 0, 1) := by decide +kernel
theorem dX11_far_37 : decode cX11_far 37 = .ok (.getfield 49, 3) := by decide +kernel
theorem dX11_far_40 : decode cX11_far 40 = .ok (.iload_n 1, 1) := by decide +kernel
theorem dX11_far_41 : decode cX11_far 41 = .ok (.iload_n 2, 1) := by decide +kernel
theorem dX11_far_42 : decode cX11_far 42 = .ok (.invokevirtual 169, 3) := by decide +kernel
theorem dX11_far_45 : decode cX11_far 45 = .ok (.goto 12, 3) := by decide +kernel
theorem dX11_far_48 : decode cX11_far 48 = .ok (.aload_n 0, 1) := by decide +kernel
theorem dX11_far_49 : decode cX11_far 49 = .ok (.getfield 49, 3) := by decide +kernel
theorem dX11_far_52 : decode cX11_far 52 = .ok (.iload_n 1, 1) := by decide +kernel
theorem dX11_far_53 : decode cX11_far 53 = .ok (.iload_n 2, 1) := by decide +kernel
theorem dX11_far_54 : decode cX11_far 54 = .ok (.invokevirtual 172, 3) := by decide +kernel
theorem dX11_far_57 : decode cX11_far 57 = .ok (.ireturn, 1) := by decide +kernel
set_option maxRecDepth 20000 in
theorem T_X11_far {Q : Option Value → ah_T → Prop} {h : ah_T} (hs : Sh h) (x1 : Int32) (x2 : Int32) (x3 : Int32) (ht : (((f_X11_isIn x1 12) = 0 → Q (some (.int (-1))) h) ∧ (¬ (f_X11_isIn x1 12) = 0 → (((f_X11_isIn x2 12) = 0 → Q (some (.int (-1))) h) ∧ (¬ (f_X11_isIn x2 12) = 0 → ((¬ (f_X11_isIn x3 2) = 0 → (Mt mX11_look [.ref 0] h (ab_qv fun h4 => Sh h4 ∧ ((¬ x3 = 0 → ((¬ (f_X11_isIn x1 12) = 0 → (¬ (f_X11_isIn x2 12) = 0 → vp_in ((x1 * 12) + x2) (ah_n h4 34)))) ∧ Q (some (.int (f_X6_sight h4 x1 x2))) h4) ∧ (x3 = 0 → ((¬ (f_X11_isIn x1 12) = 0 → (¬ (f_X11_isIn x2 12) = 0 → vp_in ((x1 * 12) + x2) (ah_n h4 33)))) ∧ Q (some (.int (f_X6_steps h4 x1 x2))) h4))))) ∧ ((f_X11_isIn x3 2) = 0 → Q (some (.int (-1))) h))))))) : Mt mX11_far [.ref 0, .int x1, .int x2, .int x3] h Q := by
  refine Mt.ofWp rfl (by exact (Nat.le_of_ble_eq_true rfl)) (Wp.fewer (L' := [some (.ref 0), some (.int x1), some (.int x2), some (.int x3)]) (show ab_leL _ _ from ⟨rfl, ⟨rfl, ⟨rfl, ⟨rfl, trivial⟩⟩⟩⟩) ?_)
  refine ab_iload_n (i := 1) dX11_far_0 rfl rfl ?_
  refine ab_bipush (v := 12) dX11_far_1 (by decide) ?_
  refine ab_callS (Q' := fun r h' => r = some (.int (f_X11_isIn x1 12)) ∧ h = h') (As := [.int x1, .int 12]) (c_X11_isIn hs x1 12 ⟨rfl, rfl⟩) (Y_X11_isIn) l_X11_119 st_X11_isIn rfl ⟨(Nat.le_of_ble_eq_true rfl), (Nat.le_of_ble_eq_true rfl), (Nat.le_of_ble_eq_true rfl), (Nat.le_of_ble_eq_true rfl)⟩ dX11_far_3 ?_
  rintro _ _ ⟨rfl, rfl⟩
  refine ab_if_eq (tgt := 26) dX11_far_6 (by decide) (fun c1 => ?_) (fun c1 => ?_)
  · have ht := ht.1 c1
    refine ab_iconst (v := (-1)) dX11_far_26 (by decide) ?_
    exact ab_iret rfl dX11_far_27 (Nat.le_of_ble_eq_true rfl) (Nat.le_of_ble_eq_true rfl) ht
  · have ht := ht.2 c1
    refine ab_iload_n (i := 2) dX11_far_9 rfl rfl ?_
    refine ab_bipush (v := 12) dX11_far_10 (by decide) ?_
    refine ab_callS (Q' := fun r h' => r = some (.int (f_X11_isIn x2 12)) ∧ h = h') (As := [.int x2, .int 12]) (c_X11_isIn hs x2 12 ⟨rfl, rfl⟩) (Y_X11_isIn) l_X11_119 st_X11_isIn rfl ⟨(Nat.le_of_ble_eq_true rfl), (Nat.le_of_ble_eq_true rfl), (Nat.le_of_ble_eq_true rfl), (Nat.le_of_ble_eq_true rfl)⟩ dX11_far_12 ?_
    rintro _ _ ⟨rfl, rfl⟩
    refine ab_if_eq (tgt := 26) dX11_far_15 (by decide) (fun c2 => ?_) (fun c2 => ?_)
    · have ht := ht.1 c2
      refine ab_iconst (v := (-1)) dX11_far_26 (by decide) ?_
      exact ab_iret rfl dX11_far_27 (Nat.le_of_ble_eq_true rfl) (Nat.le_of_ble_eq_true rfl) ht
    · have ht := ht.2 c2
      refine ab_iload_n (i := 3) dX11_far_18 rfl rfl ?_
      refine ab_iconst (v := 2) dX11_far_19 (by decide) ?_
      refine ab_callS (Q' := fun r h' => r = some (.int (f_X11_isIn x3 2)) ∧ h = h') (As := [.int x3, .int 2]) (c_X11_isIn hs x3 2 ⟨rfl, rfl⟩) (Y_X11_isIn) l_X11_119 st_X11_isIn rfl ⟨(Nat.le_of_ble_eq_true rfl), (Nat.le_of_ble_eq_true rfl), (Nat.le_of_ble_eq_true rfl), (Nat.le_of_ble_eq_true rfl)⟩ dX11_far_20 ?_
      rintro _ _ ⟨rfl, rfl⟩
      refine ab_if_ne (tgt := 28) dX11_far_23 (by decide) (fun c3 => ?_) (fun c3 => ?_)
      · have ht := ht.1 c3
        refine ab_aload_n (i := 0) dX11_far_28 rfl rfl ?_
        refine ab_callV (b := 0) (As := []) ht (Y_X11_look) l_X11_166 in_X11_look se_X11_look (sh_k hs 0 11 (by decide) rfl) (by decide) rfl rfl ⟨(Nat.le_of_ble_eq_true rfl), (Nat.le_of_ble_eq_true rfl), (Nat.le_of_ble_eq_true rfl), (Nat.le_of_ble_eq_true rfl)⟩ dX11_far_29 ?_
        rintro _ h4 ⟨rfl, hs5, ht⟩
        refine ab_iload_n (i := 3) dX11_far_32 rfl rfl ?_
        refine ab_if_ne (tgt := 48) dX11_far_33 (by decide) (fun c7 => ?_) (fun c7 => ?_)
        · have ht := ht.1 c7
          refine ab_aload_n (i := 0) dX11_far_48 rfl rfl ?_
          refine ab_getR (b := 29) f_X11_49 rfl (sh_k hs5 0 11 (by decide) rfl) (sh_r hs5 7 rfl) dX11_far_49 ?_
          refine ab_iload_n (i := 1) dX11_far_52 rfl rfl ?_
          refine ab_iload_n (i := 2) dX11_far_53 rfl rfl ?_
          obtain ⟨hc8, ht⟩ := ht
          refine ab_callV (b := 29) (Q' := fun r h' => r = some (.int (f_X6_sight h4 x1 x2)) ∧ h4 = h') (As := [.int x1, .int x2]) (c_X6_sight hs5 x1 x2  hc8 ⟨rfl, rfl⟩) (Y_X6_sight) l_X11_172 in_X6_sight se_X6_sight (sh_k hs5 29 6 (by decide) rfl) (by decide) rfl rfl ⟨(Nat.le_of_ble_eq_true rfl), (Nat.le_of_ble_eq_true rfl), (Nat.le_of_ble_eq_true rfl), (Nat.le_of_ble_eq_true rfl)⟩ dX11_far_54 ?_
          rintro _ _ ⟨rfl, rfl⟩
          exact ab_iret rfl dX11_far_57 (Nat.le_of_ble_eq_true rfl) (Nat.le_of_ble_eq_true rfl) ht
        · have ht := ht.2 c7
          refine ab_aload_n (i := 0) dX11_far_36 rfl rfl ?_
          refine ab_getR (b := 29) f_X11_49 rfl (sh_k hs5 0 11 (by decide) rfl) (sh_r hs5 7 rfl) dX11_far_37 ?_
          refine ab_iload_n (i := 1) dX11_far_40 rfl rfl ?_
          refine ab_iload_n (i := 2) dX11_far_41 rfl rfl ?_
          obtain ⟨hc9, ht⟩ := ht
          refine ab_callV (b := 29) (Q' := fun r h' => r = some (.int (f_X6_steps h4 x1 x2)) ∧ h4 = h') (As := [.int x1, .int x2]) (c_X6_steps hs5 x1 x2  hc9 ⟨rfl, rfl⟩) (Y_X6_steps) l_X11_169 in_X6_steps se_X6_steps (sh_k hs5 29 6 (by decide) rfl) (by decide) rfl rfl ⟨(Nat.le_of_ble_eq_true rfl), (Nat.le_of_ble_eq_true rfl), (Nat.le_of_ble_eq_true rfl), (Nat.le_of_ble_eq_true rfl)⟩ dX11_far_42 ?_
          rintro _ _ ⟨rfl, rfl⟩
          refine ab_goto (tgt := 57) dX11_far_45 (by decide) ?_
          exact ab_iret rfl dX11_far_57 (Nat.le_of_ble_eq_true rfl) (Nat.le_of_ble_eq_true rfl) ht
      · have ht := ht.2 c3
        refine ab_iconst (v := (-1)) dX11_far_26 (by decide) ?_
        exact ab_iret rfl dX11_far_27 (Nat.le_of_ble_eq_true rfl) (Nat.le_of_ble_eq_true rfl) ht
theorem dX11_lamp_0 : decode cX11_lamp 0 = .ok (.iload_n 1, 1) := by decide +kernel
theorem dX11_lamp_1 : decode cX11_lamp 1 = .ok (.bipush 12, 2) := by decide +kernel
theorem dX11_lamp_3 : decode cX11_lamp 3 = .ok (.invokestatic 119, 3) := by decide +kernel
theorem dX11_lamp_6 : decode cX11_lamp 6 = .ok (.ifCond .eq 24, 3) := by decide +kernel
theorem dX11_lamp_9 : decode cX11_lamp 9 = .ok (.iload_n 2, 1) := by decide +kernel
theorem dX11_lamp_10 : decode cX11_lamp 10 = .ok (.bipush 6, 2) := by decide +kernel
theorem dX11_lamp_12 : decode cX11_lamp 12 = .ok (.invokestatic 119, 3) := by decide +kernel
theorem dX11_lamp_15 : decode cX11_lamp 15 = .ok (.ifCond .eq 15, 3) := by decide +kernel
theorem dX11_lamp_18 : decode cX11_lamp 18 = .ok (.iload_n 3, 1) := by decide +kernel
theorem dX11_lamp_19 : decode cX11_lamp 19 = .ok (.iconst 1, 1) := by decide +kernel
theorem dX11_lamp_20 : decode cX11_lamp 20 = .ok (.if_icmp .lt 10, 3) := by decide +kernel
theorem dX11_lamp_23 : decode cX11_lamp 23 = .ok (.iload_n 3, 1) := by decide +kernel
theorem dX11_lamp_24 : decode cX11_lamp 24 = .ok (.sipush 240, 3) := by decide +kernel
theorem dX11_lamp_27 : decode cX11_lamp 27 = .ok (.if_icmp .le 9, 3) := by decide +kernel
theorem dX11_lamp_30 : decode cX11_lamp 30 = .ok (.aload_n 0, 1) := by decide +kernel
theorem dX11_lamp_31 : decode cX11_lamp 31 = .ok (.iconst (-1), 1) := by decide +kernel
theorem dX11_lamp_32 : decode cX11_lamp 32 = .ok (.invokevirtual 123, 3) := by decide +kernel
theorem dX11_lamp_35 : decode cX11_lamp 35 = .ok (.ireturn, 1) := by decide +kernel
theorem dX11_lamp_36 : decode cX11_lamp 36 = .ok (.aload_n 0, 1) := by decide +kernel
theorem dX11_lamp_37 : decode cX11_lamp 37 = .ok (.getfield 10, 3) := by decide +kernel
theorem dX11_lamp_40 : decode cX11_lamp 40 = .ok (.getfield 175, 3) := by decide +kernel
theorem dX11_lamp_43 : decode cX11_lamp 43 = .ok (.invokevirtual 134, 3) := by decide +kernel
theorem dX11_lamp_46 : decode cX11_lamp 46 = .ok (.ifCond .eq 10, 3) := by decide +kernel
theorem dX11_lamp_49 : decode cX11_lamp 49 = .ok (.aload_n 0, 1) := by decide +kernel
theorem dX11_lamp_50 : decode cX11_lamp 50 = .ok (.bipush (-5), 2) := by decide +kernel
theorem dX11_lamp_52 : decode cX11_lamp 52 = .ok (.invokevirtual 123, 3) := by decide +kernel
theorem dX11_lamp_55 : decode cX11_lamp 55 = .ok (.ireturn, 1) := by decide +kernel
theorem dX11_lamp_56 : decode cX11_lamp 56 = .ok (.aload_n 0, 1) := by decide +kernel
theorem dX11_lamp_57 : decode cX11_lamp 57 = .ok (.iconst 1, 1) := by decide +kernel
theorem dX11_lamp_58 : decode cX11_lamp 58 = .ok (.putfield 112, 3) := by decide +kernel
theorem dX11_lamp_61 : decode cX11_lamp 61 = .ok (.aload_n 0, 1) := by decide +kernel
theorem dX11_lamp_62 : decode cX11_lamp 62 = .ok (.aload_n 0, 1) := by decide +kernel
theorem dX11_lamp_63 : decode cX11_lamp 63 = .ok (.getfield 10, 3) := by decide +kernel
theorem dX11_lamp_66 : decode cX11_lamp 66 = .ok (.getfield 175, 3) := by decide +kernel
theorem dX11_lamp_69 : decode cX11_lamp 69 = .ok (.iload_n 1, 1) := by decide +kernel
theorem dX11_lamp_70 : decode cX11_lamp 70 = .ok (.iload_n 2, 1) := by decide +kernel
theorem dX11_lamp_71 : decode cX11_lamp 71 = .ok (.iload_n 3, 1) := by decide +kernel
theorem dX11_lamp_72 : decode cX11_lamp 72 = .ok (.invokevirtual 149, 3) := by decide +kernel
theorem dX11_lamp_75 : decode cX11_lamp 75 = .ok (.invokevirtual 153, 3) := by decide +kernel
theorem dX11_lamp_78 : decode cX11_lamp 78 = .ok (.ireturn, 1) := by decide +kernel
set_option maxRecDepth 20000 in
theorem T_X11_lamp {Q : Option Value → ah_T → Prop} {h : ah_T} (hs : Sh h) (x1 : Int32) (x2 : Int32) (x3 : Int32) (ht : (((f_X11_isIn x1 12) = 0 → (Mt mX11_refuse [.ref 0, .int (-1)] h (ab_qi fun v4 h2 => Sh h2 ∧ Q (some (.int v4)) h2))) ∧ (¬ (f_X11_isIn x1 12) = 0 → (((f_X11_isIn x2 6) = 0 → (Mt mX11_refuse [.ref 0, .int (-1)] h (ab_qi fun v8 h6 => Sh h6 ∧ Q (some (.int v8)) h6))) ∧ (¬ (f_X11_isIn x2 6) = 0 → ((x3 < 1 → (Mt mX11_refuse [.ref 0, .int (-1)] h (ab_qi fun v12 h10 => Sh h10 ∧ Q (some (.int v12)) h10))) ∧ (¬ x3 < 1 → ((x3 ≤ 240 → (Mt mX7_isFull [.ref 4] h (ab_qi fun v16 h14 => Sh h14 ∧ ((v16 = 0 → (∀ h18, h18 = ah_si h14 0 18 1 → (Mt mX7_add [.ref 4, .int x1, .int x2, .int x3] h18 (ab_qi fun v23 h21 => Sh h21 ∧ (Mt mX11_change [.ref 0, .int v23] h21 (ab_qi fun v26 h24 => Sh h24 ∧ Q (some (.int v26)) h24)))))) ∧ (¬ v16 = 0 → (Mt mX11_refuse [.ref 0, .int (-5)] h14 (ab_qi fun v29 h27 => Sh h27 ∧ Q (some (.int v29)) h27))))))) ∧ (¬ x3 ≤ 240 → (Mt mX11_refuse [.ref 0, .int (-1)] h (ab_qi fun v32 h30 => Sh h30 ∧ Q (some (.int v32)) h30))))))))))) : Mt mX11_lamp [.ref 0, .int x1, .int x2, .int x3] h Q := by
  refine Mt.ofWp rfl (by exact (Nat.le_of_ble_eq_true rfl)) (Wp.fewer (L' := [some (.ref 0), some (.int x1), some (.int x2), some (.int x3)]) (show ab_leL _ _ from ⟨rfl, ⟨rfl, ⟨rfl, ⟨rfl, trivial⟩⟩⟩⟩) ?_)
  refine ab_iload_n (i := 1) dX11_lamp_0 rfl rfl ?_
  refine ab_bipush (v := 12) dX11_lamp_1 (by decide) ?_
  refine ab_callS (Q' := fun r h' => r = some (.int (f_X11_isIn x1 12)) ∧ h = h') (As := [.int x1, .int 12]) (c_X11_isIn hs x1 12 ⟨rfl, rfl⟩) (Y_X11_isIn) l_X11_119 st_X11_isIn rfl ⟨(Nat.le_of_ble_eq_true rfl), (Nat.le_of_ble_eq_true rfl), (Nat.le_of_ble_eq_true rfl), (Nat.le_of_ble_eq_true rfl)⟩ dX11_lamp_3 ?_
  rintro _ _ ⟨rfl, rfl⟩
  refine ab_if_eq (tgt := 30) dX11_lamp_6 (by decide) (fun c1 => ?_) (fun c1 => ?_)
  · have ht := ht.1 c1
    refine ab_aload_n (i := 0) dX11_lamp_30 rfl rfl ?_
    refine ab_iconst (v := (-1)) dX11_lamp_31 (by decide) ?_
    refine ab_callV (b := 0) (As := [.int (-1)]) ht (Y_X11_refuse) l_X11_123 in_X11_refuse se_X11_refuse (sh_k hs 0 11 (by decide) rfl) (by decide) rfl rfl ⟨(Nat.le_of_ble_eq_true rfl), (Nat.le_of_ble_eq_true rfl), (Nat.le_of_ble_eq_true rfl), (Nat.le_of_ble_eq_true rfl)⟩ dX11_lamp_32 ?_
    rintro _ h2 ⟨v4, rfl, hs3, ht⟩
    exact ab_iret rfl dX11_lamp_35 (Nat.le_of_ble_eq_true rfl) (Nat.le_of_ble_eq_true rfl) ht
  · have ht := ht.2 c1
    refine ab_iload_n (i := 2) dX11_lamp_9 rfl rfl ?_
    refine ab_bipush (v := 6) dX11_lamp_10 (by decide) ?_
    refine ab_callS (Q' := fun r h' => r = some (.int (f_X11_isIn x2 6)) ∧ h = h') (As := [.int x2, .int 6]) (c_X11_isIn hs x2 6 ⟨rfl, rfl⟩) (Y_X11_isIn) l_X11_119 st_X11_isIn rfl ⟨(Nat.le_of_ble_eq_true rfl), (Nat.le_of_ble_eq_true rfl), (Nat.le_of_ble_eq_true rfl), (Nat.le_of_ble_eq_true rfl)⟩ dX11_lamp_12 ?_
    rintro _ _ ⟨rfl, rfl⟩
    refine ab_if_eq (tgt := 30) dX11_lamp_15 (by decide) (fun c5 => ?_) (fun c5 => ?_)
    · have ht := ht.1 c5
      refine ab_aload_n (i := 0) dX11_lamp_30 rfl rfl ?_
      refine ab_iconst (v := (-1)) dX11_lamp_31 (by decide) ?_
      refine ab_callV (b := 0) (As := [.int (-1)]) ht (Y_X11_refuse) l_X11_123 in_X11_refuse se_X11_refuse (sh_k hs 0 11 (by decide) rfl) (by decide) rfl rfl ⟨(Nat.le_of_ble_eq_true rfl), (Nat.le_of_ble_eq_true rfl), (Nat.le_of_ble_eq_true rfl), (Nat.le_of_ble_eq_true rfl)⟩ dX11_lamp_32 ?_
      rintro _ h6 ⟨v8, rfl, hs7, ht⟩
      exact ab_iret rfl dX11_lamp_35 (Nat.le_of_ble_eq_true rfl) (Nat.le_of_ble_eq_true rfl) ht
    · have ht := ht.2 c5
      refine ab_iload_n (i := 3) dX11_lamp_18 rfl rfl ?_
      refine ab_iconst (v := 1) dX11_lamp_19 (by decide) ?_
      refine ab_icmp_lt (tgt := 30) dX11_lamp_20 (by decide) (fun c9 => ?_) (fun c9 => ?_)
      · have ht := ht.1 c9
        refine ab_aload_n (i := 0) dX11_lamp_30 rfl rfl ?_
        refine ab_iconst (v := (-1)) dX11_lamp_31 (by decide) ?_
        refine ab_callV (b := 0) (As := [.int (-1)]) ht (Y_X11_refuse) l_X11_123 in_X11_refuse se_X11_refuse (sh_k hs 0 11 (by decide) rfl) (by decide) rfl rfl ⟨(Nat.le_of_ble_eq_true rfl), (Nat.le_of_ble_eq_true rfl), (Nat.le_of_ble_eq_true rfl), (Nat.le_of_ble_eq_true rfl)⟩ dX11_lamp_32 ?_
        rintro _ h10 ⟨v12, rfl, hs11, ht⟩
        exact ab_iret rfl dX11_lamp_35 (Nat.le_of_ble_eq_true rfl) (Nat.le_of_ble_eq_true rfl) ht
      · have ht := ht.2 c9
        refine ab_iload_n (i := 3) dX11_lamp_23 rfl rfl ?_
        refine ab_sipush (v := 240) dX11_lamp_24 (by decide) ?_
        refine ab_icmp_le (tgt := 36) dX11_lamp_27 (by decide) (fun c13 => ?_) (fun c13 => ?_)
        · have ht := ht.1 c13
          refine ab_aload_n (i := 0) dX11_lamp_36 rfl rfl ?_
          refine ab_getR (b := 1) f_X11_10 rfl (sh_k hs 0 11 (by decide) rfl) (sh_r hs 0 rfl) dX11_lamp_37 ?_
          refine ab_getR (b := 4) f_X11_175 rfl (sh_k hs 1 10 (by decide) rfl) (sh_r hs 14 rfl) dX11_lamp_40 ?_
          refine ab_callV (b := 4) (As := []) ht (Y_X7_isFull) l_X11_134 in_X7_isFull se_X7_isFull (sh_k hs 4 7 (by decide) rfl) (by decide) rfl rfl ⟨(Nat.le_of_ble_eq_true rfl), (Nat.le_of_ble_eq_true rfl), (Nat.le_of_ble_eq_true rfl), (Nat.le_of_ble_eq_true rfl)⟩ dX11_lamp_43 ?_
          rintro _ h14 ⟨v16, rfl, hs15, ht⟩
          refine ab_if_eq (tgt := 56) dX11_lamp_46 (by decide) (fun c17 => ?_) (fun c17 => ?_)
          · have ht := ht.1 c17
            refine ab_aload_n (i := 0) dX11_lamp_56 rfl rfl ?_
            refine ab_iconst (v := 1) dX11_lamp_57 (by decide) ?_
            refine ab_putI f_X11_112 (Or.inl rfl) rfl (sh_k hs15 0 11 (by decide) rfl) rfl rfl dX11_lamp_58 ?_
            refine Wp.nm fun h18 e19 => ?_
            have ht := ht h18 e19
            have hs20 : Sh h18 := by rw [e19]; exact sh_si hs15
            refine ab_aload_n (i := 0) dX11_lamp_61 rfl rfl ?_
            refine ab_aload_n (i := 0) dX11_lamp_62 rfl rfl ?_
            refine ab_getR (b := 1) f_X11_10 rfl (sh_k hs20 0 11 (by decide) rfl) (sh_r hs20 0 rfl) dX11_lamp_63 ?_
            refine ab_getR (b := 4) f_X11_175 rfl (sh_k hs20 1 10 (by decide) rfl) (sh_r hs20 14 rfl) dX11_lamp_66 ?_
            refine ab_iload_n (i := 1) dX11_lamp_69 rfl rfl ?_
            refine ab_iload_n (i := 2) dX11_lamp_70 rfl rfl ?_
            refine ab_iload_n (i := 3) dX11_lamp_71 rfl rfl ?_
            refine ab_callV (b := 4) (As := [.int x1, .int x2, .int x3]) ht (Y_X7_add) l_X11_149 in_X7_add se_X7_add (sh_k hs20 4 7 (by decide) rfl) (by decide) rfl rfl ⟨(Nat.le_of_ble_eq_true rfl), (Nat.le_of_ble_eq_true rfl), (Nat.le_of_ble_eq_true rfl), (Nat.le_of_ble_eq_true rfl)⟩ dX11_lamp_72 ?_
            rintro _ h21 ⟨v23, rfl, hs22, ht⟩
            refine ab_callV (b := 0) (As := [.int v23]) ht (Y_X11_change) l_X11_153 in_X11_change se_X11_change (sh_k hs22 0 11 (by decide) rfl) (by decide) rfl rfl ⟨(Nat.le_of_ble_eq_true rfl), (Nat.le_of_ble_eq_true rfl), (Nat.le_of_ble_eq_true rfl), (Nat.le_of_ble_eq_true rfl)⟩ dX11_lamp_75 ?_
            rintro _ h24 ⟨v26, rfl, hs25, ht⟩
            exact ab_iret rfl dX11_lamp_78 (Nat.le_of_ble_eq_true rfl) (Nat.le_of_ble_eq_true rfl) ht
          · have ht := ht.2 c17
            refine ab_aload_n (i := 0) dX11_lamp_49 rfl rfl ?_
            refine ab_bipush (v := (-5)) dX11_lamp_50 (by decide) ?_
            refine ab_callV (b := 0) (As := [.int (-5)]) ht (Y_X11_refuse) l_X11_123 in_X11_refuse se_X11_refuse (sh_k hs15 0 11 (by decide) rfl) (by decide) rfl rfl ⟨(Nat.le_of_ble_eq_true rfl), (Nat.le_of_ble_eq_true rfl), (Nat.le_of_ble_eq_true rfl), (Nat.le_of_ble_eq_true rfl)⟩ dX11_lamp_52 ?_
            rintro _ h27 ⟨v29, rfl, hs28, ht⟩
            exact ab_iret rfl dX11_lamp_55 (Nat.le_of_ble_eq_true rfl) (Nat.le_of_ble_eq_true rfl) ht
        · have ht := ht.2 c13
          refine ab_aload_n (i := 0) dX11_lamp_30 rfl rfl ?_
          refine ab_iconst (v := (-1)) dX11_lamp_31 (by decide) ?_
          refine ab_callV (b := 0) (As := [.int (-1)]) ht (Y_X11_refuse) l_X11_123 in_X11_refuse se_X11_refuse (sh_k hs 0 11 (by decide) rfl) (by decide) rfl rfl ⟨(Nat.le_of_ble_eq_true rfl), (Nat.le_of_ble_eq_true rfl), (Nat.le_of_ble_eq_true rfl), (Nat.le_of_ble_eq_true rfl)⟩ dX11_lamp_32 ?_
          rintro _ h30 ⟨v32, rfl, hs31, ht⟩
          exact ab_iret rfl dX11_lamp_35 (Nat.le_of_ble_eq_true rfl) (Nat.le_of_ble_eq_true rfl) ht
theorem dX11_put_0 : decode cX11_put 0 = .ok (.iload_n 2, 1) := by decide +kernel
theorem dX11_put_1 : decode cX11_put 1 = .ok (.iload_n 3, 1) := by decide +kernel
theorem dX11_put_2 : decode cX11_put 2 = .ok (.invokestatic 178, 3) := by decide +kernel
theorem dX11_put_5 : decode cX11_put 5 = .ok (.ifCond .ne 9, 3) := by decide +kernel
theorem dX11_put_8 : decode cX11_put 8 = .ok (.aload_n 0, 1) := by decide +kernel
theorem dX11_put_9 : decode cX11_put 9 = .ok (.iconst (-1), 1) := by decide +kernel
theorem dX11_put_10 : decode cX11_put 10 = .ok (.invokevirtual 123, 3) := by decide +kernel
theorem dX11_put_13 : decode cX11_put 13 = .ok (.ireturn, 1) := by decide +kernel
theorem dX11_put_14 : decode cX11_put 14 = .ok (.aload_n 0, 1) := by decide +kernel
theorem dX11_put_15 : decode cX11_put 15 = .ok (.getfield 10, 3) := by decide +kernel
theorem dX11_put_18 : decode cX11_put 18 = .ok (.getfield 175, 3) := by decide +kernel
theorem dX11_put_21 : decode cX11_put 21 = .ok (.iload_n 1, 1) := by decide +kernel
theorem dX11_put_22 : decode cX11_put 22 = .ok (.invokevirtual 156, 3) := by decide +kernel
theorem dX11_put_25 : decode cX11_put 25 = .ok (.ifCond .ne 10, 3) := by decide +kernel
theorem dX11_put_28 : decode cX11_put 28 = .ok (.aload_n 0, 1) := by decide +kernel
theorem dX11_put_29 : decode cX11_put 29 = .ok (.bipush (-2), 2) := by decide +kernel
theorem dX11_put_31 : decode cX11_put 31 = .ok (.invokevirtual 123, 3) := by decide +kernel
theorem dX11_put_34 : decode cX11_put 34 = .ok (.ireturn, 1) := by decide +kernel
theorem dX11_put_35 : decode cX11_put 35 = .ok (.aload_n 0, 1) := by decide +kernel
theorem dX11_put_36 : decode cX11_put 36 = .ok (.iconst 1, 1) := by decide +kernel
theorem dX11_put_37 : decode cX11_put 37 = .ok (.putfield 112, 3) := by decide +kernel
theorem dX11_put_40 : decode cX11_put 40 = .ok (.aload_n 0, 1) := by decide +kernel
theorem dX11_put_41 : decode cX11_put 41 = .ok (.aload_n 0, 1) := by decide +kernel
theorem dX11_put_42 : decode cX11_put 42 = .ok (.getfield 10, 3) := by decide +kernel
theorem dX11_put_45 : decode cX11_put 45 = .ok (.getfield 175, 3) := by decide +kernel
theorem dX11_put_48 : decode cX11_put 48 = .ok (.iload_n 1, 1) := by decide +kernel
theorem dX11_put_49 : decode cX11_put 49 = .ok (.iload_n 2, 1) := by decide +kernel
theorem dX11_put_50 : decode cX11_put 50 = .ok (.iload_n 3, 1) := by decide +kernel
theorem dX11_put_51 : decode cX11_put 51 = .ok (.invokevirtual 160, 3) := by decide +kernel
theorem dX11_put_54 : decode cX11_put 54 = .ok (.invokevirtual 153, 3) := by decide +kernel
theorem dX11_put_57 : decode cX11_put 57 = .ok (.ireturn, 1) := by decide +kernel
set_option maxRecDepth 20000 in
theorem T_X11_put {Q : Option Value → ah_T → Prop} {h : ah_T} (hs : Sh h) (x1 : Int32) (x2 : Int32) (x3 : Int32) (ht : (Mt mX11_isFact [.int x2, .int x3] h (ab_qi fun v3 h1 => Sh h1 ∧ ((¬ v3 = 0 → (Mt mX7_has [.ref 4, .int x1] h1 (ab_qi fun v7 h5 => Sh h5 ∧ ((¬ v7 = 0 → (∀ h9, h9 = ah_si h5 0 18 1 → (Mt mX7_swap [.ref 4, .int x1, .int x2, .int x3] h9 (ab_qi fun v14 h12 => Sh h12 ∧ (Mt mX11_change [.ref 0, .int v14] h12 (ab_qi fun v17 h15 => Sh h15 ∧ Q (some (.int v17)) h15)))))) ∧ (v7 = 0 → (Mt mX11_refuse [.ref 0, .int (-2)] h5 (ab_qi fun v20 h18 => Sh h18 ∧ Q (some (.int v20)) h18))))))) ∧ (v3 = 0 → (Mt mX11_refuse [.ref 0, .int (-1)] h1 (ab_qi fun v23 h21 => Sh h21 ∧ Q (some (.int v23)) h21))))))) : Mt mX11_put [.ref 0, .int x1, .int x2, .int x3] h Q := by
  refine Mt.ofWp rfl (by exact (Nat.le_of_ble_eq_true rfl)) (Wp.fewer (L' := [some (.ref 0), some (.int x1), some (.int x2), some (.int x3)]) (show ab_leL _ _ from ⟨rfl, ⟨rfl, ⟨rfl, ⟨rfl, trivial⟩⟩⟩⟩) ?_)
  refine ab_iload_n (i := 2) dX11_put_0 rfl rfl ?_
  refine ab_iload_n (i := 3) dX11_put_1 rfl rfl ?_
  refine ab_callS (As := [.int x2, .int x3]) ht (Y_X11_isFact) l_X11_178 st_X11_isFact rfl ⟨(Nat.le_of_ble_eq_true rfl), (Nat.le_of_ble_eq_true rfl), (Nat.le_of_ble_eq_true rfl), (Nat.le_of_ble_eq_true rfl)⟩ dX11_put_2 ?_
  rintro _ h1 ⟨v3, rfl, hs2, ht⟩
  refine ab_if_ne (tgt := 14) dX11_put_5 (by decide) (fun c4 => ?_) (fun c4 => ?_)
  · have ht := ht.1 c4
    refine ab_aload_n (i := 0) dX11_put_14 rfl rfl ?_
    refine ab_getR (b := 1) f_X11_10 rfl (sh_k hs2 0 11 (by decide) rfl) (sh_r hs2 0 rfl) dX11_put_15 ?_
    refine ab_getR (b := 4) f_X11_175 rfl (sh_k hs2 1 10 (by decide) rfl) (sh_r hs2 14 rfl) dX11_put_18 ?_
    refine ab_iload_n (i := 1) dX11_put_21 rfl rfl ?_
    refine ab_callV (b := 4) (As := [.int x1]) ht (Y_X7_has) l_X11_156 in_X7_has se_X7_has (sh_k hs2 4 7 (by decide) rfl) (by decide) rfl rfl ⟨(Nat.le_of_ble_eq_true rfl), (Nat.le_of_ble_eq_true rfl), (Nat.le_of_ble_eq_true rfl), (Nat.le_of_ble_eq_true rfl)⟩ dX11_put_22 ?_
    rintro _ h5 ⟨v7, rfl, hs6, ht⟩
    refine ab_if_ne (tgt := 35) dX11_put_25 (by decide) (fun c8 => ?_) (fun c8 => ?_)
    · have ht := ht.1 c8
      refine ab_aload_n (i := 0) dX11_put_35 rfl rfl ?_
      refine ab_iconst (v := 1) dX11_put_36 (by decide) ?_
      refine ab_putI f_X11_112 (Or.inl rfl) rfl (sh_k hs6 0 11 (by decide) rfl) rfl rfl dX11_put_37 ?_
      refine Wp.nm fun h9 e10 => ?_
      have ht := ht h9 e10
      have hs11 : Sh h9 := by rw [e10]; exact sh_si hs6
      refine ab_aload_n (i := 0) dX11_put_40 rfl rfl ?_
      refine ab_aload_n (i := 0) dX11_put_41 rfl rfl ?_
      refine ab_getR (b := 1) f_X11_10 rfl (sh_k hs11 0 11 (by decide) rfl) (sh_r hs11 0 rfl) dX11_put_42 ?_
      refine ab_getR (b := 4) f_X11_175 rfl (sh_k hs11 1 10 (by decide) rfl) (sh_r hs11 14 rfl) dX11_put_45 ?_
      refine ab_iload_n (i := 1) dX11_put_48 rfl rfl ?_
      refine ab_iload_n (i := 2) dX11_put_49 rfl rfl ?_
      refine ab_iload_n (i := 3) dX11_put_50 rfl rfl ?_
      refine ab_callV (b := 4) (As := [.int x1, .int x2, .int x3]) ht (Y_X7_swap) l_X11_160 in_X7_swap se_X7_swap (sh_k hs11 4 7 (by decide) rfl) (by decide) rfl rfl ⟨(Nat.le_of_ble_eq_true rfl), (Nat.le_of_ble_eq_true rfl), (Nat.le_of_ble_eq_true rfl), (Nat.le_of_ble_eq_true rfl)⟩ dX11_put_51 ?_
      rintro _ h12 ⟨v14, rfl, hs13, ht⟩
      refine ab_callV (b := 0) (As := [.int v14]) ht (Y_X11_change) l_X11_153 in_X11_change se_X11_change (sh_k hs13 0 11 (by decide) rfl) (by decide) rfl rfl ⟨(Nat.le_of_ble_eq_true rfl), (Nat.le_of_ble_eq_true rfl), (Nat.le_of_ble_eq_true rfl), (Nat.le_of_ble_eq_true rfl)⟩ dX11_put_54 ?_
      rintro _ h15 ⟨v17, rfl, hs16, ht⟩
      exact ab_iret rfl dX11_put_57 (Nat.le_of_ble_eq_true rfl) (Nat.le_of_ble_eq_true rfl) ht
    · have ht := ht.2 c8
      refine ab_aload_n (i := 0) dX11_put_28 rfl rfl ?_
      refine ab_bipush (v := (-2)) dX11_put_29 (by decide) ?_
      refine ab_callV (b := 0) (As := [.int (-2)]) ht (Y_X11_refuse) l_X11_123 in_X11_refuse se_X11_refuse (sh_k hs6 0 11 (by decide) rfl) (by decide) rfl rfl ⟨(Nat.le_of_ble_eq_true rfl), (Nat.le_of_ble_eq_true rfl), (Nat.le_of_ble_eq_true rfl), (Nat.le_of_ble_eq_true rfl)⟩ dX11_put_31 ?_
      rintro _ h18 ⟨v20, rfl, hs19, ht⟩
      exact ab_iret rfl dX11_put_34 (Nat.le_of_ble_eq_true rfl) (Nat.le_of_ble_eq_true rfl) ht
  · have ht := ht.2 c4
    refine ab_aload_n (i := 0) dX11_put_8 rfl rfl ?_
    refine ab_iconst (v := (-1)) dX11_put_9 (by decide) ?_
    refine ab_callV (b := 0) (As := [.int (-1)]) ht (Y_X11_refuse) l_X11_123 in_X11_refuse se_X11_refuse (sh_k hs2 0 11 (by decide) rfl) (by decide) rfl rfl ⟨(Nat.le_of_ble_eq_true rfl), (Nat.le_of_ble_eq_true rfl), (Nat.le_of_ble_eq_true rfl), (Nat.le_of_ble_eq_true rfl)⟩ dX11_put_10 ?_
    rintro _ h21 ⟨v23, rfl, hs22, ht⟩
    exact ab_iret rfl dX11_put_13 (Nat.le_of_ble_eq_true rfl) (Nat.le_of_ble_eq_true rfl) ht
theorem dX11_fact_0 : decode cX11_fact 0 = .ok (.aload_n 0, 1) := by decide +kernel
theorem dX11_fact_1 : decode cX11_fact 1 = .ok (.getfield 10, 3) := by decide +kernel
theorem dX11_fact_4 : decode cX11_fact 4 = .ok (.getfield 175, 3) := by decide +kernel
theorem dX11_fact_7 : decode cX11_fact 7 = .ok (.iload_n 1, 1) := by decide +kernel
theorem dX11_fact_8 : decode cX11_fact 8 = .ok (.iload_n 2, 1) := by decide +kernel
theorem dX11_fact_9 : decode cX11_fact 9 = .ok (.invokevirtual 163, 3) := by decide +kernel
theorem dX11_fact_12 : decode cX11_fact 12 = .ok (.ireturn, 1) := by decide +kernel
set_option maxRecDepth 20000 in
theorem T_X11_fact {Q : Option Value → ah_T → Prop} {h : ah_T} (hs : Sh h) (x1 : Int32) (x2 : Int32) (ht : (Mt mX7_get [.ref 4, .int x1, .int x2] h (ab_qi fun v3 h1 => Sh h1 ∧ Q (some (.int v3)) h1))) : Mt mX11_fact [.ref 0, .int x1, .int x2] h Q := by
  refine Mt.ofWp rfl (by exact (Nat.le_of_ble_eq_true rfl)) (Wp.fewer (L' := [some (.ref 0), some (.int x1), some (.int x2)]) (show ab_leL _ _ from ⟨rfl, ⟨rfl, ⟨rfl, trivial⟩⟩⟩) ?_)
  refine ab_aload_n (i := 0) dX11_fact_0 rfl rfl ?_
  refine ab_getR (b := 1) f_X11_10 rfl (sh_k hs 0 11 (by decide) rfl) (sh_r hs 0 rfl) dX11_fact_1 ?_
  refine ab_getR (b := 4) f_X11_175 rfl (sh_k hs 1 10 (by decide) rfl) (sh_r hs 14 rfl) dX11_fact_4 ?_
  refine ab_iload_n (i := 1) dX11_fact_7 rfl rfl ?_
  refine ab_iload_n (i := 2) dX11_fact_8 rfl rfl ?_
  refine ab_callV (b := 4) (As := [.int x1, .int x2]) ht (Y_X7_get) l_X11_163 in_X7_get se_X7_get (sh_k hs 4 7 (by decide) rfl) (by decide) rfl rfl ⟨(Nat.le_of_ble_eq_true rfl), (Nat.le_of_ble_eq_true rfl), (Nat.le_of_ble_eq_true rfl), (Nat.le_of_ble_eq_true rfl)⟩ dX11_fact_9 ?_
  rintro _ h1 ⟨v3, rfl, hs2, ht⟩
  exact ab_iret rfl dX11_fact_12 (Nat.le_of_ble_eq_true rfl) (Nat.le_of_ble_eq_true rfl) ht
theorem dX11_turn_0 : decode cX11_turn 0 = .ok (.aload_n 0, 1) := by decide +kernel
theorem dX11_turn_1 : decode cX11_turn 1 = .ok (.getfield 10, 3) := by decide +kernel
theorem dX11_turn_4 : decode cX11_turn 4 = .ok (.iload_n 1, 1) := by decide +kernel
theorem dX11_turn_5 : decode cX11_turn 5 = .ok (.iload_n 2, 1) := by decide +kernel
theorem dX11_turn_6 : decode cX11_turn 6 = .ok (.iload_n 3, 1) := by decide +kernel
theorem dX11_turn_7 : decode cX11_turn 7 = .ok (.invokevirtual 181, 3) := by decide +kernel
theorem dX11_turn_10 : decode cX11_turn 10 = .ok (.istore 4, 2) := by decide +kernel
theorem dX11_turn_12 : decode cX11_turn 12 = .ok (.iload 4, 2) := by decide +kernel
theorem dX11_turn_14 : decode cX11_turn 14 = .ok (.ifCond .eq 12, 3) := by decide +kernel
theorem dX11_turn_17 : decode cX11_turn 17 = .ok (.aload_n 0, 1) := by decide +kernel
theorem dX11_turn_18 : decode cX11_turn 18 = .ok (.iload 4, 2) := by decide +kernel
theorem dX11_turn_20 : decode cX11_turn 20 = .ok (.invokevirtual 123, 3) := by decide +kernel
theorem dX11_turn_23 : decode cX11_turn 23 = .ok (.goto 17, 3) := by decide +kernel
theorem dX11_turn_26 : decode cX11_turn 26 = .ok (.aload_n 0, 1) := by decide +kernel
theorem dX11_turn_27 : decode cX11_turn 27 = .ok (.aload_n 0, 1) := by decide +kernel
theorem dX11_turn_28 : decode cX11_turn 28 = .ok (.getfield 10, 3) := by decide +kernel
theorem dX11_turn_31 : decode cX11_turn 31 = .ok (.getfield 184, 3) := by decide +kernel
theorem dX11_turn_34 : decode cX11_turn 34 = .ok (.getfield 187, 3) := by decide +kernel
theorem dX11_turn_37 : decode cX11_turn 37 = .ok (.invokevirtual 153, 3) := by decide +kernel
theorem dX11_turn_40 : decode cX11_turn 40 = .ok (.ireturn, 1) := by decide +kernel
set_option maxRecDepth 20000 in
theorem T_X11_turn {Q : Option Value → ah_T → Prop} {h : ah_T} (hs : Sh h) (x1 : Int32) (x2 : Int32) (x3 : Int32) (ht : (Mt mX10_tell [.ref 1, .int x1, .int x2, .int x3] h (ab_qi fun v3 h1 => Sh h1 ∧ ((v3 = 0 → (Mt mX11_change [.ref 0, .int (ah_i h1 6 3)] h1 (ab_qi fun v7 h5 => Sh h5 ∧ Q (some (.int v7)) h5))) ∧ (¬ v3 = 0 → (Mt mX11_refuse [.ref 0, .int v3] h1 (ab_qi fun v10 h8 => Sh h8 ∧ Q (some (.int v10)) h8))))))) : Mt mX11_turn [.ref 0, .int x1, .int x2, .int x3] h Q := by
  refine Mt.ofWp rfl (by exact (Nat.le_of_ble_eq_true rfl)) (Wp.fewer (L' := [some (.ref 0), some (.int x1), some (.int x2), some (.int x3), none]) (show ab_leL _ _ from ⟨rfl, ⟨rfl, ⟨rfl, ⟨rfl, trivial⟩⟩⟩⟩) ?_)
  refine ab_aload_n (i := 0) dX11_turn_0 rfl rfl ?_
  refine ab_getR (b := 1) f_X11_10 rfl (sh_k hs 0 11 (by decide) rfl) (sh_r hs 0 rfl) dX11_turn_1 ?_
  refine ab_iload_n (i := 1) dX11_turn_4 rfl rfl ?_
  refine ab_iload_n (i := 2) dX11_turn_5 rfl rfl ?_
  refine ab_iload_n (i := 3) dX11_turn_6 rfl rfl ?_
  refine ab_callV (b := 1) (As := [.int x1, .int x2, .int x3]) ht (Y_X10_tell) l_X11_181 in_X10_tell se_X10_tell (sh_k hs 1 10 (by decide) rfl) (by decide) rfl rfl ⟨(Nat.le_of_ble_eq_true rfl), (Nat.le_of_ble_eq_true rfl), (Nat.le_of_ble_eq_true rfl), (Nat.le_of_ble_eq_true rfl)⟩ dX11_turn_7 ?_
  rintro _ h1 ⟨v3, rfl, hs2, ht⟩
  refine ab_istore (i := 4) (L' := [some (.ref 0), some (.int x1), some (.int x2), some (.int x3), some (.int v3)]) dX11_turn_10 (by exact (Nat.le_of_ble_eq_true rfl)) rfl rfl ?_
  refine ab_iload (i := 4) dX11_turn_12 rfl ?_
  refine ab_if_eq (tgt := 26) dX11_turn_14 (by decide) (fun c4 => ?_) (fun c4 => ?_)
  · have ht := ht.1 c4
    refine ab_aload_n (i := 0) dX11_turn_26 rfl rfl ?_
    refine ab_aload_n (i := 0) dX11_turn_27 rfl rfl ?_
    refine ab_getR (b := 1) f_X11_10 rfl (sh_k hs2 0 11 (by decide) rfl) (sh_r hs2 0 rfl) dX11_turn_28 ?_
    refine ab_getR (b := 6) f_X11_184 rfl (sh_k hs2 1 10 (by decide) rfl) (sh_r hs2 15 rfl) dX11_turn_31 ?_
    refine ab_getI f_X11_187 rfl (sh_k hs2 6 7 (by decide) rfl) dX11_turn_34 ?_
    refine ab_callV (b := 0) (As := [.int (ah_i h1 6 3)]) ht (Y_X11_change) l_X11_153 in_X11_change se_X11_change (sh_k hs2 0 11 (by decide) rfl) (by decide) rfl rfl ⟨(Nat.le_of_ble_eq_true rfl), (Nat.le_of_ble_eq_true rfl), (Nat.le_of_ble_eq_true rfl), (Nat.le_of_ble_eq_true rfl)⟩ dX11_turn_37 ?_
    rintro _ h5 ⟨v7, rfl, hs6, ht⟩
    exact ab_iret rfl dX11_turn_40 (Nat.le_of_ble_eq_true rfl) (Nat.le_of_ble_eq_true rfl) ht
  · have ht := ht.2 c4
    refine ab_aload_n (i := 0) dX11_turn_17 rfl rfl ?_
    refine ab_iload (i := 4) dX11_turn_18 rfl ?_
    refine ab_callV (b := 0) (As := [.int v3]) ht (Y_X11_refuse) l_X11_123 in_X11_refuse se_X11_refuse (sh_k hs2 0 11 (by decide) rfl) (by decide) rfl rfl ⟨(Nat.le_of_ble_eq_true rfl), (Nat.le_of_ble_eq_true rfl), (Nat.le_of_ble_eq_true rfl), (Nat.le_of_ble_eq_true rfl)⟩ dX11_turn_20 ?_
    rintro _ h8 ⟨v10, rfl, hs9, ht⟩
    refine ab_goto (tgt := 40) dX11_turn_23 (by decide) ?_
    exact ab_iret rfl dX11_turn_40 (Nat.le_of_ble_eq_true rfl) (Nat.le_of_ble_eq_true rfl) ht
theorem dX11_undo_0 : decode cX11_undo 0 = .ok (.aload_n 0, 1) := by decide +kernel
theorem dX11_undo_1 : decode cX11_undo 1 = .ok (.getfield 10, 3) := by decide +kernel
theorem dX11_undo_4 : decode cX11_undo 4 = .ok (.getfield 184, 3) := by decide +kernel
theorem dX11_undo_7 : decode cX11_undo 7 = .ok (.getfield 187, 3) := by decide +kernel
theorem dX11_undo_10 : decode cX11_undo 10 = .ok (.iconst 1, 1) := by decide +kernel
theorem dX11_undo_11 : decode cX11_undo 11 = .ok (.isub, 1) := by decide +kernel
theorem dX11_undo_12 : decode cX11_undo 12 = .ok (.istore_n 1, 1) := by decide +kernel
theorem dX11_undo_13 : decode cX11_undo 13 = .ok (.iload_n 1, 1) := by decide +kernel
theorem dX11_undo_14 : decode cX11_undo 14 = .ok (.ifCond .ge 10, 3) := by decide +kernel
theorem dX11_undo_17 : decode cX11_undo 17 = .ok (.aload_n 0, 1) := by decide +kernel
theorem dX11_undo_18 : decode cX11_undo 18 = .ok (.bipush (-3), 2) := by decide +kernel
theorem dX11_undo_20 : decode cX11_undo 20 = .ok (.invokevirtual 123, 3) := by decide +kernel
theorem dX11_undo_23 : decode cX11_undo 23 = .ok (.ireturn, 1) := by decide +kernel
theorem dX11_undo_24 : decode cX11_undo 24 = .ok (.aload_n 0, 1) := by decide +kernel
theorem dX11_undo_25 : decode cX11_undo 25 = .ok (.getfield 10, 3) := by decide +kernel
theorem dX11_undo_28 : decode cX11_undo 28 = .ok (.getfield 184, 3) := by decide +kernel
theorem dX11_undo_31 : decode cX11_undo 31 = .ok (.iload_n 1, 1) := by decide +kernel
theorem dX11_undo_32 : decode cX11_undo 32 = .ok (.iconst 1, 1) := by decide +kernel
theorem dX11_undo_33 : decode cX11_undo 33 = .ok (.invokevirtual 163, 3) := by decide +kernel
theorem dX11_undo_36 : decode cX11_undo 36 = .ok (.istore_n 2, 1) := by decide +kernel
theorem dX11_undo_37 : decode cX11_undo 37 = .ok (.aload_n 0, 1) := by decide +kernel
theorem dX11_undo_38 : decode cX11_undo 38 = .ok (.getfield 10, 3) := by decide +kernel
theorem dX11_undo_41 : decode cX11_undo 41 = .ok (.getfield 184, 3) := by decide +kernel
theorem dX11_undo_44 : decode cX11_undo 44 = .ok (.iload_n 1, 1) := by decide +kernel
theorem dX11_undo_45 : decode cX11_undo 45 = .ok (.putfield 187, 3) := by decide +kernel
theorem dX11_undo_48 : decode cX11_undo 48 = .ok (.aload_n 0, 1) := by decide +kernel
theorem dX11_undo_49 : decode cX11_undo 49 = .ok (.iload_n 2, 1) := by decide +kernel
theorem dX11_undo_50 : decode cX11_undo 50 = .ok (.invokevirtual 153, 3) := by decide +kernel
theorem dX11_undo_53 : decode cX11_undo 53 = .ok (.ireturn, 1) := by decide +kernel
set_option maxRecDepth 20000 in
theorem T_X11_undo {Q : Option Value → ah_T → Prop} {h : ah_T} (hs : Sh h)  (ht : ((0 ≤ ((ah_i h 6 3) - 1) → (Mt mX7_get [.ref 6, .int ((ah_i h 6 3) - 1), .int 1] h (ab_qi fun v4 h2 => Sh h2 ∧ (∀ h5, h5 = ah_si h2 6 3 ((ah_i h 6 3) - 1) → (Mt mX11_change [.ref 0, .int v4] h5 (ab_qi fun v10 h8 => Sh h8 ∧ Q (some (.int v10)) h8)))))) ∧ (¬ 0 ≤ ((ah_i h 6 3) - 1) → (Mt mX11_refuse [.ref 0, .int (-3)] h (ab_qi fun v13 h11 => Sh h11 ∧ Q (some (.int v13)) h11))))) : Mt mX11_undo [.ref 0] h Q := by
  refine Mt.ofWp rfl (by exact (Nat.le_of_ble_eq_true rfl)) (Wp.fewer (L' := [some (.ref 0), none, none]) (show ab_leL _ _ from ⟨rfl, trivial⟩) ?_)
  refine ab_aload_n (i := 0) dX11_undo_0 rfl rfl ?_
  refine ab_getR (b := 1) f_X11_10 rfl (sh_k hs 0 11 (by decide) rfl) (sh_r hs 0 rfl) dX11_undo_1 ?_
  refine ab_getR (b := 6) f_X11_184 rfl (sh_k hs 1 10 (by decide) rfl) (sh_r hs 15 rfl) dX11_undo_4 ?_
  refine ab_getI f_X11_187 rfl (sh_k hs 6 7 (by decide) rfl) dX11_undo_7 ?_
  refine ab_iconst (v := 1) dX11_undo_10 (by decide) ?_
  refine ab_isub dX11_undo_11 ?_
  refine ab_istore_n (i := 1) (L' := [some (.ref 0), some (.int ((ah_i h 6 3) - 1)), none]) dX11_undo_12 rfl (by exact (Nat.le_of_ble_eq_true rfl)) rfl rfl ?_
  refine ab_iload_n (i := 1) dX11_undo_13 rfl rfl ?_
  refine ab_if_ge (tgt := 24) dX11_undo_14 (by decide) (fun c1 => ?_) (fun c1 => ?_)
  · have ht := ht.1 c1
    refine ab_aload_n (i := 0) dX11_undo_24 rfl rfl ?_
    refine ab_getR (b := 1) f_X11_10 rfl (sh_k hs 0 11 (by decide) rfl) (sh_r hs 0 rfl) dX11_undo_25 ?_
    refine ab_getR (b := 6) f_X11_184 rfl (sh_k hs 1 10 (by decide) rfl) (sh_r hs 15 rfl) dX11_undo_28 ?_
    refine ab_iload_n (i := 1) dX11_undo_31 rfl rfl ?_
    refine ab_iconst (v := 1) dX11_undo_32 (by decide) ?_
    refine ab_callV (b := 6) (As := [.int ((ah_i h 6 3) - 1), .int 1]) ht (Y_X7_get) l_X11_163 in_X7_get se_X7_get (sh_k hs 6 7 (by decide) rfl) (by decide) rfl rfl ⟨(Nat.le_of_ble_eq_true rfl), (Nat.le_of_ble_eq_true rfl), (Nat.le_of_ble_eq_true rfl), (Nat.le_of_ble_eq_true rfl)⟩ dX11_undo_33 ?_
    rintro _ h2 ⟨v4, rfl, hs3, ht⟩
    refine ab_istore_n (i := 2) (L' := [some (.ref 0), some (.int ((ah_i h 6 3) - 1)), some (.int v4)]) dX11_undo_36 rfl (by exact (Nat.le_of_ble_eq_true rfl)) rfl rfl ?_
    refine ab_aload_n (i := 0) dX11_undo_37 rfl rfl ?_
    refine ab_getR (b := 1) f_X11_10 rfl (sh_k hs3 0 11 (by decide) rfl) (sh_r hs3 0 rfl) dX11_undo_38 ?_
    refine ab_getR (b := 6) f_X11_184 rfl (sh_k hs3 1 10 (by decide) rfl) (sh_r hs3 15 rfl) dX11_undo_41 ?_
    refine ab_iload_n (i := 1) dX11_undo_44 rfl rfl ?_
    refine ab_putI f_X11_187 (Or.inl rfl) rfl (sh_k hs3 6 7 (by decide) rfl) rfl rfl dX11_undo_45 ?_
    refine Wp.nm fun h5 e6 => ?_
    have ht := ht h5 e6
    have hs7 : Sh h5 := by rw [e6]; exact sh_si hs3
    refine ab_aload_n (i := 0) dX11_undo_48 rfl rfl ?_
    refine ab_iload_n (i := 2) dX11_undo_49 rfl rfl ?_
    refine ab_callV (b := 0) (As := [.int v4]) ht (Y_X11_change) l_X11_153 in_X11_change se_X11_change (sh_k hs7 0 11 (by decide) rfl) (by decide) rfl rfl ⟨(Nat.le_of_ble_eq_true rfl), (Nat.le_of_ble_eq_true rfl), (Nat.le_of_ble_eq_true rfl), (Nat.le_of_ble_eq_true rfl)⟩ dX11_undo_50 ?_
    rintro _ h8 ⟨v10, rfl, hs9, ht⟩
    exact ab_iret rfl dX11_undo_53 (Nat.le_of_ble_eq_true rfl) (Nat.le_of_ble_eq_true rfl) ht
  · have ht := ht.2 c1
    refine ab_aload_n (i := 0) dX11_undo_17 rfl rfl ?_
    refine ab_bipush (v := (-3)) dX11_undo_18 (by decide) ?_
    refine ab_callV (b := 0) (As := [.int (-3)]) ht (Y_X11_refuse) l_X11_123 in_X11_refuse se_X11_refuse (sh_k hs 0 11 (by decide) rfl) (by decide) rfl rfl ⟨(Nat.le_of_ble_eq_true rfl), (Nat.le_of_ble_eq_true rfl), (Nat.le_of_ble_eq_true rfl), (Nat.le_of_ble_eq_true rfl)⟩ dX11_undo_20 ?_
    rintro _ h11 ⟨v13, rfl, hs12, ht⟩
    exact ab_iret rfl dX11_undo_23 (Nat.le_of_ble_eq_true rfl) (Nat.le_of_ble_eq_true rfl) ht
theorem dX11_lantern_0 : decode cX11_lantern 0 = .ok (.iload_n 1, 1) := by decide +kernel
theorem dX11_lantern_1 : decode cX11_lantern 1 = .ok (.bipush 6, 2) := by decide +kernel
theorem dX11_lantern_3 : decode cX11_lantern 3 = .ok (.invokestatic 119, 3) := by decide +kernel
theorem dX11_lantern_6 : decode cX11_lantern 6 = .ok (.ifCond .eq 21, 3) := by decide +kernel
theorem dX11_lantern_9 : decode cX11_lantern 9 = .ok (.iload_n 2, 1) := by decide +kernel
theorem dX11_lantern_10 : decode cX11_lantern 10 = .ok (.bipush 120, 2) := by decide +kernel
theorem dX11_lantern_12 : decode cX11_lantern 12 = .ok (.invokestatic 119, 3) := by decide +kernel
theorem dX11_lantern_15 : decode cX11_lantern 15 = .ok (.ifCond .eq 12, 3) := by decide +kernel
theorem dX11_lantern_18 : decode cX11_lantern 18 = .ok (.iload_n 3, 1) := by decide +kernel
theorem dX11_lantern_19 : decode cX11_lantern 19 = .ok (.bipush 12, 2) := by decide +kernel
theorem dX11_lantern_21 : decode cX11_lantern 21 = .ok (.invokestatic 119, 3) := by decide +kernel
theorem dX11_lantern_24 : decode cX11_lantern 24 = .ok (.ifCond .ne 9, 3) := by decide +kernel
theorem dX11_lantern_27 : decode cX11_lantern 27 = .ok (.aload_n 0, 1) := by decide +kernel
theorem dX11_lantern_28 : decode cX11_lantern 28 = .ok (.iconst (-1), 1) := by decide +kernel
theorem dX11_lantern_29 : decode cX11_lantern 29 = .ok (.invokevirtual 123, 3) := by decide +kernel
theorem dX11_lantern_32 : decode cX11_lantern 32 = .ok (.ireturn, 1) := by decide +kernel
theorem dX11_lantern_33 : decode cX11_lantern 33 = .ok (.aload_n 0, 1) := by decide +kernel
theorem dX11_lantern_34 : decode cX11_lantern 34 = .ok (.getfield 10, 3) := by decide +kernel
theorem dX11_lantern_37 : decode cX11_lantern 37 = .ok (.getfield 190, 3) := by decide +kernel
theorem dX11_lantern_40 : decode cX11_lantern 40 = .ok (.invokevirtual 134, 3) := by decide +kernel
theorem dX11_lantern_43 : decode cX11_lantern 43 = .ok (.ifCond .eq 10, 3) := by decide +kernel
theorem dX11_lantern_46 : decode cX11_lantern 46 = .ok (.aload_n 0, 1) := by decide +kernel
theorem dX11_lantern_47 : decode cX11_lantern 47 = .ok (.bipush (-5), 2) := by decide +kernel
theorem dX11_lantern_49 : decode cX11_lantern 49 = .ok (.invokevirtual 123, 3) := by decide +kernel
theorem dX11_lantern_52 : decode cX11_lantern 52 = .ok (.ireturn, 1) := by decide +kernel
theorem dX11_lantern_53 : decode cX11_lantern 53 = .ok (.aload_n 0, 1) := by decide +kernel
theorem dX11_lantern_54 : decode cX11_lantern 54 = .ok (.aload_n 0, 1) := by decide +kernel
theorem dX11_lantern_55 : decode cX11_lantern 55 = .ok (.getfield 10, 3) := by decide +kernel
theorem dX11_lantern_58 : decode cX11_lantern 58 = .ok (.getfield 190, 3) := by decide +kernel
theorem dX11_lantern_61 : decode cX11_lantern 61 = .ok (.iload_n 1, 1) := by decide +kernel
theorem dX11_lantern_62 : decode cX11_lantern 62 = .ok (.iload_n 2, 1) := by decide +kernel
theorem dX11_lantern_63 : decode cX11_lantern 63 = .ok (.iload_n 3, 1) := by decide +kernel
theorem dX11_lantern_64 : decode cX11_lantern 64 = .ok (.invokevirtual 149, 3) := by decide +kernel
theorem dX11_lantern_67 : decode cX11_lantern 67 = .ok (.invokevirtual 153, 3) := by decide +kernel
theorem dX11_lantern_70 : decode cX11_lantern 70 = .ok (.ireturn, 1) := by decide +kernel
set_option maxRecDepth 20000 in
theorem T_X11_lantern {Q : Option Value → ah_T → Prop} {h : ah_T} (hs : Sh h) (x1 : Int32) (x2 : Int32) (x3 : Int32) (ht : (((f_X11_isIn x1 6) = 0 → (Mt mX11_refuse [.ref 0, .int (-1)] h (ab_qi fun v4 h2 => Sh h2 ∧ Q (some (.int v4)) h2))) ∧ (¬ (f_X11_isIn x1 6) = 0 → (((f_X11_isIn x2 120) = 0 → (Mt mX11_refuse [.ref 0, .int (-1)] h (ab_qi fun v8 h6 => Sh h6 ∧ Q (some (.int v8)) h6))) ∧ (¬ (f_X11_isIn x2 120) = 0 → ((¬ (f_X11_isIn x3 12) = 0 → (Mt mX7_isFull [.ref 8] h (ab_qi fun v12 h10 => Sh h10 ∧ ((v12 = 0 → (Mt mX7_add [.ref 8, .int x1, .int x2, .int x3] h10 (ab_qi fun v16 h14 => Sh h14 ∧ (Mt mX11_change [.ref 0, .int v16] h14 (ab_qi fun v19 h17 => Sh h17 ∧ Q (some (.int v19)) h17))))) ∧ (¬ v12 = 0 → (Mt mX11_refuse [.ref 0, .int (-5)] h10 (ab_qi fun v22 h20 => Sh h20 ∧ Q (some (.int v22)) h20))))))) ∧ ((f_X11_isIn x3 12) = 0 → (Mt mX11_refuse [.ref 0, .int (-1)] h (ab_qi fun v25 h23 => Sh h23 ∧ Q (some (.int v25)) h23))))))))) : Mt mX11_lantern [.ref 0, .int x1, .int x2, .int x3] h Q := by
  refine Mt.ofWp rfl (by exact (Nat.le_of_ble_eq_true rfl)) (Wp.fewer (L' := [some (.ref 0), some (.int x1), some (.int x2), some (.int x3)]) (show ab_leL _ _ from ⟨rfl, ⟨rfl, ⟨rfl, ⟨rfl, trivial⟩⟩⟩⟩) ?_)
  refine ab_iload_n (i := 1) dX11_lantern_0 rfl rfl ?_
  refine ab_bipush (v := 6) dX11_lantern_1 (by decide) ?_
  refine ab_callS (Q' := fun r h' => r = some (.int (f_X11_isIn x1 6)) ∧ h = h') (As := [.int x1, .int 6]) (c_X11_isIn hs x1 6 ⟨rfl, rfl⟩) (Y_X11_isIn) l_X11_119 st_X11_isIn rfl ⟨(Nat.le_of_ble_eq_true rfl), (Nat.le_of_ble_eq_true rfl), (Nat.le_of_ble_eq_true rfl), (Nat.le_of_ble_eq_true rfl)⟩ dX11_lantern_3 ?_
  rintro _ _ ⟨rfl, rfl⟩
  refine ab_if_eq (tgt := 27) dX11_lantern_6 (by decide) (fun c1 => ?_) (fun c1 => ?_)
  · have ht := ht.1 c1
    refine ab_aload_n (i := 0) dX11_lantern_27 rfl rfl ?_
    refine ab_iconst (v := (-1)) dX11_lantern_28 (by decide) ?_
    refine ab_callV (b := 0) (As := [.int (-1)]) ht (Y_X11_refuse) l_X11_123 in_X11_refuse se_X11_refuse (sh_k hs 0 11 (by decide) rfl) (by decide) rfl rfl ⟨(Nat.le_of_ble_eq_true rfl), (Nat.le_of_ble_eq_true rfl), (Nat.le_of_ble_eq_true rfl), (Nat.le_of_ble_eq_true rfl)⟩ dX11_lantern_29 ?_
    rintro _ h2 ⟨v4, rfl, hs3, ht⟩
    exact ab_iret rfl dX11_lantern_32 (Nat.le_of_ble_eq_true rfl) (Nat.le_of_ble_eq_true rfl) ht
  · have ht := ht.2 c1
    refine ab_iload_n (i := 2) dX11_lantern_9 rfl rfl ?_
    refine ab_bipush (v := 120) dX11_lantern_10 (by decide) ?_
    refine ab_callS (Q' := fun r h' => r = some (.int (f_X11_isIn x2 120)) ∧ h = h') (As := [.int x2, .int 120]) (c_X11_isIn hs x2 120 ⟨rfl, rfl⟩) (Y_X11_isIn) l_X11_119 st_X11_isIn rfl ⟨(Nat.le_of_ble_eq_true rfl), (Nat.le_of_ble_eq_true rfl), (Nat.le_of_ble_eq_true rfl), (Nat.le_of_ble_eq_true rfl)⟩ dX11_lantern_12 ?_
    rintro _ _ ⟨rfl, rfl⟩
    refine ab_if_eq (tgt := 27) dX11_lantern_15 (by decide) (fun c5 => ?_) (fun c5 => ?_)
    · have ht := ht.1 c5
      refine ab_aload_n (i := 0) dX11_lantern_27 rfl rfl ?_
      refine ab_iconst (v := (-1)) dX11_lantern_28 (by decide) ?_
      refine ab_callV (b := 0) (As := [.int (-1)]) ht (Y_X11_refuse) l_X11_123 in_X11_refuse se_X11_refuse (sh_k hs 0 11 (by decide) rfl) (by decide) rfl rfl ⟨(Nat.le_of_ble_eq_true rfl), (Nat.le_of_ble_eq_true rfl), (Nat.le_of_ble_eq_true rfl), (Nat.le_of_ble_eq_true rfl)⟩ dX11_lantern_29 ?_
      rintro _ h6 ⟨v8, rfl, hs7, ht⟩
      exact ab_iret rfl dX11_lantern_32 (Nat.le_of_ble_eq_true rfl) (Nat.le_of_ble_eq_true rfl) ht
    · have ht := ht.2 c5
      refine ab_iload_n (i := 3) dX11_lantern_18 rfl rfl ?_
      refine ab_bipush (v := 12) dX11_lantern_19 (by decide) ?_
      refine ab_callS (Q' := fun r h' => r = some (.int (f_X11_isIn x3 12)) ∧ h = h') (As := [.int x3, .int 12]) (c_X11_isIn hs x3 12 ⟨rfl, rfl⟩) (Y_X11_isIn) l_X11_119 st_X11_isIn rfl ⟨(Nat.le_of_ble_eq_true rfl), (Nat.le_of_ble_eq_true rfl), (Nat.le_of_ble_eq_true rfl), (Nat.le_of_ble_eq_true rfl)⟩ dX11_lantern_21 ?_
      rintro _ _ ⟨rfl, rfl⟩
      refine ab_if_ne (tgt := 33) dX11_lantern_24 (by decide) (fun c9 => ?_) (fun c9 => ?_)
      · have ht := ht.1 c9
        refine ab_aload_n (i := 0) dX11_lantern_33 rfl rfl ?_
        refine ab_getR (b := 1) f_X11_10 rfl (sh_k hs 0 11 (by decide) rfl) (sh_r hs 0 rfl) dX11_lantern_34 ?_
        refine ab_getR (b := 8) f_X11_190 rfl (sh_k hs 1 10 (by decide) rfl) (sh_r hs 16 rfl) dX11_lantern_37 ?_
        refine ab_callV (b := 8) (As := []) ht (Y_X7_isFull) l_X11_134 in_X7_isFull se_X7_isFull (sh_k hs 8 7 (by decide) rfl) (by decide) rfl rfl ⟨(Nat.le_of_ble_eq_true rfl), (Nat.le_of_ble_eq_true rfl), (Nat.le_of_ble_eq_true rfl), (Nat.le_of_ble_eq_true rfl)⟩ dX11_lantern_40 ?_
        rintro _ h10 ⟨v12, rfl, hs11, ht⟩
        refine ab_if_eq (tgt := 53) dX11_lantern_43 (by decide) (fun c13 => ?_) (fun c13 => ?_)
        · have ht := ht.1 c13
          refine ab_aload_n (i := 0) dX11_lantern_53 rfl rfl ?_
          refine ab_aload_n (i := 0) dX11_lantern_54 rfl rfl ?_
          refine ab_getR (b := 1) f_X11_10 rfl (sh_k hs11 0 11 (by decide) rfl) (sh_r hs11 0 rfl) dX11_lantern_55 ?_
          refine ab_getR (b := 8) f_X11_190 rfl (sh_k hs11 1 10 (by decide) rfl) (sh_r hs11 16 rfl) dX11_lantern_58 ?_
          refine ab_iload_n (i := 1) dX11_lantern_61 rfl rfl ?_
          refine ab_iload_n (i := 2) dX11_lantern_62 rfl rfl ?_
          refine ab_iload_n (i := 3) dX11_lantern_63 rfl rfl ?_
          refine ab_callV (b := 8) (As := [.int x1, .int x2, .int x3]) ht (Y_X7_add) l_X11_149 in_X7_add se_X7_add (sh_k hs11 8 7 (by decide) rfl) (by decide) rfl rfl ⟨(Nat.le_of_ble_eq_true rfl), (Nat.le_of_ble_eq_true rfl), (Nat.le_of_ble_eq_true rfl), (Nat.le_of_ble_eq_true rfl)⟩ dX11_lantern_64 ?_
          rintro _ h14 ⟨v16, rfl, hs15, ht⟩
          refine ab_callV (b := 0) (As := [.int v16]) ht (Y_X11_change) l_X11_153 in_X11_change se_X11_change (sh_k hs15 0 11 (by decide) rfl) (by decide) rfl rfl ⟨(Nat.le_of_ble_eq_true rfl), (Nat.le_of_ble_eq_true rfl), (Nat.le_of_ble_eq_true rfl), (Nat.le_of_ble_eq_true rfl)⟩ dX11_lantern_67 ?_
          rintro _ h17 ⟨v19, rfl, hs18, ht⟩
          exact ab_iret rfl dX11_lantern_70 (Nat.le_of_ble_eq_true rfl) (Nat.le_of_ble_eq_true rfl) ht
        · have ht := ht.2 c13
          refine ab_aload_n (i := 0) dX11_lantern_46 rfl rfl ?_
          refine ab_bipush (v := (-5)) dX11_lantern_47 (by decide) ?_
          refine ab_callV (b := 0) (As := [.int (-5)]) ht (Y_X11_refuse) l_X11_123 in_X11_refuse se_X11_refuse (sh_k hs11 0 11 (by decide) rfl) (by decide) rfl rfl ⟨(Nat.le_of_ble_eq_true rfl), (Nat.le_of_ble_eq_true rfl), (Nat.le_of_ble_eq_true rfl), (Nat.le_of_ble_eq_true rfl)⟩ dX11_lantern_49 ?_
          rintro _ h20 ⟨v22, rfl, hs21, ht⟩
          exact ab_iret rfl dX11_lantern_52 (Nat.le_of_ble_eq_true rfl) (Nat.le_of_ble_eq_true rfl) ht
      · have ht := ht.2 c9
        refine ab_aload_n (i := 0) dX11_lantern_27 rfl rfl ?_
        refine ab_iconst (v := (-1)) dX11_lantern_28 (by decide) ?_
        refine ab_callV (b := 0) (As := [.int (-1)]) ht (Y_X11_refuse) l_X11_123 in_X11_refuse se_X11_refuse (sh_k hs 0 11 (by decide) rfl) (by decide) rfl rfl ⟨(Nat.le_of_ble_eq_true rfl), (Nat.le_of_ble_eq_true rfl), (Nat.le_of_ble_eq_true rfl), (Nat.le_of_ble_eq_true rfl)⟩ dX11_lantern_29 ?_
        rintro _ h23 ⟨v25, rfl, hs24, ht⟩
        exact ab_iret rfl dX11_lantern_32 (Nat.le_of_ble_eq_true rfl) (Nat.le_of_ble_eq_true rfl) ht
theorem dX11_go_0 : decode cX11_go 0 = .ok (.iload_n 2, 1) := by decide +kernel
theorem dX11_go_1 : decode cX11_go 1 = .ok (.bipush 12, 2) := by decide +kernel
theorem dX11_go_3 : decode cX11_go 3 = .ok (.invokestatic 119, 3) := by decide +kernel
theorem dX11_go_6 : decode cX11_go 6 = .ok (.ifCond .ne 9, 3) := by decide +kernel
theorem dX11_go_9 : decode cX11_go 9 = .ok (.aload_n 0, 1) := by decide +kernel
theorem dX11_go_10 : decode cX11_go 10 = .ok (.iconst (-1), 1) := by decide +kernel
theorem dX11_go_11 : decode cX11_go 11 = .ok (.invokevirtual 123, 3) := by decide +kernel
theorem dX11_go_14 : decode cX11_go 14 = .ok (.ireturn, 1) := by decide +kernel
theorem dX11_go_15 : decode cX11_go 15 = .ok (.aload_n 0, 1) := by decide +kernel
theorem dX11_go_16 : decode cX11_go 16 = .ok (.getfield 10, 3) := by decide +kernel
theorem dX11_go_19 : decode cX11_go 19 = .ok (.getfield 190, 3) := by decide +kernel
theorem dX11_go_22 : decode cX11_go 22 = .ok (.iload_n 1, 1) := by decide +kernel
theorem dX11_go_23 : decode cX11_go 23 = .ok (.invokevirtual 156, 3) := by decide +kernel
theorem dX11_go_26 : decode cX11_go 26 = .ok (.ifCond .ne 10, 3) := by decide +kernel
theorem dX11_go_29 : decode cX11_go 29 = .ok (.aload_n 0, 1) := by decide +kernel
theorem dX11_go_30 : decode cX11_go 30 = .ok (.bipush (-2), 2) := by decide +kernel
theorem dX11_go_32 : decode cX11_go 32 = .ok (.invokevirtual 123, 3) := by decide +kernel
theorem dX11_go_35 : decode cX11_go 35 = .ok (.ireturn, 1) := by decide +kernel
theorem dX11_go_36 : decode cX11_go 36 = .ok (.aload_n 0, 1) := by decide +kernel
theorem dX11_go_37 : decode cX11_go 37 = .ok (.getfield 10, 3) := by decide +kernel
theorem dX11_go_40 : decode cX11_go 40 = .ok (.getfield 190, 3) := by decide +kernel
theorem dX11_go_43 : decode cX11_go 43 = .ok (.iload_n 1, 1) := by decide +kernel
theorem dX11_go_44 : decode cX11_go 44 = .ok (.iconst 3, 1) := by decide +kernel
theorem dX11_go_45 : decode cX11_go 45 = .ok (.invokevirtual 163, 3) := by decide +kernel
theorem dX11_go_48 : decode cX11_go 48 = .ok (.istore_n 3, 1) := by decide +kernel
theorem dX11_go_49 : decode cX11_go 49 = .ok (.aload_n 0, 1) := by decide +kernel
theorem dX11_go_50 : decode cX11_go 50 = .ok (.getfield 10, 3) := by decide +kernel
theorem dX11_go_53 : decode cX11_go 53 = .ok (.getfield 190, 3) := by decide +kernel
theorem dX11_go_56 : decode cX11_go 56 = .ok (.iload_n 1, 1) := by decide +kernel
theorem dX11_go_57 : decode cX11_go 57 = .ok (.iload_n 3, 1) := by decide +kernel
theorem dX11_go_58 : decode cX11_go 58 = .ok (.ifCond .ne 7, 3) := by decide +kernel
theorem dX11_go_61 : decode cX11_go 61 = .ok (.iconst 2, 1) := by decide +kernel
theorem dX11_go_62 : decode cX11_go 62 = .ok (.goto 8, 3) := by decide +kernel
theorem dX11_go_65 : decode cX11_go 65 = .ok (.iconst 4, 1) := by decide +kernel
theorem dX11_go_66 : decode cX11_go 66 = .ok (.iload_n 3, 1) := by decide +kernel
theorem dX11_go_67 : decode cX11_go 67 = .ok (.iadd, 1) := by decide +kernel
theorem dX11_go_68 : decode cX11_go 68 = .ok (.iconst 1, 1) := by decide +kernel
theorem dX11_go_69 : decode cX11_go 69 = .ok (.isub, 1) := by decide +kernel
theorem dX11_go_70 : decode cX11_go 70 = .ok (.invokevirtual 163, 3) := by decide +kernel
theorem dX11_go_73 : decode cX11_go 73 = .ok (.istore 4, 2) := by decide +kernel
theorem dX11_go_75 : decode cX11_go 75 = .ok (.iload 4, 2) := by decide +kernel
theorem dX11_go_77 : decode cX11_go 77 = .ok (.iload_n 2, 1) := by decide +kernel
theorem dX11_go_78 : decode cX11_go 78 = .ok (.if_icmp .eq 23, 3) := by decide +kernel
theorem dX11_go_81 : decode cX11_go 81 = .ok (.aload_n 0, 1) := by decide +kernel
theorem dX11_go_82 : decode cX11_go 82 = .ok (.getfield 10, 3) := by decide +kernel
theorem dX11_go_85 : decode cX11_go 85 = .ok (.iload 4, 2) := by decide +kernel
theorem dX11_go_87 : decode cX11_go 87 = .ok (.iload_n 2, 1) := by decide +kernel
theorem dX11_go_88 : decode cX11_go 88 = .ok (.invokevirtual 127, 3) := by decide +kernel
theorem dX11_go_91 : decode cX11_go 91 = .ok (.ifCond .ne 10, 3) := by decide +kernel
theorem dX11_go_94 : decode cX11_go 94 = .ok (.aload_n 0, 1) := by decide +kernel
theorem dX11_go_95 : decode cX11_go 95 = .ok (.bipush (-3), 2) := by decide +kernel
theorem dX11_go_97 : decode cX11_go 97 = .ok (.invokevirtual 123, 3) := by decide +kernel
theorem dX11_go_100 : decode cX11_go 100 = .ok (.ireturn, 1) := by decide +kernel
theorem dX11_go_101 : decode cX11_go 101 = .ok (.iload_n 3, 1) := by decide +kernel
theorem dX11_go_102 : decode cX11_go 102 = .ok (.bipush 15, 2) := by decide +kernel
theorem dX11_go_104 : decode cX11_go 104 = .ok (.if_icmp .ne 10, 3) := by decide +kernel
theorem dX11_go_107 : decode cX11_go 107 = .ok (.aload_n 0, 1) := by decide +kernel
theorem dX11_go_108 : decode cX11_go 108 = .ok (.bipush (-5), 2) := by decide +kernel
theorem dX11_go_110 : decode cX11_go 110 = .ok (.invokevirtual 123, 3) := by decide +kernel
theorem dX11_go_113 : decode cX11_go 113 = .ok (.ireturn, 1) := by decide +kernel
theorem dX11_go_114 : decode cX11_go 114 = .ok (.aload_n 0, 1) := by decide +kernel
theorem dX11_go_115 : decode cX11_go 115 = .ok (.getfield 10, 3) := by decide +kernel
theorem dX11_go_118 : decode cX11_go 118 = .ok (.getfield 190, 3) := by decide +kernel
theorem dX11_go_121 : decode cX11_go 121 = .ok (.iload_n 1, 1) := by decide +kernel
theorem dX11_go_122 : decode cX11_go 122 = .ok (.iconst 4, 1) := by decide +kernel
theorem dX11_go_123 : decode cX11_go 123 = .ok (.iload_n 3, 1) := by decide +kernel
theorem dX11_go_124 : decode cX11_go 124 = .ok (.iadd, 1) := by decide +kernel
theorem dX11_go_125 : decode cX11_go 125 = .ok (.iload_n 2, 1) := by decide +kernel
theorem dX11_go_126 : decode cX11_go 126 = .ok (.invokevirtual 160, 3) := by decide +kernel
theorem dX11_go_129 : decode cX11_go 129 = .ok (.pop, 1) := by decide +kernel
theorem dX11_go_130 : decode cX11_go 130 = .ok (.aload_n 0, 1) := by decide +kernel
theorem dX11_go_131 : decode cX11_go 131 = .ok (.getfield 10, 3) := by decide +kernel
theorem dX11_go_134 : decode cX11_go 134 = .ok (.getfield 190, 3) := by decide +kernel
theorem dX11_go_137 : decode cX11_go 137 = .ok (.iload_n 1, 1) := by decide +kernel
theorem dX11_go_138 : decode cX11_go 138 = .ok (.iconst 3, 1) := by decide +kernel
theorem dX11_go_139 : decode cX11_go 139 = .ok (.iload_n 3, 1) := by decide +kernel
theorem dX11_go_140 : decode cX11_go 140 = .ok (.iconst 1, 1) := by decide +kernel
theorem dX11_go_141 : decode cX11_go 141 = .ok (.iadd, 1) := by decide +kernel
theorem dX11_go_142 : decode cX11_go 142 = .ok (.invokevirtual 160, 3) := by decide +kernel
theorem dX11_go_145 : decode cX11_go 145 = .ok (.pop, 1) := by decide +kernel
theorem dX11_go_146 : decode cX11_go 146 = .ok (.aload_n 0, 1) := by decide +kernel
theorem dX11_go_147 : decode cX11_go 147 = .ok (.iload_n 3, 1) := by decide +kernel
theorem dX11_go_148 : decode cX11_go 148 = .ok (.iconst 1, 1) := by decide +kernel
theorem dX11_go_149 : decode cX11_go 149 = .ok (.iadd, 1) := by decide +kernel
theorem dX11_go_150 : decode cX11_go 150 = .ok (.invokevirtual 153, 3) := by decide +kernel
theorem dX11_go_153 : decode cX11_go 153 = .ok (.ireturn, 1) := by decide +kernel
set_option maxRecDepth 20000 in
theorem T_X11_go {Q : Option Value → ah_T → Prop} {h : ah_T} (hs : Sh h) (x1 : Int32) (x2 : Int32) (ht : ((¬ (f_X11_isIn x2 12) = 0 → (Mt mX7_has [.ref 8, .int x1] h (ab_qi fun v4 h2 => Sh h2 ∧ ((¬ v4 = 0 → (Mt mX7_get [.ref 8, .int x1, .int 3] h2 (ab_qi fun v8 h6 => Sh h6 ∧ ((¬ v8 = 0 → (Mt mX7_get [.ref 8, .int x1, .int ((4 + v8) - 1)] h6 (ab_qi fun v12 h10 => Sh h10 ∧ ((v12 = x2 → ((¬ v8 = 15 → (Mt mX7_swap [.ref 8, .int x1, .int (4 + v8), .int x2] h10 (ab_qi fun v17 h15 => Sh h15 ∧ (Mt mX7_swap [.ref 8, .int x1, .int 3, .int (v8 + 1)] h15 (ab_qi fun v20 h18 => Sh h18 ∧ (Mt mX11_change [.ref 0, .int (v8 + 1)] h18 (ab_qi fun v23 h21 => Sh h21 ∧ Q (some (.int v23)) h21))))))) ∧ (v8 = 15 → (Mt mX11_refuse [.ref 0, .int (-5)] h10 (ab_qi fun v26 h24 => Sh h24 ∧ Q (some (.int v26)) h24))))) ∧ (¬ v12 = x2 → (Mt mX10_isWay [.ref 1, .int v12, .int x2] h10 (ab_qi fun v29 h27 => Sh h27 ∧ ((¬ v29 = 0 → ((¬ v8 = 15 → (Mt mX7_swap [.ref 8, .int x1, .int (4 + v8), .int x2] h27 (ab_qi fun v34 h32 => Sh h32 ∧ (Mt mX7_swap [.ref 8, .int x1, .int 3, .int (v8 + 1)] h32 (ab_qi fun v37 h35 => Sh h35 ∧ (Mt mX11_change [.ref 0, .int (v8 + 1)] h35 (ab_qi fun v40 h38 => Sh h38 ∧ Q (some (.int v40)) h38))))))) ∧ (v8 = 15 → (Mt mX11_refuse [.ref 0, .int (-5)] h27 (ab_qi fun v43 h41 => Sh h41 ∧ Q (some (.int v43)) h41))))) ∧ (v29 = 0 → (Mt mX11_refuse [.ref 0, .int (-3)] h27 (ab_qi fun v46 h44 => Sh h44 ∧ Q (some (.int v46)) h44))))))))))) ∧ (v8 = 0 → (Mt mX7_get [.ref 8, .int x1, .int 2] h6 (ab_qi fun v49 h47 => Sh h47 ∧ ((v49 = x2 → ((¬ v8 = 15 → (Mt mX7_swap [.ref 8, .int x1, .int (4 + v8), .int x2] h47 (ab_qi fun v54 h52 => Sh h52 ∧ (Mt mX7_swap [.ref 8, .int x1, .int 3, .int (v8 + 1)] h52 (ab_qi fun v57 h55 => Sh h55 ∧ (Mt mX11_change [.ref 0, .int (v8 + 1)] h55 (ab_qi fun v60 h58 => Sh h58 ∧ Q (some (.int v60)) h58))))))) ∧ (v8 = 15 → (Mt mX11_refuse [.ref 0, .int (-5)] h47 (ab_qi fun v63 h61 => Sh h61 ∧ Q (some (.int v63)) h61))))) ∧ (¬ v49 = x2 → (Mt mX10_isWay [.ref 1, .int v49, .int x2] h47 (ab_qi fun v66 h64 => Sh h64 ∧ ((¬ v66 = 0 → ((¬ v8 = 15 → (Mt mX7_swap [.ref 8, .int x1, .int (4 + v8), .int x2] h64 (ab_qi fun v71 h69 => Sh h69 ∧ (Mt mX7_swap [.ref 8, .int x1, .int 3, .int (v8 + 1)] h69 (ab_qi fun v74 h72 => Sh h72 ∧ (Mt mX11_change [.ref 0, .int (v8 + 1)] h72 (ab_qi fun v77 h75 => Sh h75 ∧ Q (some (.int v77)) h75))))))) ∧ (v8 = 15 → (Mt mX11_refuse [.ref 0, .int (-5)] h64 (ab_qi fun v80 h78 => Sh h78 ∧ Q (some (.int v80)) h78))))) ∧ (v66 = 0 → (Mt mX11_refuse [.ref 0, .int (-3)] h64 (ab_qi fun v83 h81 => Sh h81 ∧ Q (some (.int v83)) h81))))))))))))))) ∧ (v4 = 0 → (Mt mX11_refuse [.ref 0, .int (-2)] h2 (ab_qi fun v86 h84 => Sh h84 ∧ Q (some (.int v86)) h84))))))) ∧ ((f_X11_isIn x2 12) = 0 → (Mt mX11_refuse [.ref 0, .int (-1)] h (ab_qi fun v89 h87 => Sh h87 ∧ Q (some (.int v89)) h87))))) : Mt mX11_go [.ref 0, .int x1, .int x2] h Q := by
  refine Mt.ofWp rfl (by exact (Nat.le_of_ble_eq_true rfl)) (Wp.fewer (L' := [some (.ref 0), some (.int x1), some (.int x2), none, none]) (show ab_leL _ _ from ⟨rfl, ⟨rfl, ⟨rfl, trivial⟩⟩⟩) ?_)
  refine ab_iload_n (i := 2) dX11_go_0 rfl rfl ?_
  refine ab_bipush (v := 12) dX11_go_1 (by decide) ?_
  refine ab_callS (Q' := fun r h' => r = some (.int (f_X11_isIn x2 12)) ∧ h = h') (As := [.int x2, .int 12]) (c_X11_isIn hs x2 12 ⟨rfl, rfl⟩) (Y_X11_isIn) l_X11_119 st_X11_isIn rfl ⟨(Nat.le_of_ble_eq_true rfl), (Nat.le_of_ble_eq_true rfl), (Nat.le_of_ble_eq_true rfl), (Nat.le_of_ble_eq_true rfl)⟩ dX11_go_3 ?_
  rintro _ _ ⟨rfl, rfl⟩
  refine ab_if_ne (tgt := 15) dX11_go_6 (by decide) (fun c1 => ?_) (fun c1 => ?_)
  · have ht := ht.1 c1
    refine ab_aload_n (i := 0) dX11_go_15 rfl rfl ?_
    refine ab_getR (b := 1) f_X11_10 rfl (sh_k hs 0 11 (by decide) rfl) (sh_r hs 0 rfl) dX11_go_16 ?_
    refine ab_getR (b := 8) f_X11_190 rfl (sh_k hs 1 10 (by decide) rfl) (sh_r hs 16 rfl) dX11_go_19 ?_
    refine ab_iload_n (i := 1) dX11_go_22 rfl rfl ?_
    refine ab_callV (b := 8) (As := [.int x1]) ht (Y_X7_has) l_X11_156 in_X7_has se_X7_has (sh_k hs 8 7 (by decide) rfl) (by decide) rfl rfl ⟨(Nat.le_of_ble_eq_true rfl), (Nat.le_of_ble_eq_true rfl), (Nat.le_of_ble_eq_true rfl), (Nat.le_of_ble_eq_true rfl)⟩ dX11_go_23 ?_
    rintro _ h2 ⟨v4, rfl, hs3, ht⟩
    refine ab_if_ne (tgt := 36) dX11_go_26 (by decide) (fun c5 => ?_) (fun c5 => ?_)
    · have ht := ht.1 c5
      refine ab_aload_n (i := 0) dX11_go_36 rfl rfl ?_
      refine ab_getR (b := 1) f_X11_10 rfl (sh_k hs3 0 11 (by decide) rfl) (sh_r hs3 0 rfl) dX11_go_37 ?_
      refine ab_getR (b := 8) f_X11_190 rfl (sh_k hs3 1 10 (by decide) rfl) (sh_r hs3 16 rfl) dX11_go_40 ?_
      refine ab_iload_n (i := 1) dX11_go_43 rfl rfl ?_
      refine ab_iconst (v := 3) dX11_go_44 (by decide) ?_
      refine ab_callV (b := 8) (As := [.int x1, .int 3]) ht (Y_X7_get) l_X11_163 in_X7_get se_X7_get (sh_k hs3 8 7 (by decide) rfl) (by decide) rfl rfl ⟨(Nat.le_of_ble_eq_true rfl), (Nat.le_of_ble_eq_true rfl), (Nat.le_of_ble_eq_true rfl), (Nat.le_of_ble_eq_true rfl)⟩ dX11_go_45 ?_
      rintro _ h6 ⟨v8, rfl, hs7, ht⟩
      refine ab_istore_n (i := 3) (L' := [some (.ref 0), some (.int x1), some (.int x2), some (.int v8), none]) dX11_go_48 rfl (by exact (Nat.le_of_ble_eq_true rfl)) rfl rfl ?_
      refine ab_aload_n (i := 0) dX11_go_49 rfl rfl ?_
      refine ab_getR (b := 1) f_X11_10 rfl (sh_k hs7 0 11 (by decide) rfl) (sh_r hs7 0 rfl) dX11_go_50 ?_
      refine ab_getR (b := 8) f_X11_190 rfl (sh_k hs7 1 10 (by decide) rfl) (sh_r hs7 16 rfl) dX11_go_53 ?_
      refine ab_iload_n (i := 1) dX11_go_56 rfl rfl ?_
      refine ab_iload_n (i := 3) dX11_go_57 rfl rfl ?_
      refine ab_if_ne (tgt := 65) dX11_go_58 (by decide) (fun c9 => ?_) (fun c9 => ?_)
      · have ht := ht.1 c9
        refine ab_iconst (v := 4) dX11_go_65 (by decide) ?_
        refine ab_iload_n (i := 3) dX11_go_66 rfl rfl ?_
        refine ab_iadd dX11_go_67 ?_
        refine ab_iconst (v := 1) dX11_go_68 (by decide) ?_
        refine ab_isub dX11_go_69 ?_
        refine ab_callV (b := 8) (As := [.int x1, .int ((4 + v8) - 1)]) ht (Y_X7_get) l_X11_163 in_X7_get se_X7_get (sh_k hs7 8 7 (by decide) rfl) (by decide) rfl rfl ⟨(Nat.le_of_ble_eq_true rfl), (Nat.le_of_ble_eq_true rfl), (Nat.le_of_ble_eq_true rfl), (Nat.le_of_ble_eq_true rfl)⟩ dX11_go_70 ?_
        rintro _ h10 ⟨v12, rfl, hs11, ht⟩
        refine ab_istore (i := 4) (L' := [some (.ref 0), some (.int x1), some (.int x2), some (.int v8), some (.int v12)]) dX11_go_73 (by exact (Nat.le_of_ble_eq_true rfl)) rfl rfl ?_
        refine ab_iload (i := 4) dX11_go_75 rfl ?_
        refine ab_iload_n (i := 2) dX11_go_77 rfl rfl ?_
        refine ab_icmp_eq (tgt := 101) dX11_go_78 (by decide) (fun c13 => ?_) (fun c13 => ?_)
        · have ht := ht.1 c13
          refine ab_iload_n (i := 3) dX11_go_101 rfl rfl ?_
          refine ab_bipush (v := 15) dX11_go_102 (by decide) ?_
          refine ab_icmp_ne (tgt := 114) dX11_go_104 (by decide) (fun c14 => ?_) (fun c14 => ?_)
          · have ht := ht.1 c14
            refine ab_aload_n (i := 0) dX11_go_114 rfl rfl ?_
            refine ab_getR (b := 1) f_X11_10 rfl (sh_k hs11 0 11 (by decide) rfl) (sh_r hs11 0 rfl) dX11_go_115 ?_
            refine ab_getR (b := 8) f_X11_190 rfl (sh_k hs11 1 10 (by decide) rfl) (sh_r hs11 16 rfl) dX11_go_118 ?_
            refine ab_iload_n (i := 1) dX11_go_121 rfl rfl ?_
            refine ab_iconst (v := 4) dX11_go_122 (by decide) ?_
            refine ab_iload_n (i := 3) dX11_go_123 rfl rfl ?_
            refine ab_iadd dX11_go_124 ?_
            refine ab_iload_n (i := 2) dX11_go_125 rfl rfl ?_
            refine ab_callV (b := 8) (As := [.int x1, .int (4 + v8), .int x2]) ht (Y_X7_swap) l_X11_160 in_X7_swap se_X7_swap (sh_k hs11 8 7 (by decide) rfl) (by decide) rfl rfl ⟨(Nat.le_of_ble_eq_true rfl), (Nat.le_of_ble_eq_true rfl), (Nat.le_of_ble_eq_true rfl), (Nat.le_of_ble_eq_true rfl)⟩ dX11_go_126 ?_
            rintro _ h15 ⟨v17, rfl, hs16, ht⟩
            refine ab_pop dX11_go_129 rfl ?_
            refine ab_aload_n (i := 0) dX11_go_130 rfl rfl ?_
            refine ab_getR (b := 1) f_X11_10 rfl (sh_k hs16 0 11 (by decide) rfl) (sh_r hs16 0 rfl) dX11_go_131 ?_
            refine ab_getR (b := 8) f_X11_190 rfl (sh_k hs16 1 10 (by decide) rfl) (sh_r hs16 16 rfl) dX11_go_134 ?_
            refine ab_iload_n (i := 1) dX11_go_137 rfl rfl ?_
            refine ab_iconst (v := 3) dX11_go_138 (by decide) ?_
            refine ab_iload_n (i := 3) dX11_go_139 rfl rfl ?_
            refine ab_iconst (v := 1) dX11_go_140 (by decide) ?_
            refine ab_iadd dX11_go_141 ?_
            refine ab_callV (b := 8) (As := [.int x1, .int 3, .int (v8 + 1)]) ht (Y_X7_swap) l_X11_160 in_X7_swap se_X7_swap (sh_k hs16 8 7 (by decide) rfl) (by decide) rfl rfl ⟨(Nat.le_of_ble_eq_true rfl), (Nat.le_of_ble_eq_true rfl), (Nat.le_of_ble_eq_true rfl), (Nat.le_of_ble_eq_true rfl)⟩ dX11_go_142 ?_
            rintro _ h18 ⟨v20, rfl, hs19, ht⟩
            refine ab_pop dX11_go_145 rfl ?_
            refine ab_aload_n (i := 0) dX11_go_146 rfl rfl ?_
            refine ab_iload_n (i := 3) dX11_go_147 rfl rfl ?_
            refine ab_iconst (v := 1) dX11_go_148 (by decide) ?_
            refine ab_iadd dX11_go_149 ?_
            refine ab_callV (b := 0) (As := [.int (v8 + 1)]) ht (Y_X11_change) l_X11_153 in_X11_change se_X11_change (sh_k hs19 0 11 (by decide) rfl) (by decide) rfl rfl ⟨(Nat.le_of_ble_eq_true rfl), (Nat.le_of_ble_eq_true rfl), (Nat.le_of_ble_eq_true rfl), (Nat.le_of_ble_eq_true rfl)⟩ dX11_go_150 ?_
            rintro _ h21 ⟨v23, rfl, hs22, ht⟩
            exact ab_iret rfl dX11_go_153 (Nat.le_of_ble_eq_true rfl) (Nat.le_of_ble_eq_true rfl) ht
          · have ht := ht.2 c14
            refine ab_aload_n (i := 0) dX11_go_107 rfl rfl ?_
            refine ab_bipush (v := (-5)) dX11_go_108 (by decide) ?_
            refine ab_callV (b := 0) (As := [.int (-5)]) ht (Y_X11_refuse) l_X11_123 in_X11_refuse se_X11_refuse (sh_k hs11 0 11 (by decide) rfl) (by decide) rfl rfl ⟨(Nat.le_of_ble_eq_true rfl), (Nat.le_of_ble_eq_true rfl), (Nat.le_of_ble_eq_true rfl), (Nat.le_of_ble_eq_true rfl)⟩ dX11_go_110 ?_
            rintro _ h24 ⟨v26, rfl, hs25, ht⟩
            exact ab_iret rfl dX11_go_113 (Nat.le_of_ble_eq_true rfl) (Nat.le_of_ble_eq_true rfl) ht
        · have ht := ht.2 c13
          refine ab_aload_n (i := 0) dX11_go_81 rfl rfl ?_
          refine ab_getR (b := 1) f_X11_10 rfl (sh_k hs11 0 11 (by decide) rfl) (sh_r hs11 0 rfl) dX11_go_82 ?_
          refine ab_iload (i := 4) dX11_go_85 rfl ?_
          refine ab_iload_n (i := 2) dX11_go_87 rfl rfl ?_
          refine ab_callV (b := 1) (As := [.int v12, .int x2]) ht (Y_X10_isWay) l_X11_127 in_X10_isWay se_X10_isWay (sh_k hs11 1 10 (by decide) rfl) (by decide) rfl rfl ⟨(Nat.le_of_ble_eq_true rfl), (Nat.le_of_ble_eq_true rfl), (Nat.le_of_ble_eq_true rfl), (Nat.le_of_ble_eq_true rfl)⟩ dX11_go_88 ?_
          rintro _ h27 ⟨v29, rfl, hs28, ht⟩
          refine ab_if_ne (tgt := 101) dX11_go_91 (by decide) (fun c30 => ?_) (fun c30 => ?_)
          · have ht := ht.1 c30
            refine ab_iload_n (i := 3) dX11_go_101 rfl rfl ?_
            refine ab_bipush (v := 15) dX11_go_102 (by decide) ?_
            refine ab_icmp_ne (tgt := 114) dX11_go_104 (by decide) (fun c31 => ?_) (fun c31 => ?_)
            · have ht := ht.1 c31
              refine ab_aload_n (i := 0) dX11_go_114 rfl rfl ?_
              refine ab_getR (b := 1) f_X11_10 rfl (sh_k hs28 0 11 (by decide) rfl) (sh_r hs28 0 rfl) dX11_go_115 ?_
              refine ab_getR (b := 8) f_X11_190 rfl (sh_k hs28 1 10 (by decide) rfl) (sh_r hs28 16 rfl) dX11_go_118 ?_
              refine ab_iload_n (i := 1) dX11_go_121 rfl rfl ?_
              refine ab_iconst (v := 4) dX11_go_122 (by decide) ?_
              refine ab_iload_n (i := 3) dX11_go_123 rfl rfl ?_
              refine ab_iadd dX11_go_124 ?_
              refine ab_iload_n (i := 2) dX11_go_125 rfl rfl ?_
              refine ab_callV (b := 8) (As := [.int x1, .int (4 + v8), .int x2]) ht (Y_X7_swap) l_X11_160 in_X7_swap se_X7_swap (sh_k hs28 8 7 (by decide) rfl) (by decide) rfl rfl ⟨(Nat.le_of_ble_eq_true rfl), (Nat.le_of_ble_eq_true rfl), (Nat.le_of_ble_eq_true rfl), (Nat.le_of_ble_eq_true rfl)⟩ dX11_go_126 ?_
              rintro _ h32 ⟨v34, rfl, hs33, ht⟩
              refine ab_pop dX11_go_129 rfl ?_
              refine ab_aload_n (i := 0) dX11_go_130 rfl rfl ?_
              refine ab_getR (b := 1) f_X11_10 rfl (sh_k hs33 0 11 (by decide) rfl) (sh_r hs33 0 rfl) dX11_go_131 ?_
              refine ab_getR (b := 8) f_X11_190 rfl (sh_k hs33 1 10 (by decide) rfl) (sh_r hs33 16 rfl) dX11_go_134 ?_
              refine ab_iload_n (i := 1) dX11_go_137 rfl rfl ?_
              refine ab_iconst (v := 3) dX11_go_138 (by decide) ?_
              refine ab_iload_n (i := 3) dX11_go_139 rfl rfl ?_
              refine ab_iconst (v := 1) dX11_go_140 (by decide) ?_
              refine ab_iadd dX11_go_141 ?_
              refine ab_callV (b := 8) (As := [.int x1, .int 3, .int (v8 + 1)]) ht (Y_X7_swap) l_X11_160 in_X7_swap se_X7_swap (sh_k hs33 8 7 (by decide) rfl) (by decide) rfl rfl ⟨(Nat.le_of_ble_eq_true rfl), (Nat.le_of_ble_eq_true rfl), (Nat.le_of_ble_eq_true rfl), (Nat.le_of_ble_eq_true rfl)⟩ dX11_go_142 ?_
              rintro _ h35 ⟨v37, rfl, hs36, ht⟩
              refine ab_pop dX11_go_145 rfl ?_
              refine ab_aload_n (i := 0) dX11_go_146 rfl rfl ?_
              refine ab_iload_n (i := 3) dX11_go_147 rfl rfl ?_
              refine ab_iconst (v := 1) dX11_go_148 (by decide) ?_
              refine ab_iadd dX11_go_149 ?_
              refine ab_callV (b := 0) (As := [.int (v8 + 1)]) ht (Y_X11_change) l_X11_153 in_X11_change se_X11_change (sh_k hs36 0 11 (by decide) rfl) (by decide) rfl rfl ⟨(Nat.le_of_ble_eq_true rfl), (Nat.le_of_ble_eq_true rfl), (Nat.le_of_ble_eq_true rfl), (Nat.le_of_ble_eq_true rfl)⟩ dX11_go_150 ?_
              rintro _ h38 ⟨v40, rfl, hs39, ht⟩
              exact ab_iret rfl dX11_go_153 (Nat.le_of_ble_eq_true rfl) (Nat.le_of_ble_eq_true rfl) ht
            · have ht := ht.2 c31
              refine ab_aload_n (i := 0) dX11_go_107 rfl rfl ?_
              refine ab_bipush (v := (-5)) dX11_go_108 (by decide) ?_
              refine ab_callV (b := 0) (As := [.int (-5)]) ht (Y_X11_refuse) l_X11_123 in_X11_refuse se_X11_refuse (sh_k hs28 0 11 (by decide) rfl) (by decide) rfl rfl ⟨(Nat.le_of_ble_eq_true rfl), (Nat.le_of_ble_eq_true rfl), (Nat.le_of_ble_eq_true rfl), (Nat.le_of_ble_eq_true rfl)⟩ dX11_go_110 ?_
              rintro _ h41 ⟨v43, rfl, hs42, ht⟩
              exact ab_iret rfl dX11_go_113 (Nat.le_of_ble_eq_true rfl) (Nat.le_of_ble_eq_true rfl) ht
          · have ht := ht.2 c30
            refine ab_aload_n (i := 0) dX11_go_94 rfl rfl ?_
            refine ab_bipush (v := (-3)) dX11_go_95 (by decide) ?_
            refine ab_callV (b := 0) (As := [.int (-3)]) ht (Y_X11_refuse) l_X11_123 in_X11_refuse se_X11_refuse (sh_k hs28 0 11 (by decide) rfl) (by decide) rfl rfl ⟨(Nat.le_of_ble_eq_true rfl), (Nat.le_of_ble_eq_true rfl), (Nat.le_of_ble_eq_true rfl), (Nat.le_of_ble_eq_true rfl)⟩ dX11_go_97 ?_
            rintro _ h44 ⟨v46, rfl, hs45, ht⟩
            exact ab_iret rfl dX11_go_100 (Nat.le_of_ble_eq_true rfl) (Nat.le_of_ble_eq_true rfl) ht
      · have ht := ht.2 c9
        refine ab_iconst (v := 2) dX11_go_61 (by decide) ?_
        refine ab_goto (tgt := 70) dX11_go_62 (by decide) ?_
        refine ab_callV (b := 8) (As := [.int x1, .int 2]) ht (Y_X7_get) l_X11_163 in_X7_get se_X7_get (sh_k hs7 8 7 (by decide) rfl) (by decide) rfl rfl ⟨(Nat.le_of_ble_eq_true rfl), (Nat.le_of_ble_eq_true rfl), (Nat.le_of_ble_eq_true rfl), (Nat.le_of_ble_eq_true rfl)⟩ dX11_go_70 ?_
        rintro _ h47 ⟨v49, rfl, hs48, ht⟩
        refine ab_istore (i := 4) (L' := [some (.ref 0), some (.int x1), some (.int x2), some (.int v8), some (.int v49)]) dX11_go_73 (by exact (Nat.le_of_ble_eq_true rfl)) rfl rfl ?_
        refine ab_iload (i := 4) dX11_go_75 rfl ?_
        refine ab_iload_n (i := 2) dX11_go_77 rfl rfl ?_
        refine ab_icmp_eq (tgt := 101) dX11_go_78 (by decide) (fun c50 => ?_) (fun c50 => ?_)
        · have ht := ht.1 c50
          refine ab_iload_n (i := 3) dX11_go_101 rfl rfl ?_
          refine ab_bipush (v := 15) dX11_go_102 (by decide) ?_
          refine ab_icmp_ne (tgt := 114) dX11_go_104 (by decide) (fun c51 => ?_) (fun c51 => ?_)
          · have ht := ht.1 c51
            refine ab_aload_n (i := 0) dX11_go_114 rfl rfl ?_
            refine ab_getR (b := 1) f_X11_10 rfl (sh_k hs48 0 11 (by decide) rfl) (sh_r hs48 0 rfl) dX11_go_115 ?_
            refine ab_getR (b := 8) f_X11_190 rfl (sh_k hs48 1 10 (by decide) rfl) (sh_r hs48 16 rfl) dX11_go_118 ?_
            refine ab_iload_n (i := 1) dX11_go_121 rfl rfl ?_
            refine ab_iconst (v := 4) dX11_go_122 (by decide) ?_
            refine ab_iload_n (i := 3) dX11_go_123 rfl rfl ?_
            refine ab_iadd dX11_go_124 ?_
            refine ab_iload_n (i := 2) dX11_go_125 rfl rfl ?_
            refine ab_callV (b := 8) (As := [.int x1, .int (4 + v8), .int x2]) ht (Y_X7_swap) l_X11_160 in_X7_swap se_X7_swap (sh_k hs48 8 7 (by decide) rfl) (by decide) rfl rfl ⟨(Nat.le_of_ble_eq_true rfl), (Nat.le_of_ble_eq_true rfl), (Nat.le_of_ble_eq_true rfl), (Nat.le_of_ble_eq_true rfl)⟩ dX11_go_126 ?_
            rintro _ h52 ⟨v54, rfl, hs53, ht⟩
            refine ab_pop dX11_go_129 rfl ?_
            refine ab_aload_n (i := 0) dX11_go_130 rfl rfl ?_
            refine ab_getR (b := 1) f_X11_10 rfl (sh_k hs53 0 11 (by decide) rfl) (sh_r hs53 0 rfl) dX11_go_131 ?_
            refine ab_getR (b := 8) f_X11_190 rfl (sh_k hs53 1 10 (by decide) rfl) (sh_r hs53 16 rfl) dX11_go_134 ?_
            refine ab_iload_n (i := 1) dX11_go_137 rfl rfl ?_
            refine ab_iconst (v := 3) dX11_go_138 (by decide) ?_
            refine ab_iload_n (i := 3) dX11_go_139 rfl rfl ?_
            refine ab_iconst (v := 1) dX11_go_140 (by decide) ?_
            refine ab_iadd dX11_go_141 ?_
            refine ab_callV (b := 8) (As := [.int x1, .int 3, .int (v8 + 1)]) ht (Y_X7_swap) l_X11_160 in_X7_swap se_X7_swap (sh_k hs53 8 7 (by decide) rfl) (by decide) rfl rfl ⟨(Nat.le_of_ble_eq_true rfl), (Nat.le_of_ble_eq_true rfl), (Nat.le_of_ble_eq_true rfl), (Nat.le_of_ble_eq_true rfl)⟩ dX11_go_142 ?_
            rintro _ h55 ⟨v57, rfl, hs56, ht⟩
            refine ab_pop dX11_go_145 rfl ?_
            refine ab_aload_n (i := 0) dX11_go_146 rfl rfl ?_
            refine ab_iload_n (i := 3) dX11_go_147 rfl rfl ?_
            refine ab_iconst (v := 1) dX11_go_148 (by decide) ?_
            refine ab_iadd dX11_go_149 ?_
            refine ab_callV (b := 0) (As := [.int (v8 + 1)]) ht (Y_X11_change) l_X11_153 in_X11_change se_X11_change (sh_k hs56 0 11 (by decide) rfl) (by decide) rfl rfl ⟨(Nat.le_of_ble_eq_true rfl), (Nat.le_of_ble_eq_true rfl), (Nat.le_of_ble_eq_true rfl), (Nat.le_of_ble_eq_true rfl)⟩ dX11_go_150 ?_
            rintro _ h58 ⟨v60, rfl, hs59, ht⟩
            exact ab_iret rfl dX11_go_153 (Nat.le_of_ble_eq_true rfl) (Nat.le_of_ble_eq_true rfl) ht
          · have ht := ht.2 c51
            refine ab_aload_n (i := 0) dX11_go_107 rfl rfl ?_
            refine ab_bipush (v := (-5)) dX11_go_108 (by decide) ?_
            refine ab_callV (b := 0) (As := [.int (-5)]) ht (Y_X11_refuse) l_X11_123 in_X11_refuse se_X11_refuse (sh_k hs48 0 11 (by decide) rfl) (by decide) rfl rfl ⟨(Nat.le_of_ble_eq_true rfl), (Nat.le_of_ble_eq_true rfl), (Nat.le_of_ble_eq_true rfl), (Nat.le_of_ble_eq_true rfl)⟩ dX11_go_110 ?_
            rintro _ h61 ⟨v63, rfl, hs62, ht⟩
            exact ab_iret rfl dX11_go_113 (Nat.le_of_ble_eq_true rfl) (Nat.le_of_ble_eq_true rfl) ht
        · have ht := ht.2 c50
          refine ab_aload_n (i := 0) dX11_go_81 rfl rfl ?_
          refine ab_getR (b := 1) f_X11_10 rfl (sh_k hs48 0 11 (by decide) rfl) (sh_r hs48 0 rfl) dX11_go_82 ?_
          refine ab_iload (i := 4) dX11_go_85 rfl ?_
          refine ab_iload_n (i := 2) dX11_go_87 rfl rfl ?_
          refine ab_callV (b := 1) (As := [.int v49, .int x2]) ht (Y_X10_isWay) l_X11_127 in_X10_isWay se_X10_isWay (sh_k hs48 1 10 (by decide) rfl) (by decide) rfl rfl ⟨(Nat.le_of_ble_eq_true rfl), (Nat.le_of_ble_eq_true rfl), (Nat.le_of_ble_eq_true rfl), (Nat.le_of_ble_eq_true rfl)⟩ dX11_go_88 ?_
          rintro _ h64 ⟨v66, rfl, hs65, ht⟩
          refine ab_if_ne (tgt := 101) dX11_go_91 (by decide) (fun c67 => ?_) (fun c67 => ?_)
          · have ht := ht.1 c67
            refine ab_iload_n (i := 3) dX11_go_101 rfl rfl ?_
            refine ab_bipush (v := 15) dX11_go_102 (by decide) ?_
            refine ab_icmp_ne (tgt := 114) dX11_go_104 (by decide) (fun c68 => ?_) (fun c68 => ?_)
            · have ht := ht.1 c68
              refine ab_aload_n (i := 0) dX11_go_114 rfl rfl ?_
              refine ab_getR (b := 1) f_X11_10 rfl (sh_k hs65 0 11 (by decide) rfl) (sh_r hs65 0 rfl) dX11_go_115 ?_
              refine ab_getR (b := 8) f_X11_190 rfl (sh_k hs65 1 10 (by decide) rfl) (sh_r hs65 16 rfl) dX11_go_118 ?_
              refine ab_iload_n (i := 1) dX11_go_121 rfl rfl ?_
              refine ab_iconst (v := 4) dX11_go_122 (by decide) ?_
              refine ab_iload_n (i := 3) dX11_go_123 rfl rfl ?_
              refine ab_iadd dX11_go_124 ?_
              refine ab_iload_n (i := 2) dX11_go_125 rfl rfl ?_
              refine ab_callV (b := 8) (As := [.int x1, .int (4 + v8), .int x2]) ht (Y_X7_swap) l_X11_160 in_X7_swap se_X7_swap (sh_k hs65 8 7 (by decide) rfl) (by decide) rfl rfl ⟨(Nat.le_of_ble_eq_true rfl), (Nat.le_of_ble_eq_true rfl), (Nat.le_of_ble_eq_true rfl), (Nat.le_of_ble_eq_true rfl)⟩ dX11_go_126 ?_
              rintro _ h69 ⟨v71, rfl, hs70, ht⟩
              refine ab_pop dX11_go_129 rfl ?_
              refine ab_aload_n (i := 0) dX11_go_130 rfl rfl ?_
              refine ab_getR (b := 1) f_X11_10 rfl (sh_k hs70 0 11 (by decide) rfl) (sh_r hs70 0 rfl) dX11_go_131 ?_
              refine ab_getR (b := 8) f_X11_190 rfl (sh_k hs70 1 10 (by decide) rfl) (sh_r hs70 16 rfl) dX11_go_134 ?_
              refine ab_iload_n (i := 1) dX11_go_137 rfl rfl ?_
              refine ab_iconst (v := 3) dX11_go_138 (by decide) ?_
              refine ab_iload_n (i := 3) dX11_go_139 rfl rfl ?_
              refine ab_iconst (v := 1) dX11_go_140 (by decide) ?_
              refine ab_iadd dX11_go_141 ?_
              refine ab_callV (b := 8) (As := [.int x1, .int 3, .int (v8 + 1)]) ht (Y_X7_swap) l_X11_160 in_X7_swap se_X7_swap (sh_k hs70 8 7 (by decide) rfl) (by decide) rfl rfl ⟨(Nat.le_of_ble_eq_true rfl), (Nat.le_of_ble_eq_true rfl), (Nat.le_of_ble_eq_true rfl), (Nat.le_of_ble_eq_true rfl)⟩ dX11_go_142 ?_
              rintro _ h72 ⟨v74, rfl, hs73, ht⟩
              refine ab_pop dX11_go_145 rfl ?_
              refine ab_aload_n (i := 0) dX11_go_146 rfl rfl ?_
              refine ab_iload_n (i := 3) dX11_go_147 rfl rfl ?_
              refine ab_iconst (v := 1) dX11_go_148 (by decide) ?_
              refine ab_iadd dX11_go_149 ?_
              refine ab_callV (b := 0) (As := [.int (v8 + 1)]) ht (Y_X11_change) l_X11_153 in_X11_change se_X11_change (sh_k hs73 0 11 (by decide) rfl) (by decide) rfl rfl ⟨(Nat.le_of_ble_eq_true rfl), (Nat.le_of_ble_eq_true rfl), (Nat.le_of_ble_eq_true rfl), (Nat.le_of_ble_eq_true rfl)⟩ dX11_go_150 ?_
              rintro _ h75 ⟨v77, rfl, hs76, ht⟩
              exact ab_iret rfl dX11_go_153 (Nat.le_of_ble_eq_true rfl) (Nat.le_of_ble_eq_true rfl) ht
            · have ht := ht.2 c68
              refine ab_aload_n (i := 0) dX11_go_107 rfl rfl ?_
              refine ab_bipush (v := (-5)) dX11_go_108 (by decide) ?_
              refine ab_callV (b := 0) (As := [.int (-5)]) ht (Y_X11_refuse) l_X11_123 in_X11_refuse se_X11_refuse (sh_k hs65 0 11 (by decide) rfl) (by decide) rfl rfl ⟨(Nat.le_of_ble_eq_true rfl), (Nat.le_of_ble_eq_true rfl), (Nat.le_of_ble_eq_true rfl), (Nat.le_of_ble_eq_true rfl)⟩ dX11_go_110 ?_
              rintro _ h78 ⟨v80, rfl, hs79, ht⟩
              exact ab_iret rfl dX11_go_113 (Nat.le_of_ble_eq_true rfl) (Nat.le_of_ble_eq_true rfl) ht
          · have ht := ht.2 c67
            refine ab_aload_n (i := 0) dX11_go_94 rfl rfl ?_
            refine ab_bipush (v := (-3)) dX11_go_95 (by decide) ?_
            refine ab_callV (b := 0) (As := [.int (-3)]) ht (Y_X11_refuse) l_X11_123 in_X11_refuse se_X11_refuse (sh_k hs65 0 11 (by decide) rfl) (by decide) rfl rfl ⟨(Nat.le_of_ble_eq_true rfl), (Nat.le_of_ble_eq_true rfl), (Nat.le_of_ble_eq_true rfl), (Nat.le_of_ble_eq_true rfl)⟩ dX11_go_97 ?_
            rintro _ h81 ⟨v83, rfl, hs82, ht⟩
            exact ab_iret rfl dX11_go_100 (Nat.le_of_ble_eq_true rfl) (Nat.le_of_ble_eq_true rfl) ht
    · have ht := ht.2 c5
      refine ab_aload_n (i := 0) dX11_go_29 rfl rfl ?_
      refine ab_bipush (v := (-2)) dX11_go_30 (by decide) ?_
      refine ab_callV (b := 0) (As := [.int (-2)]) ht (Y_X11_refuse) l_X11_123 in_X11_refuse se_X11_refuse (sh_k hs3 0 11 (by decide) rfl) (by decide) rfl rfl ⟨(Nat.le_of_ble_eq_true rfl), (Nat.le_of_ble_eq_true rfl), (Nat.le_of_ble_eq_true rfl), (Nat.le_of_ble_eq_true rfl)⟩ dX11_go_32 ?_
      rintro _ h84 ⟨v86, rfl, hs85, ht⟩
      exact ab_iret rfl dX11_go_35 (Nat.le_of_ble_eq_true rfl) (Nat.le_of_ble_eq_true rfl) ht
  · have ht := ht.2 c1
    refine ab_aload_n (i := 0) dX11_go_9 rfl rfl ?_
    refine ab_iconst (v := (-1)) dX11_go_10 (by decide) ?_
    refine ab_callV (b := 0) (As := [.int (-1)]) ht (Y_X11_refuse) l_X11_123 in_X11_refuse se_X11_refuse (sh_k hs 0 11 (by decide) rfl) (by decide) rfl rfl ⟨(Nat.le_of_ble_eq_true rfl), (Nat.le_of_ble_eq_true rfl), (Nat.le_of_ble_eq_true rfl), (Nat.le_of_ble_eq_true rfl)⟩ dX11_go_11 ?_
    rintro _ h87 ⟨v89, rfl, hs88, ht⟩
    exact ab_iret rfl dX11_go_14 (Nat.le_of_ble_eq_true rfl) (Nat.le_of_ble_eq_true rfl) ht
theorem dX11_doused_0 : decode cX11_doused 0 = .ok (.aload_n 0, 1) := by decide +kernel
theorem dX11_doused_1 : decode cX11_doused 1 = .ok (.getfield 10, 3) := by decide +kernel
theorem dX11_doused_4 : decode cX11_doused 4 = .ok (.getfield 190, 3) := by decide +kernel
theorem dX11_doused_7 : decode cX11_doused 7 = .ok (.getfield 187, 3) := by decide +kernel
theorem dX11_doused_10 : decode cX11_doused 10 = .ok (.istore_n 1, 1) := by decide +kernel
theorem dX11_doused_11 : decode cX11_doused 11 = .ok (.aload_n 0, 1) := by decide +kernel
theorem dX11_doused_12 : decode cX11_doused 12 = .ok (.getfield 10, 3) := by decide +kernel
theorem dX11_doused_15 : decode cX11_doused 15 = .ok (.getfield 190, 3) := by decide +kernel
theorem dX11_doused_18 : decode cX11_doused 18 = .ok (.iconst 0, 1) := by decide +kernel
theorem dX11_doused_19 : decode cX11_doused 19 = .ok (.putfield 187, 3) := by decide +kernel
theorem dX11_doused_22 : decode cX11_doused 22 = .ok (.aload_n 0, 1) := by decide +kernel
theorem dX11_doused_23 : decode cX11_doused 23 = .ok (.iconst 1, 1) := by decide +kernel
theorem dX11_doused_24 : decode cX11_doused 24 = .ok (.putfield 116, 3) := by decide +kernel
theorem dX11_doused_27 : decode cX11_doused 27 = .ok (.iload_n 1, 1) := by decide +kernel
theorem dX11_doused_28 : decode cX11_doused 28 = .ok (.ireturn, 1) := by decide +kernel
set_option maxRecDepth 20000 in
theorem T_X11_doused {Q : Option Value → ah_T → Prop} {h : ah_T} (hs : Sh h)  (ht : (∀ h1, h1 = ah_si h 8 3 0 → (∀ h4, h4 = ah_si h1 0 19 1 → Q (some (.int (ah_i h 8 3))) h4))) : Mt mX11_doused [.ref 0] h Q := by
  refine Mt.ofWp rfl (by exact (Nat.le_of_ble_eq_true rfl)) (Wp.fewer (L' := [some (.ref 0), none]) (show ab_leL _ _ from ⟨rfl, trivial⟩) ?_)
  refine ab_aload_n (i := 0) dX11_doused_0 rfl rfl ?_
  refine ab_getR (b := 1) f_X11_10 rfl (sh_k hs 0 11 (by decide) rfl) (sh_r hs 0 rfl) dX11_doused_1 ?_
  refine ab_getR (b := 8) f_X11_190 rfl (sh_k hs 1 10 (by decide) rfl) (sh_r hs 16 rfl) dX11_doused_4 ?_
  refine ab_getI f_X11_187 rfl (sh_k hs 8 7 (by decide) rfl) dX11_doused_7 ?_
  refine ab_istore_n (i := 1) (L' := [some (.ref 0), some (.int (ah_i h 8 3))]) dX11_doused_10 rfl (by exact (Nat.le_of_ble_eq_true rfl)) rfl rfl ?_
  refine ab_aload_n (i := 0) dX11_doused_11 rfl rfl ?_
  refine ab_getR (b := 1) f_X11_10 rfl (sh_k hs 0 11 (by decide) rfl) (sh_r hs 0 rfl) dX11_doused_12 ?_
  refine ab_getR (b := 8) f_X11_190 rfl (sh_k hs 1 10 (by decide) rfl) (sh_r hs 16 rfl) dX11_doused_15 ?_
  refine ab_iconst (v := 0) dX11_doused_18 (by decide) ?_
  refine ab_putI f_X11_187 (Or.inl rfl) rfl (sh_k hs 8 7 (by decide) rfl) rfl rfl dX11_doused_19 ?_
  refine Wp.nm fun h1 e2 => ?_
  have ht := ht h1 e2
  have hs3 : Sh h1 := by rw [e2]; exact sh_si hs
  refine ab_aload_n (i := 0) dX11_doused_22 rfl rfl ?_
  refine ab_iconst (v := 1) dX11_doused_23 (by decide) ?_
  refine ab_putI f_X11_116 (Or.inl rfl) rfl (sh_k hs3 0 11 (by decide) rfl) rfl rfl dX11_doused_24 ?_
  refine Wp.nm fun h4 e5 => ?_
  have ht := ht h4 e5
  have hs6 : Sh h4 := by rw [e5]; exact sh_si hs3
  refine ab_iload_n (i := 1) dX11_doused_27 rfl rfl ?_
  exact ab_iret rfl dX11_doused_28 (Nat.le_of_ble_eq_true rfl) (Nat.le_of_ble_eq_true rfl) ht
theorem dX11_errand_0 : decode cX11_errand 0 = .ok (.iload_n 1, 1) := by decide +kernel
theorem dX11_errand_1 : decode cX11_errand 1 = .ok (.bipush 12, 2) := by decide +kernel
theorem dX11_errand_3 : decode cX11_errand 3 = .ok (.invokestatic 119, 3) := by decide +kernel
theorem dX11_errand_6 : decode cX11_errand 6 = .ok (.ifCond .eq 26, 3) := by decide +kernel
theorem dX11_errand_9 : decode cX11_errand 9 = .ok (.iload_n 2, 1) := by decide +kernel
theorem dX11_errand_10 : decode cX11_errand 10 = .ok (.bipush 120, 2) := by decide +kernel
theorem dX11_errand_12 : decode cX11_errand 12 = .ok (.invokestatic 119, 3) := by decide +kernel
theorem dX11_errand_15 : decode cX11_errand 15 = .ok (.ifCond .eq 17, 3) := by decide +kernel
theorem dX11_errand_18 : decode cX11_errand 18 = .ok (.iload_n 3, 1) := by decide +kernel
theorem dX11_errand_19 : decode cX11_errand 19 = .ok (.bipush 120, 2) := by decide +kernel
theorem dX11_errand_21 : decode cX11_errand 21 = .ok (.invokestatic 119, 3) := by decide +kernel
theorem dX11_errand_24 : decode cX11_errand 24 = .ok (.ifCond .eq 8, 3) := by decide +kernel
theorem dX11_errand_27 : decode cX11_errand 27 = .ok (.iload_n 3, 1) := by decide +kernel
theorem dX11_errand_28 : decode cX11_errand 28 = .ok (.iload_n 2, 1) := by decide +kernel
theorem dX11_errand_29 : decode cX11_errand 29 = .ok (.if_icmp .ge 9, 3) := by decide +kernel
theorem dX11_errand_32 : decode cX11_errand 32 = .ok (.aload_n 0, 1) := by decide +kernel
theorem dX11_errand_33 : decode cX11_errand 33 = .ok (.iconst (-1), 1) := by decide +kernel
theorem dX11_errand_34 : decode cX11_errand 34 = .ok (.invokevirtual 123, 3) := by decide +kernel
theorem dX11_errand_37 : decode cX11_errand 37 = .ok (.ireturn, 1) := by decide +kernel
theorem dX11_errand_38 : decode cX11_errand 38 = .ok (.aload_n 0, 1) := by decide +kernel
theorem dX11_errand_39 : decode cX11_errand 39 = .ok (.getfield 10, 3) := by decide +kernel
theorem dX11_errand_42 : decode cX11_errand 42 = .ok (.getfield 193, 3) := by decide +kernel
theorem dX11_errand_45 : decode cX11_errand 45 = .ok (.invokevirtual 134, 3) := by decide +kernel
theorem dX11_errand_48 : decode cX11_errand 48 = .ok (.ifCond .eq 10, 3) := by decide +kernel
theorem dX11_errand_51 : decode cX11_errand 51 = .ok (.aload_n 0, 1) := by decide +kernel
theorem dX11_errand_52 : decode cX11_errand 52 = .ok (.bipush (-5), 2) := by decide +kernel
theorem dX11_errand_54 : decode cX11_errand 54 = .ok (.invokevirtual 123, 3) := by decide +kernel
theorem dX11_errand_57 : decode cX11_errand 57 = .ok (.ireturn, 1) := by decide +kernel
theorem dX11_errand_58 : decode cX11_errand 58 = .ok (.aload_n 0, 1) := by decide +kernel
theorem dX11_errand_59 : decode cX11_errand 59 = .ok (.aload_n 0, 1) := by decide +kernel
theorem dX11_errand_60 : decode cX11_errand 60 = .ok (.getfield 10, 3) := by decide +kernel
theorem dX11_errand_63 : decode cX11_errand 63 = .ok (.getfield 193, 3) := by decide +kernel
theorem dX11_errand_66 : decode cX11_errand 66 = .ok (.iload_n 1, 1) := by decide +kernel
theorem dX11_errand_67 : decode cX11_errand 67 = .ok (.iload_n 2, 1) := by decide +kernel
theorem dX11_errand_68 : decode cX11_errand 68 = .ok (.iload_n 3, 1) := by decide +kernel
theorem dX11_errand_69 : decode cX11_errand 69 = .ok (.invokevirtual 149, 3) := by decide +kernel
theorem dX11_errand_72 : decode cX11_errand 72 = .ok (.invokevirtual 153, 3) := by decide +kernel
theorem dX11_errand_75 : decode cX11_errand 75 = .ok (.ireturn, 1) := by decide +kernel
set_option maxRecDepth 20000 in
theorem T_X11_errand {Q : Option Value → ah_T → Prop} {h : ah_T} (hs : Sh h) (x1 : Int32) (x2 : Int32) (x3 : Int32) (ht : (((f_X11_isIn x1 12) = 0 → (Mt mX11_refuse [.ref 0, .int (-1)] h (ab_qi fun v4 h2 => Sh h2 ∧ Q (some (.int v4)) h2))) ∧ (¬ (f_X11_isIn x1 12) = 0 → (((f_X11_isIn x2 120) = 0 → (Mt mX11_refuse [.ref 0, .int (-1)] h (ab_qi fun v8 h6 => Sh h6 ∧ Q (some (.int v8)) h6))) ∧ (¬ (f_X11_isIn x2 120) = 0 → (((f_X11_isIn x3 120) = 0 → (Mt mX11_refuse [.ref 0, .int (-1)] h (ab_qi fun v12 h10 => Sh h10 ∧ Q (some (.int v12)) h10))) ∧ (¬ (f_X11_isIn x3 120) = 0 → ((x2 ≤ x3 → (Mt mX7_isFull [.ref 10] h (ab_qi fun v16 h14 => Sh h14 ∧ ((v16 = 0 → (Mt mX7_add [.ref 10, .int x1, .int x2, .int x3] h14 (ab_qi fun v20 h18 => Sh h18 ∧ (Mt mX11_change [.ref 0, .int v20] h18 (ab_qi fun v23 h21 => Sh h21 ∧ Q (some (.int v23)) h21))))) ∧ (¬ v16 = 0 → (Mt mX11_refuse [.ref 0, .int (-5)] h14 (ab_qi fun v26 h24 => Sh h24 ∧ Q (some (.int v26)) h24))))))) ∧ (¬ x2 ≤ x3 → (Mt mX11_refuse [.ref 0, .int (-1)] h (ab_qi fun v29 h27 => Sh h27 ∧ Q (some (.int v29)) h27))))))))))) : Mt mX11_errand [.ref 0, .int x1, .int x2, .int x3] h Q := by
  refine Mt.ofWp rfl (by exact (Nat.le_of_ble_eq_true rfl)) (Wp.fewer (L' := [some (.ref 0), some (.int x1), some (.int x2), some (.int x3)]) (show ab_leL _ _ from ⟨rfl, ⟨rfl, ⟨rfl, ⟨rfl, trivial⟩⟩⟩⟩) ?_)
  refine ab_iload_n (i := 1) dX11_errand_0 rfl rfl ?_
  refine ab_bipush (v := 12) dX11_errand_1 (by decide) ?_
  refine ab_callS (Q' := fun r h' => r = some (.int (f_X11_isIn x1 12)) ∧ h = h') (As := [.int x1, .int 12]) (c_X11_isIn hs x1 12 ⟨rfl, rfl⟩) (Y_X11_isIn) l_X11_119 st_X11_isIn rfl ⟨(Nat.le_of_ble_eq_true rfl), (Nat.le_of_ble_eq_true rfl), (Nat.le_of_ble_eq_true rfl), (Nat.le_of_ble_eq_true rfl)⟩ dX11_errand_3 ?_
  rintro _ _ ⟨rfl, rfl⟩
  refine ab_if_eq (tgt := 32) dX11_errand_6 (by decide) (fun c1 => ?_) (fun c1 => ?_)
  · have ht := ht.1 c1
    refine ab_aload_n (i := 0) dX11_errand_32 rfl rfl ?_
    refine ab_iconst (v := (-1)) dX11_errand_33 (by decide) ?_
    refine ab_callV (b := 0) (As := [.int (-1)]) ht (Y_X11_refuse) l_X11_123 in_X11_refuse se_X11_refuse (sh_k hs 0 11 (by decide) rfl) (by decide) rfl rfl ⟨(Nat.le_of_ble_eq_true rfl), (Nat.le_of_ble_eq_true rfl), (Nat.le_of_ble_eq_true rfl), (Nat.le_of_ble_eq_true rfl)⟩ dX11_errand_34 ?_
    rintro _ h2 ⟨v4, rfl, hs3, ht⟩
    exact ab_iret rfl dX11_errand_37 (Nat.le_of_ble_eq_true rfl) (Nat.le_of_ble_eq_true rfl) ht
  · have ht := ht.2 c1
    refine ab_iload_n (i := 2) dX11_errand_9 rfl rfl ?_
    refine ab_bipush (v := 120) dX11_errand_10 (by decide) ?_
    refine ab_callS (Q' := fun r h' => r = some (.int (f_X11_isIn x2 120)) ∧ h = h') (As := [.int x2, .int 120]) (c_X11_isIn hs x2 120 ⟨rfl, rfl⟩) (Y_X11_isIn) l_X11_119 st_X11_isIn rfl ⟨(Nat.le_of_ble_eq_true rfl), (Nat.le_of_ble_eq_true rfl), (Nat.le_of_ble_eq_true rfl), (Nat.le_of_ble_eq_true rfl)⟩ dX11_errand_12 ?_
    rintro _ _ ⟨rfl, rfl⟩
    refine ab_if_eq (tgt := 32) dX11_errand_15 (by decide) (fun c5 => ?_) (fun c5 => ?_)
    · have ht := ht.1 c5
      refine ab_aload_n (i := 0) dX11_errand_32 rfl rfl ?_
      refine ab_iconst (v := (-1)) dX11_errand_33 (by decide) ?_
      refine ab_callV (b := 0) (As := [.int (-1)]) ht (Y_X11_refuse) l_X11_123 in_X11_refuse se_X11_refuse (sh_k hs 0 11 (by decide) rfl) (by decide) rfl rfl ⟨(Nat.le_of_ble_eq_true rfl), (Nat.le_of_ble_eq_true rfl), (Nat.le_of_ble_eq_true rfl), (Nat.le_of_ble_eq_true rfl)⟩ dX11_errand_34 ?_
      rintro _ h6 ⟨v8, rfl, hs7, ht⟩
      exact ab_iret rfl dX11_errand_37 (Nat.le_of_ble_eq_true rfl) (Nat.le_of_ble_eq_true rfl) ht
    · have ht := ht.2 c5
      refine ab_iload_n (i := 3) dX11_errand_18 rfl rfl ?_
      refine ab_bipush (v := 120) dX11_errand_19 (by decide) ?_
      refine ab_callS (Q' := fun r h' => r = some (.int (f_X11_isIn x3 120)) ∧ h = h') (As := [.int x3, .int 120]) (c_X11_isIn hs x3 120 ⟨rfl, rfl⟩) (Y_X11_isIn) l_X11_119 st_X11_isIn rfl ⟨(Nat.le_of_ble_eq_true rfl), (Nat.le_of_ble_eq_true rfl), (Nat.le_of_ble_eq_true rfl), (Nat.le_of_ble_eq_true rfl)⟩ dX11_errand_21 ?_
      rintro _ _ ⟨rfl, rfl⟩
      refine ab_if_eq (tgt := 32) dX11_errand_24 (by decide) (fun c9 => ?_) (fun c9 => ?_)
      · have ht := ht.1 c9
        refine ab_aload_n (i := 0) dX11_errand_32 rfl rfl ?_
        refine ab_iconst (v := (-1)) dX11_errand_33 (by decide) ?_
        refine ab_callV (b := 0) (As := [.int (-1)]) ht (Y_X11_refuse) l_X11_123 in_X11_refuse se_X11_refuse (sh_k hs 0 11 (by decide) rfl) (by decide) rfl rfl ⟨(Nat.le_of_ble_eq_true rfl), (Nat.le_of_ble_eq_true rfl), (Nat.le_of_ble_eq_true rfl), (Nat.le_of_ble_eq_true rfl)⟩ dX11_errand_34 ?_
        rintro _ h10 ⟨v12, rfl, hs11, ht⟩
        exact ab_iret rfl dX11_errand_37 (Nat.le_of_ble_eq_true rfl) (Nat.le_of_ble_eq_true rfl) ht
      · have ht := ht.2 c9
        refine ab_iload_n (i := 3) dX11_errand_27 rfl rfl ?_
        refine ab_iload_n (i := 2) dX11_errand_28 rfl rfl ?_
        refine ab_icmp_ge (tgt := 38) dX11_errand_29 (by decide) (fun c13 => ?_) (fun c13 => ?_)
        · have ht := ht.1 c13
          refine ab_aload_n (i := 0) dX11_errand_38 rfl rfl ?_
          refine ab_getR (b := 1) f_X11_10 rfl (sh_k hs 0 11 (by decide) rfl) (sh_r hs 0 rfl) dX11_errand_39 ?_
          refine ab_getR (b := 10) f_X11_193 rfl (sh_k hs 1 10 (by decide) rfl) (sh_r hs 17 rfl) dX11_errand_42 ?_
          refine ab_callV (b := 10) (As := []) ht (Y_X7_isFull) l_X11_134 in_X7_isFull se_X7_isFull (sh_k hs 10 7 (by decide) rfl) (by decide) rfl rfl ⟨(Nat.le_of_ble_eq_true rfl), (Nat.le_of_ble_eq_true rfl), (Nat.le_of_ble_eq_true rfl), (Nat.le_of_ble_eq_true rfl)⟩ dX11_errand_45 ?_
          rintro _ h14 ⟨v16, rfl, hs15, ht⟩
          refine ab_if_eq (tgt := 58) dX11_errand_48 (by decide) (fun c17 => ?_) (fun c17 => ?_)
          · have ht := ht.1 c17
            refine ab_aload_n (i := 0) dX11_errand_58 rfl rfl ?_
            refine ab_aload_n (i := 0) dX11_errand_59 rfl rfl ?_
            refine ab_getR (b := 1) f_X11_10 rfl (sh_k hs15 0 11 (by decide) rfl) (sh_r hs15 0 rfl) dX11_errand_60 ?_
            refine ab_getR (b := 10) f_X11_193 rfl (sh_k hs15 1 10 (by decide) rfl) (sh_r hs15 17 rfl) dX11_errand_63 ?_
            refine ab_iload_n (i := 1) dX11_errand_66 rfl rfl ?_
            refine ab_iload_n (i := 2) dX11_errand_67 rfl rfl ?_
            refine ab_iload_n (i := 3) dX11_errand_68 rfl rfl ?_
            refine ab_callV (b := 10) (As := [.int x1, .int x2, .int x3]) ht (Y_X7_add) l_X11_149 in_X7_add se_X7_add (sh_k hs15 10 7 (by decide) rfl) (by decide) rfl rfl ⟨(Nat.le_of_ble_eq_true rfl), (Nat.le_of_ble_eq_true rfl), (Nat.le_of_ble_eq_true rfl), (Nat.le_of_ble_eq_true rfl)⟩ dX11_errand_69 ?_
            rintro _ h18 ⟨v20, rfl, hs19, ht⟩
            refine ab_callV (b := 0) (As := [.int v20]) ht (Y_X11_change) l_X11_153 in_X11_change se_X11_change (sh_k hs19 0 11 (by decide) rfl) (by decide) rfl rfl ⟨(Nat.le_of_ble_eq_true rfl), (Nat.le_of_ble_eq_true rfl), (Nat.le_of_ble_eq_true rfl), (Nat.le_of_ble_eq_true rfl)⟩ dX11_errand_72 ?_
            rintro _ h21 ⟨v23, rfl, hs22, ht⟩
            exact ab_iret rfl dX11_errand_75 (Nat.le_of_ble_eq_true rfl) (Nat.le_of_ble_eq_true rfl) ht
          · have ht := ht.2 c17
            refine ab_aload_n (i := 0) dX11_errand_51 rfl rfl ?_
            refine ab_bipush (v := (-5)) dX11_errand_52 (by decide) ?_
            refine ab_callV (b := 0) (As := [.int (-5)]) ht (Y_X11_refuse) l_X11_123 in_X11_refuse se_X11_refuse (sh_k hs15 0 11 (by decide) rfl) (by decide) rfl rfl ⟨(Nat.le_of_ble_eq_true rfl), (Nat.le_of_ble_eq_true rfl), (Nat.le_of_ble_eq_true rfl), (Nat.le_of_ble_eq_true rfl)⟩ dX11_errand_54 ?_
            rintro _ h24 ⟨v26, rfl, hs25, ht⟩
            exact ab_iret rfl dX11_errand_57 (Nat.le_of_ble_eq_true rfl) (Nat.le_of_ble_eq_true rfl) ht
        · have ht := ht.2 c13
          refine ab_aload_n (i := 0) dX11_errand_32 rfl rfl ?_
          refine ab_iconst (v := (-1)) dX11_errand_33 (by decide) ?_
          refine ab_callV (b := 0) (As := [.int (-1)]) ht (Y_X11_refuse) l_X11_123 in_X11_refuse se_X11_refuse (sh_k hs 0 11 (by decide) rfl) (by decide) rfl rfl ⟨(Nat.le_of_ble_eq_true rfl), (Nat.le_of_ble_eq_true rfl), (Nat.le_of_ble_eq_true rfl), (Nat.le_of_ble_eq_true rfl)⟩ dX11_errand_34 ?_
          rintro _ h27 ⟨v29, rfl, hs28, ht⟩
          exact ab_iret rfl dX11_errand_37 (Nat.le_of_ble_eq_true rfl) (Nat.le_of_ble_eq_true rfl) ht
theorem dX11_terms_0 : decode cX11_terms 0 = .ok (.iload_n 1, 1) := by decide +kernel
theorem dX11_terms_1 : decode cX11_terms 1 = .ok (.iconst 3, 1) := by decide +kernel
theorem dX11_terms_2 : decode cX11_terms 2 = .ok (.invokestatic 119, 3) := by decide +kernel
theorem dX11_terms_5 : decode cX11_terms 5 = .ok (.ifCond .eq 21, 3) := by decide +kernel
theorem dX11_terms_8 : decode cX11_terms 8 = .ok (.iload_n 2, 1) := by decide +kernel
theorem dX11_terms_9 : decode cX11_terms 9 = .ok (.bipush 10, 2) := by decide +kernel
theorem dX11_terms_11 : decode cX11_terms 11 = .ok (.invokestatic 119, 3) := by decide +kernel
theorem dX11_terms_14 : decode cX11_terms 14 = .ok (.ifCond .eq 12, 3) := by decide +kernel
theorem dX11_terms_17 : decode cX11_terms 17 = .ok (.iload_n 1, 1) := by decide +kernel
theorem dX11_terms_18 : decode cX11_terms 18 = .ok (.iconst 1, 1) := by decide +kernel
theorem dX11_terms_19 : decode cX11_terms 19 = .ok (.if_icmp .ne 13, 3) := by decide +kernel
theorem dX11_terms_22 : decode cX11_terms 22 = .ok (.iload_n 2, 1) := by decide +kernel
theorem dX11_terms_23 : decode cX11_terms 23 = .ok (.ifCond .ne 9, 3) := by decide +kernel
theorem dX11_terms_26 : decode cX11_terms 26 = .ok (.aload_n 0, 1) := by decide +kernel
theorem dX11_terms_27 : decode cX11_terms 27 = .ok (.iconst (-1), 1) := by decide +kernel
theorem dX11_terms_28 : decode cX11_terms 28 = .ok (.invokevirtual 123, 3) := by decide +kernel
theorem dX11_terms_31 : decode cX11_terms 31 = .ok (.ireturn, 1) := by decide +kernel
theorem dX11_terms_32 : decode cX11_terms 32 = .ok (.aload_n 0, 1) := by decide +kernel
theorem dX11_terms_33 : decode cX11_terms 33 = .ok (.getfield 10, 3) := by decide +kernel
theorem dX11_terms_36 : decode cX11_terms 36 = .ok (.getfield 196, 3) := by decide +kernel
theorem dX11_terms_39 : decode cX11_terms 39 = .ok (.iload_n 1, 1) := by decide +kernel
theorem dX11_terms_40 : decode cX11_terms 40 = .ok (.iaload, 1) := by decide +kernel
theorem dX11_terms_41 : decode cX11_terms 41 = .ok (.istore_n 3, 1) := by decide +kernel
theorem dX11_terms_42 : decode cX11_terms 42 = .ok (.aload_n 0, 1) := by decide +kernel
theorem dX11_terms_43 : decode cX11_terms 43 = .ok (.getfield 10, 3) := by decide +kernel
theorem dX11_terms_46 : decode cX11_terms 46 = .ok (.getfield 196, 3) := by decide +kernel
theorem dX11_terms_49 : decode cX11_terms 49 = .ok (.iload_n 1, 1) := by decide +kernel
theorem dX11_terms_50 : decode cX11_terms 50 = .ok (.iload_n 2, 1) := by decide +kernel
theorem dX11_terms_51 : decode cX11_terms 51 = .ok (.iastore, 1) := by decide +kernel
theorem dX11_terms_52 : decode cX11_terms 52 = .ok (.aload_n 0, 1) := by decide +kernel
theorem dX11_terms_53 : decode cX11_terms 53 = .ok (.iload_n 3, 1) := by decide +kernel
theorem dX11_terms_54 : decode cX11_terms 54 = .ok (.invokevirtual 153, 3) := by decide +kernel
theorem dX11_terms_57 : decode cX11_terms 57 = .ok (.ireturn, 1) := by decide +kernel
set_option maxRecDepth 20000 in
theorem T_X11_terms {Q : Option Value → ah_T → Prop} {h : ah_T} (hs : Sh h) (x1 : Int32) (x2 : Int32) (ht : (((f_X11_isIn x1 3) = 0 → (Mt mX11_refuse [.ref 0, .int (-1)] h (ab_qi fun v4 h2 => Sh h2 ∧ Q (some (.int v4)) h2))) ∧ (¬ (f_X11_isIn x1 3) = 0 → (((f_X11_isIn x2 10) = 0 → (Mt mX11_refuse [.ref 0, .int (-1)] h (ab_qi fun v8 h6 => Sh h6 ∧ Q (some (.int v8)) h6))) ∧ (¬ (f_X11_isIn x2 10) = 0 → ((¬ x1 = 1 → (vp_in x1 (ah_n h 14)) ∧ (vp_in x1 (ah_n h 14)) ∧ (∀ h12, h12 = ah_si h 14 (Int32.toNatClampNeg x1) x2 → (Mt mX11_change [.ref 0, .int (ah_i h 14 (Int32.toNatClampNeg x1))] h12 (ab_qi fun v17 h15 => Sh h15 ∧ Q (some (.int v17)) h15)))) ∧ (x1 = 1 → ((¬ x2 = 0 → (vp_in x1 (ah_n h 14)) ∧ (vp_in x1 (ah_n h 14)) ∧ (∀ h21, h21 = ah_si h 14 (Int32.toNatClampNeg x1) x2 → (Mt mX11_change [.ref 0, .int (ah_i h 14 (Int32.toNatClampNeg x1))] h21 (ab_qi fun v26 h24 => Sh h24 ∧ Q (some (.int v26)) h24)))) ∧ (x2 = 0 → (Mt mX11_refuse [.ref 0, .int (-1)] h (ab_qi fun v29 h27 => Sh h27 ∧ Q (some (.int v29)) h27))))))))))) : Mt mX11_terms [.ref 0, .int x1, .int x2] h Q := by
  refine Mt.ofWp rfl (by exact (Nat.le_of_ble_eq_true rfl)) (Wp.fewer (L' := [some (.ref 0), some (.int x1), some (.int x2), none]) (show ab_leL _ _ from ⟨rfl, ⟨rfl, ⟨rfl, trivial⟩⟩⟩) ?_)
  refine ab_iload_n (i := 1) dX11_terms_0 rfl rfl ?_
  refine ab_iconst (v := 3) dX11_terms_1 (by decide) ?_
  refine ab_callS (Q' := fun r h' => r = some (.int (f_X11_isIn x1 3)) ∧ h = h') (As := [.int x1, .int 3]) (c_X11_isIn hs x1 3 ⟨rfl, rfl⟩) (Y_X11_isIn) l_X11_119 st_X11_isIn rfl ⟨(Nat.le_of_ble_eq_true rfl), (Nat.le_of_ble_eq_true rfl), (Nat.le_of_ble_eq_true rfl), (Nat.le_of_ble_eq_true rfl)⟩ dX11_terms_2 ?_
  rintro _ _ ⟨rfl, rfl⟩
  refine ab_if_eq (tgt := 26) dX11_terms_5 (by decide) (fun c1 => ?_) (fun c1 => ?_)
  · have ht := ht.1 c1
    refine ab_aload_n (i := 0) dX11_terms_26 rfl rfl ?_
    refine ab_iconst (v := (-1)) dX11_terms_27 (by decide) ?_
    refine ab_callV (b := 0) (As := [.int (-1)]) ht (Y_X11_refuse) l_X11_123 in_X11_refuse se_X11_refuse (sh_k hs 0 11 (by decide) rfl) (by decide) rfl rfl ⟨(Nat.le_of_ble_eq_true rfl), (Nat.le_of_ble_eq_true rfl), (Nat.le_of_ble_eq_true rfl), (Nat.le_of_ble_eq_true rfl)⟩ dX11_terms_28 ?_
    rintro _ h2 ⟨v4, rfl, hs3, ht⟩
    exact ab_iret rfl dX11_terms_31 (Nat.le_of_ble_eq_true rfl) (Nat.le_of_ble_eq_true rfl) ht
  · have ht := ht.2 c1
    refine ab_iload_n (i := 2) dX11_terms_8 rfl rfl ?_
    refine ab_bipush (v := 10) dX11_terms_9 (by decide) ?_
    refine ab_callS (Q' := fun r h' => r = some (.int (f_X11_isIn x2 10)) ∧ h = h') (As := [.int x2, .int 10]) (c_X11_isIn hs x2 10 ⟨rfl, rfl⟩) (Y_X11_isIn) l_X11_119 st_X11_isIn rfl ⟨(Nat.le_of_ble_eq_true rfl), (Nat.le_of_ble_eq_true rfl), (Nat.le_of_ble_eq_true rfl), (Nat.le_of_ble_eq_true rfl)⟩ dX11_terms_11 ?_
    rintro _ _ ⟨rfl, rfl⟩
    refine ab_if_eq (tgt := 26) dX11_terms_14 (by decide) (fun c5 => ?_) (fun c5 => ?_)
    · have ht := ht.1 c5
      refine ab_aload_n (i := 0) dX11_terms_26 rfl rfl ?_
      refine ab_iconst (v := (-1)) dX11_terms_27 (by decide) ?_
      refine ab_callV (b := 0) (As := [.int (-1)]) ht (Y_X11_refuse) l_X11_123 in_X11_refuse se_X11_refuse (sh_k hs 0 11 (by decide) rfl) (by decide) rfl rfl ⟨(Nat.le_of_ble_eq_true rfl), (Nat.le_of_ble_eq_true rfl), (Nat.le_of_ble_eq_true rfl), (Nat.le_of_ble_eq_true rfl)⟩ dX11_terms_28 ?_
      rintro _ h6 ⟨v8, rfl, hs7, ht⟩
      exact ab_iret rfl dX11_terms_31 (Nat.le_of_ble_eq_true rfl) (Nat.le_of_ble_eq_true rfl) ht
    · have ht := ht.2 c5
      refine ab_iload_n (i := 1) dX11_terms_17 rfl rfl ?_
      refine ab_iconst (v := 1) dX11_terms_18 (by decide) ?_
      refine ab_icmp_ne (tgt := 32) dX11_terms_19 (by decide) (fun c9 => ?_) (fun c9 => ?_)
      · have ht := ht.1 c9
        refine ab_aload_n (i := 0) dX11_terms_32 rfl rfl ?_
        refine ab_getR (b := 1) f_X11_10 rfl (sh_k hs 0 11 (by decide) rfl) (sh_r hs 0 rfl) dX11_terms_33 ?_
        refine ab_getR (b := 14) f_X11_196 rfl (sh_k hs 1 10 (by decide) rfl) (sh_r hs 19 rfl) dX11_terms_36 ?_
        refine ab_iload_n (i := 1) dX11_terms_39 rfl rfl ?_
        obtain ⟨hc10, ht⟩ := ht
        refine ab_iald (sh_k hs 14 14 (by decide) rfl) hc10 dX11_terms_40 ?_
        refine ab_istore_n (i := 3) (L' := [some (.ref 0), some (.int x1), some (.int x2), some (.int (ah_i h 14 (Int32.toNatClampNeg x1)))]) dX11_terms_41 rfl (by exact (Nat.le_of_ble_eq_true rfl)) rfl rfl ?_
        refine ab_aload_n (i := 0) dX11_terms_42 rfl rfl ?_
        refine ab_getR (b := 1) f_X11_10 rfl (sh_k hs 0 11 (by decide) rfl) (sh_r hs 0 rfl) dX11_terms_43 ?_
        refine ab_getR (b := 14) f_X11_196 rfl (sh_k hs 1 10 (by decide) rfl) (sh_r hs 19 rfl) dX11_terms_46 ?_
        refine ab_iload_n (i := 1) dX11_terms_49 rfl rfl ?_
        refine ab_iload_n (i := 2) dX11_terms_50 rfl rfl ?_
        obtain ⟨hc11, ht⟩ := ht
        refine ab_iast (sh_k hs 14 14 (by decide) rfl) hc11 dX11_terms_51 ?_
        refine Wp.nm fun h12 e13 => ?_
        have ht := ht h12 e13
        have hs14 : Sh h12 := by rw [e13]; exact sh_si hs
        refine ab_aload_n (i := 0) dX11_terms_52 rfl rfl ?_
        refine ab_iload_n (i := 3) dX11_terms_53 rfl rfl ?_
        refine ab_callV (b := 0) (As := [.int (ah_i h 14 (Int32.toNatClampNeg x1))]) ht (Y_X11_change) l_X11_153 in_X11_change se_X11_change (sh_k hs14 0 11 (by decide) rfl) (by decide) rfl rfl ⟨(Nat.le_of_ble_eq_true rfl), (Nat.le_of_ble_eq_true rfl), (Nat.le_of_ble_eq_true rfl), (Nat.le_of_ble_eq_true rfl)⟩ dX11_terms_54 ?_
        rintro _ h15 ⟨v17, rfl, hs16, ht⟩
        exact ab_iret rfl dX11_terms_57 (Nat.le_of_ble_eq_true rfl) (Nat.le_of_ble_eq_true rfl) ht
      · have ht := ht.2 c9
        refine ab_iload_n (i := 2) dX11_terms_22 rfl rfl ?_
        refine ab_if_ne (tgt := 32) dX11_terms_23 (by decide) (fun c18 => ?_) (fun c18 => ?_)
        · have ht := ht.1 c18
          refine ab_aload_n (i := 0) dX11_terms_32 rfl rfl ?_
          refine ab_getR (b := 1) f_X11_10 rfl (sh_k hs 0 11 (by decide) rfl) (sh_r hs 0 rfl) dX11_terms_33 ?_
          refine ab_getR (b := 14) f_X11_196 rfl (sh_k hs 1 10 (by decide) rfl) (sh_r hs 19 rfl) dX11_terms_36 ?_
          refine ab_iload_n (i := 1) dX11_terms_39 rfl rfl ?_
          obtain ⟨hc19, ht⟩ := ht
          refine ab_iald (sh_k hs 14 14 (by decide) rfl) hc19 dX11_terms_40 ?_
          refine ab_istore_n (i := 3) (L' := [some (.ref 0), some (.int x1), some (.int x2), some (.int (ah_i h 14 (Int32.toNatClampNeg x1)))]) dX11_terms_41 rfl (by exact (Nat.le_of_ble_eq_true rfl)) rfl rfl ?_
          refine ab_aload_n (i := 0) dX11_terms_42 rfl rfl ?_
          refine ab_getR (b := 1) f_X11_10 rfl (sh_k hs 0 11 (by decide) rfl) (sh_r hs 0 rfl) dX11_terms_43 ?_
          refine ab_getR (b := 14) f_X11_196 rfl (sh_k hs 1 10 (by decide) rfl) (sh_r hs 19 rfl) dX11_terms_46 ?_
          refine ab_iload_n (i := 1) dX11_terms_49 rfl rfl ?_
          refine ab_iload_n (i := 2) dX11_terms_50 rfl rfl ?_
          obtain ⟨hc20, ht⟩ := ht
          refine ab_iast (sh_k hs 14 14 (by decide) rfl) hc20 dX11_terms_51 ?_
          refine Wp.nm fun h21 e22 => ?_
          have ht := ht h21 e22
          have hs23 : Sh h21 := by rw [e22]; exact sh_si hs
          refine ab_aload_n (i := 0) dX11_terms_52 rfl rfl ?_
          refine ab_iload_n (i := 3) dX11_terms_53 rfl rfl ?_
          refine ab_callV (b := 0) (As := [.int (ah_i h 14 (Int32.toNatClampNeg x1))]) ht (Y_X11_change) l_X11_153 in_X11_change se_X11_change (sh_k hs23 0 11 (by decide) rfl) (by decide) rfl rfl ⟨(Nat.le_of_ble_eq_true rfl), (Nat.le_of_ble_eq_true rfl), (Nat.le_of_ble_eq_true rfl), (Nat.le_of_ble_eq_true rfl)⟩ dX11_terms_54 ?_
          rintro _ h24 ⟨v26, rfl, hs25, ht⟩
          exact ab_iret rfl dX11_terms_57 (Nat.le_of_ble_eq_true rfl) (Nat.le_of_ble_eq_true rfl) ht
        · have ht := ht.2 c18
          refine ab_aload_n (i := 0) dX11_terms_26 rfl rfl ?_
          refine ab_iconst (v := (-1)) dX11_terms_27 (by decide) ?_
          refine ab_callV (b := 0) (As := [.int (-1)]) ht (Y_X11_refuse) l_X11_123 in_X11_refuse se_X11_refuse (sh_k hs 0 11 (by decide) rfl) (by decide) rfl rfl ⟨(Nat.le_of_ble_eq_true rfl), (Nat.le_of_ble_eq_true rfl), (Nat.le_of_ble_eq_true rfl), (Nat.le_of_ble_eq_true rfl)⟩ dX11_terms_28 ?_
          rintro _ h27 ⟨v29, rfl, hs28, ht⟩
          exact ab_iret rfl dX11_terms_31 (Nat.le_of_ble_eq_true rfl) (Nat.le_of_ble_eq_true rfl) ht
theorem dX11_feed_0 : decode cX11_feed 0 = .ok (.aload_n 0, 1) := by decide +kernel
theorem dX11_feed_1 : decode cX11_feed 1 = .ok (.getfield 96, 3) := by decide +kernel
theorem dX11_feed_4 : decode cX11_feed 4 = .ok (.bipush 20, 2) := by decide +kernel
theorem dX11_feed_6 : decode cX11_feed 6 = .ok (.iadd, 1) := by decide +kernel
theorem dX11_feed_7 : decode cX11_feed 7 = .ok (.sipush 400, 3) := by decide +kernel
theorem dX11_feed_10 : decode cX11_feed 10 = .ok (.if_icmp .le 5, 3) := by decide +kernel
theorem dX11_feed_13 : decode cX11_feed 13 = .ok (.iconst (-1), 1) := by decide +kernel
theorem dX11_feed_14 : decode cX11_feed 14 = .ok (.ireturn, 1) := by decide +kernel
theorem dX11_feed_15 : decode cX11_feed 15 = .ok (.aload_n 0, 1) := by decide +kernel
theorem dX11_feed_16 : decode cX11_feed 16 = .ok (.iload_n 1, 1) := by decide +kernel
theorem dX11_feed_17 : decode cX11_feed 17 = .ok (.invokevirtual 199, 3) := by decide +kernel
theorem dX11_feed_20 : decode cX11_feed 20 = .ok (.aload_n 0, 1) := by decide +kernel
theorem dX11_feed_21 : decode cX11_feed 21 = .ok (.iload_n 2, 1) := by decide +kernel
theorem dX11_feed_22 : decode cX11_feed 22 = .ok (.invokevirtual 199, 3) := by decide +kernel
theorem dX11_feed_25 : decode cX11_feed 25 = .ok (.aload_n 0, 1) := by decide +kernel
theorem dX11_feed_26 : decode cX11_feed 26 = .ok (.iload_n 3, 1) := by decide +kernel
theorem dX11_feed_27 : decode cX11_feed 27 = .ok (.invokevirtual 199, 3) := by decide +kernel
theorem dX11_feed_30 : decode cX11_feed 30 = .ok (.aload_n 0, 1) := by decide +kernel
theorem dX11_feed_31 : decode cX11_feed 31 = .ok (.iload 4, 2) := by decide +kernel
theorem dX11_feed_33 : decode cX11_feed 33 = .ok (.invokevirtual 199, 3) := by decide +kernel
theorem dX11_feed_36 : decode cX11_feed 36 = .ok (.aload_n 0, 1) := by decide +kernel
theorem dX11_feed_37 : decode cX11_feed 37 = .ok (.iload 5, 2) := by decide +kernel
theorem dX11_feed_39 : decode cX11_feed 39 = .ok (.invokevirtual 199, 3) := by decide +kernel
theorem dX11_feed_42 : decode cX11_feed 42 = .ok (.aload_n 0, 1) := by decide +kernel
theorem dX11_feed_43 : decode cX11_feed 43 = .ok (.getfield 96, 3) := by decide +kernel
theorem dX11_feed_46 : decode cX11_feed 46 = .ok (.ireturn, 1) := by decide +kernel
set_option maxRecDepth 20000 in
theorem T_X11_feed {Q : Option Value → ah_T → Prop} {h : ah_T} (hs : Sh h) (x1 : Int32) (x2 : Int32) (x3 : Int32) (x4 : Int32) (x5 : Int32) (ht : ((((ah_i h 0 13) + 20) ≤ 400 → (Mt mX11_write [.ref 0, .int x1] h (ab_qv fun h2 => Sh h2 ∧ (Mt mX11_write [.ref 0, .int x2] h2 (ab_qv fun h5 => Sh h5 ∧ (Mt mX11_write [.ref 0, .int x3] h5 (ab_qv fun h8 => Sh h8 ∧ (Mt mX11_write [.ref 0, .int x4] h8 (ab_qv fun h11 => Sh h11 ∧ (Mt mX11_write [.ref 0, .int x5] h11 (ab_qv fun h14 => Sh h14 ∧ Q (some (.int (ah_i h14 0 13))) h14))))))))))) ∧ (¬ ((ah_i h 0 13) + 20) ≤ 400 → Q (some (.int (-1))) h))) : Mt mX11_feed [.ref 0, .int x1, .int x2, .int x3, .int x4, .int x5] h Q := by
  refine Mt.ofWp rfl (by exact (Nat.le_of_ble_eq_true rfl)) (Wp.fewer (L' := [some (.ref 0), some (.int x1), some (.int x2), some (.int x3), some (.int x4), some (.int x5)]) (show ab_leL _ _ from ⟨rfl, ⟨rfl, ⟨rfl, ⟨rfl, ⟨rfl, ⟨rfl, trivial⟩⟩⟩⟩⟩⟩) ?_)
  refine ab_aload_n (i := 0) dX11_feed_0 rfl rfl ?_
  refine ab_getI f_X11_96 rfl (sh_k hs 0 11 (by decide) rfl) dX11_feed_1 ?_
  refine ab_bipush (v := 20) dX11_feed_4 (by decide) ?_
  refine ab_iadd dX11_feed_6 ?_
  refine ab_sipush (v := 400) dX11_feed_7 (by decide) ?_
  refine ab_icmp_le (tgt := 15) dX11_feed_10 (by decide) (fun c1 => ?_) (fun c1 => ?_)
  · have ht := ht.1 c1
    refine ab_aload_n (i := 0) dX11_feed_15 rfl rfl ?_
    refine ab_iload_n (i := 1) dX11_feed_16 rfl rfl ?_
    refine ab_callV (b := 0) (As := [.int x1]) ht (Y_X11_write) l_X11_199 in_X11_write se_X11_write (sh_k hs 0 11 (by decide) rfl) (by decide) rfl rfl ⟨(Nat.le_of_ble_eq_true rfl), (Nat.le_of_ble_eq_true rfl), (Nat.le_of_ble_eq_true rfl), (Nat.le_of_ble_eq_true rfl)⟩ dX11_feed_17 ?_
    rintro _ h2 ⟨rfl, hs3, ht⟩
    refine ab_aload_n (i := 0) dX11_feed_20 rfl rfl ?_
    refine ab_iload_n (i := 2) dX11_feed_21 rfl rfl ?_
    refine ab_callV (b := 0) (As := [.int x2]) ht (Y_X11_write) l_X11_199 in_X11_write se_X11_write (sh_k hs3 0 11 (by decide) rfl) (by decide) rfl rfl ⟨(Nat.le_of_ble_eq_true rfl), (Nat.le_of_ble_eq_true rfl), (Nat.le_of_ble_eq_true rfl), (Nat.le_of_ble_eq_true rfl)⟩ dX11_feed_22 ?_
    rintro _ h5 ⟨rfl, hs6, ht⟩
    refine ab_aload_n (i := 0) dX11_feed_25 rfl rfl ?_
    refine ab_iload_n (i := 3) dX11_feed_26 rfl rfl ?_
    refine ab_callV (b := 0) (As := [.int x3]) ht (Y_X11_write) l_X11_199 in_X11_write se_X11_write (sh_k hs6 0 11 (by decide) rfl) (by decide) rfl rfl ⟨(Nat.le_of_ble_eq_true rfl), (Nat.le_of_ble_eq_true rfl), (Nat.le_of_ble_eq_true rfl), (Nat.le_of_ble_eq_true rfl)⟩ dX11_feed_27 ?_
    rintro _ h8 ⟨rfl, hs9, ht⟩
    refine ab_aload_n (i := 0) dX11_feed_30 rfl rfl ?_
    refine ab_iload (i := 4) dX11_feed_31 rfl ?_
    refine ab_callV (b := 0) (As := [.int x4]) ht (Y_X11_write) l_X11_199 in_X11_write se_X11_write (sh_k hs9 0 11 (by decide) rfl) (by decide) rfl rfl ⟨(Nat.le_of_ble_eq_true rfl), (Nat.le_of_ble_eq_true rfl), (Nat.le_of_ble_eq_true rfl), (Nat.le_of_ble_eq_true rfl)⟩ dX11_feed_33 ?_
    rintro _ h11 ⟨rfl, hs12, ht⟩
    refine ab_aload_n (i := 0) dX11_feed_36 rfl rfl ?_
    refine ab_iload (i := 5) dX11_feed_37 rfl ?_
    refine ab_callV (b := 0) (As := [.int x5]) ht (Y_X11_write) l_X11_199 in_X11_write se_X11_write (sh_k hs12 0 11 (by decide) rfl) (by decide) rfl rfl ⟨(Nat.le_of_ble_eq_true rfl), (Nat.le_of_ble_eq_true rfl), (Nat.le_of_ble_eq_true rfl), (Nat.le_of_ble_eq_true rfl)⟩ dX11_feed_39 ?_
    rintro _ h14 ⟨rfl, hs15, ht⟩
    refine ab_aload_n (i := 0) dX11_feed_42 rfl rfl ?_
    refine ab_getI f_X11_96 rfl (sh_k hs15 0 11 (by decide) rfl) dX11_feed_43 ?_
    exact ab_iret rfl dX11_feed_46 (Nat.le_of_ble_eq_true rfl) (Nat.le_of_ble_eq_true rfl) ht
  · have ht := ht.2 c1
    refine ab_iconst (v := (-1)) dX11_feed_13 (by decide) ?_
    exact ab_iret rfl dX11_feed_14 (Nat.le_of_ble_eq_true rfl) (Nat.le_of_ble_eq_true rfl) ht
theorem dX11_end_0 : decode cX11_end 0 = .ok (.iload_n 1, 1) := by decide +kernel
theorem dX11_end_1 : decode cX11_end 1 = .ok (.ifCond .lt 11, 3) := by decide +kernel
theorem dX11_end_4 : decode cX11_end 4 = .ok (.iload_n 1, 1) := by decide +kernel
theorem dX11_end_5 : decode cX11_end 5 = .ok (.aload_n 0, 1) := by decide +kernel
theorem dX11_end_6 : decode cX11_end 6 = .ok (.getfield 96, 3) := by decide +kernel
theorem dX11_end_9 : decode cX11_end 9 = .ok (.if_icmp .le 5, 3) := by decide +kernel
theorem dX11_end_12 : decode cX11_end 12 = .ok (.iconst (-1), 1) := by decide +kernel
theorem dX11_end_13 : decode cX11_end 13 = .ok (.ireturn, 1) := by decide +kernel
theorem dX11_end_14 : decode cX11_end 14 = .ok (.aload_n 0, 1) := by decide +kernel
theorem dX11_end_15 : decode cX11_end 15 = .ok (.iload_n 1, 1) := by decide +kernel
theorem dX11_end_16 : decode cX11_end 16 = .ok (.putfield 96, 3) := by decide +kernel
theorem dX11_end_19 : decode cX11_end 19 = .ok (.iload_n 1, 1) := by decide +kernel
theorem dX11_end_20 : decode cX11_end 20 = .ok (.ireturn, 1) := by decide +kernel
set_option maxRecDepth 20000 in
theorem T_X11_end {Q : Option Value → ah_T → Prop} {h : ah_T} (hs : Sh h) (x1 : Int32) (ht : ((x1 < 0 → Q (some (.int (-1))) h) ∧ (¬ x1 < 0 → ((x1 ≤ (ah_i h 0 13) → (∀ h3, h3 = ah_si h 0 13 x1 → Q (some (.int x1)) h3)) ∧ (¬ x1 ≤ (ah_i h 0 13) → Q (some (.int (-1))) h))))) : Mt mX11_end [.ref 0, .int x1] h Q := by
  refine Mt.ofWp rfl (by exact (Nat.le_of_ble_eq_true rfl)) (Wp.fewer (L' := [some (.ref 0), some (.int x1)]) (show ab_leL _ _ from ⟨rfl, ⟨rfl, trivial⟩⟩) ?_)
  refine ab_iload_n (i := 1) dX11_end_0 rfl rfl ?_
  refine ab_if_lt (tgt := 12) dX11_end_1 (by decide) (fun c1 => ?_) (fun c1 => ?_)
  · have ht := ht.1 c1
    refine ab_iconst (v := (-1)) dX11_end_12 (by decide) ?_
    exact ab_iret rfl dX11_end_13 (Nat.le_of_ble_eq_true rfl) (Nat.le_of_ble_eq_true rfl) ht
  · have ht := ht.2 c1
    refine ab_iload_n (i := 1) dX11_end_4 rfl rfl ?_
    refine ab_aload_n (i := 0) dX11_end_5 rfl rfl ?_
    refine ab_getI f_X11_96 rfl (sh_k hs 0 11 (by decide) rfl) dX11_end_6 ?_
    refine ab_icmp_le (tgt := 14) dX11_end_9 (by decide) (fun c2 => ?_) (fun c2 => ?_)
    · have ht := ht.1 c2
      refine ab_aload_n (i := 0) dX11_end_14 rfl rfl ?_
      refine ab_iload_n (i := 1) dX11_end_15 rfl rfl ?_
      refine ab_putI f_X11_96 (Or.inl rfl) rfl (sh_k hs 0 11 (by decide) rfl) rfl rfl dX11_end_16 ?_
      refine Wp.nm fun h3 e4 => ?_
      have ht := ht h3 e4
      have hs5 : Sh h3 := by rw [e4]; exact sh_si hs
      refine ab_iload_n (i := 1) dX11_end_19 rfl rfl ?_
      exact ab_iret rfl dX11_end_20 (Nat.le_of_ble_eq_true rfl) (Nat.le_of_ble_eq_true rfl) ht
    · have ht := ht.2 c2
      refine ab_iconst (v := (-1)) dX11_end_12 (by decide) ?_
      exact ab_iret rfl dX11_end_13 (Nat.le_of_ble_eq_true rfl) (Nat.le_of_ble_eq_true rfl) ht
theorem dX11_row_0 : decode cX11_row 0 = .ok (.aload_n 0, 1) := by decide +kernel
theorem dX11_row_1 : decode cX11_row 1 = .ok (.invokevirtual 203, 3) := by decide +kernel
theorem dX11_row_4 : decode cX11_row 4 = .ok (.istore_n 1, 1) := by decide +kernel
theorem dX11_row_5 : decode cX11_row 5 = .ok (.iload_n 1, 1) := by decide +kernel
theorem dX11_row_6 : decode cX11_row 6 = .ok (.ifCond .ne 10, 3) := by decide +kernel
theorem dX11_row_9 : decode cX11_row 9 = .ok (.aload_n 0, 1) := by decide +kernel
theorem dX11_row_10 : decode cX11_row 10 = .ok (.bipush (-6), 2) := by decide +kernel
theorem dX11_row_12 : decode cX11_row 12 = .ok (.invokevirtual 123, 3) := by decide +kernel
theorem dX11_row_15 : decode cX11_row 15 = .ok (.ireturn, 1) := by decide +kernel
theorem dX11_row_16 : decode cX11_row 16 = .ok (.aload_n 0, 1) := by decide +kernel
theorem dX11_row_17 : decode cX11_row 17 = .ok (.getfield 10, 3) := by decide +kernel
theorem dX11_row_20 : decode cX11_row 20 = .ok (.getfield 184, 3) := by decide +kernel
theorem dX11_row_23 : decode cX11_row 23 = .ok (.getfield 187, 3) := by decide +kernel
theorem dX11_row_26 : decode cX11_row 26 = .ok (.istore_n 2, 1) := by decide +kernel
theorem dX11_row_27 : decode cX11_row 27 = .ok (.iload_n 1, 1) := by decide +kernel
theorem dX11_row_28 : decode cX11_row 28 = .ok (.iconst 3, 1) := by decide +kernel
theorem dX11_row_29 : decode cX11_row 29 = .ok (.irem, 1) := by decide +kernel
theorem dX11_row_30 : decode cX11_row 30 = .ok (.ifCond .ne 7, 3) := by decide +kernel
theorem dX11_row_33 : decode cX11_row 33 = .ok (.iconst 0, 1) := by decide +kernel
theorem dX11_row_34 : decode cX11_row 34 = .ok (.goto 4, 3) := by decide +kernel
theorem dX11_row_37 : decode cX11_row 37 = .ok (.iconst 1, 1) := by decide +kernel
theorem dX11_row_38 : decode cX11_row 38 = .ok (.istore_n 3, 1) := by decide +kernel
theorem dX11_row_39 : decode cX11_row 39 = .ok (.iconst 0, 1) := by decide +kernel
theorem dX11_row_40 : decode cX11_row 40 = .ok (.istore 4, 2) := by decide +kernel
theorem dX11_row_42 : decode cX11_row 42 = .ok (.iload 4, 2) := by decide +kernel
theorem dX11_row_44 : decode cX11_row 44 = .ok (.iconst 2, 1) := by decide +kernel
theorem dX11_row_45 : decode cX11_row 45 = .ok (.iadd, 1) := by decide +kernel
theorem dX11_row_46 : decode cX11_row 46 = .ok (.iload_n 1, 1) := by decide +kernel
theorem dX11_row_47 : decode cX11_row 47 = .ok (.if_icmp .ge 57, 3) := by decide +kernel
theorem dX11_row_50 : decode cX11_row 50 = .ok (.iload 4, 2) := by decide +kernel
theorem dX11_row_52 : decode cX11_row 52 = .ok (.iconst 2, 1) := by decide +kernel
theorem dX11_row_53 : decode cX11_row 53 = .ok (.iadd, 1) := by decide +kernel
theorem dX11_row_54 : decode cX11_row 54 = .ok (.sipush 400, 3) := by decide +kernel
theorem dX11_row_57 : decode cX11_row 57 = .ok (.if_icmp .ge 47, 3) := by decide +kernel
theorem dX11_row_60 : decode cX11_row 60 = .ok (.aload_n 0, 1) := by decide +kernel
theorem dX11_row_61 : decode cX11_row 61 = .ok (.getfield 10, 3) := by decide +kernel
theorem dX11_row_64 : decode cX11_row 64 = .ok (.aload_n 0, 1) := by decide +kernel
theorem dX11_row_65 : decode cX11_row 65 = .ok (.getfield 20, 3) := by decide +kernel
theorem dX11_row_68 : decode cX11_row 68 = .ok (.iload 4, 2) := by decide +kernel
theorem dX11_row_70 : decode cX11_row 70 = .ok (.iaload, 1) := by decide +kernel
theorem dX11_row_71 : decode cX11_row 71 = .ok (.aload_n 0, 1) := by decide +kernel
theorem dX11_row_72 : decode cX11_row 72 = .ok (.getfield 20, 3) := by decide +kernel
theorem dX11_row_75 : decode cX11_row 75 = .ok (.iload 4, 2) := by decide +kernel
theorem dX11_row_77 : decode cX11_row 77 = .ok (.iconst 1, 1) := by decide +kernel
theorem dX11_row_78 : decode cX11_row 78 = .ok (.iadd, 1) := by decide +kernel
theorem dX11_row_79 : decode cX11_row 79 = .ok (.iaload, 1) := by decide +kernel
theorem dX11_row_80 : decode cX11_row 80 = .ok (.aload_n 0, 1) := by decide +kernel
theorem dX11_row_81 : decode cX11_row 81 = .ok (.getfield 20, 3) := by decide +kernel
theorem dX11_row_84 : decode cX11_row 84 = .ok (.iload 4, 2) := by decide +kernel
theorem dX11_row_86 : decode cX11_row 86 = .ok (.iconst 2, 1) := by decide +kernel
theorem dX11_row_87 : decode cX11_row 87 = .ok (.iadd, 1) := by decide +kernel
theorem dX11_row_88 : decode cX11_row 88 = .ok (.iaload, 1) := by decide +kernel
theorem dX11_row_89 : decode cX11_row 89 = .ok (.invokevirtual 181, 3) := by decide +kernel
theorem dX11_row_92 : decode cX11_row 92 = .ok (.ifCond .eq 6, 3) := by decide +kernel
theorem dX11_row_95 : decode cX11_row 95 = .ok (.iinc 3 1, 3) := by decide +kernel
theorem dX11_row_98 : decode cX11_row 98 = .ok (.iinc 4 3, 3) := by decide +kernel
theorem dX11_row_101 : decode cX11_row 101 = .ok (.goto (-59), 3) := by decide +kernel
theorem dX11_row_104 : decode cX11_row 104 = .ok (.aload_n 0, 1) := by decide +kernel
theorem dX11_row_105 : decode cX11_row 105 = .ok (.iload_n 3, 1) := by decide +kernel
theorem dX11_row_106 : decode cX11_row 106 = .ok (.putfield 103, 3) := by decide +kernel
theorem dX11_row_109 : decode cX11_row 109 = .ok (.aload_n 0, 1) := by decide +kernel
theorem dX11_row_110 : decode cX11_row 110 = .ok (.aload_n 0, 1) := by decide +kernel
theorem dX11_row_111 : decode cX11_row 111 = .ok (.getfield 10, 3) := by decide +kernel
theorem dX11_row_114 : decode cX11_row 114 = .ok (.getfield 184, 3) := by decide +kernel
theorem dX11_row_117 : decode cX11_row 117 = .ok (.getfield 187, 3) := by decide +kernel
theorem dX11_row_120 : decode cX11_row 120 = .ok (.iload_n 2, 1) := by decide +kernel
theorem dX11_row_121 : decode cX11_row 121 = .ok (.isub, 1) := by decide +kernel
theorem dX11_row_122 : decode cX11_row 122 = .ok (.invokevirtual 153, 3) := by decide +kernel
theorem dX11_row_125 : decode cX11_row 125 = .ok (.ireturn, 1) := by decide +kernel
set_option maxRecDepth 20000 in
theorem T_X11_row_42 {Q : Option Value → ah_T → Prop} {h : ah_T} (hs : Sh h) (x1 : Int32) (x2 : Int32) (x3 : Int32) (x4 : Int32) (ht : ((x1 ≤ (x4 + 2) → (∀ h10, h10 = ah_si h 0 15 x3 → (Mt mX11_change [.ref 0, .int ((ah_i h10 6 3) - x2)] h10 (ab_qi fun v15 h13 => Sh h13 ∧ Q (some (.int v15)) h13)))) ∧ (¬ x1 ≤ (x4 + 2) → ((400 ≤ (x4 + 2) → (∀ h17, h17 = ah_si h 0 15 x3 → (Mt mX11_change [.ref 0, .int ((ah_i h17 6 3) - x2)] h17 (ab_qi fun v22 h20 => Sh h20 ∧ Q (some (.int v22)) h20)))) ∧ (¬ 400 ≤ (x4 + 2) → (vp_in x4 (ah_n h 17)) ∧ (vp_in (x4 + 1) (ah_n h 17)) ∧ (vp_in (x4 + 2) (ah_n h 17)) ∧ (Mt mX10_tell [.ref 1, .int (ah_i h 17 (Int32.toNatClampNeg x4)), .int (ah_i h 17 (Int32.toNatClampNeg (x4 + 1))), .int (ah_i h 17 (Int32.toNatClampNeg (x4 + 2)))] h (ab_qi fun v28 h26 => Sh h26 ∧ ((v28 = 0 → Wp mX11_row Q 0 0 42 [some (.ref 0), some (.int x1), some (.int x2), some (.int x3), some (.int (x4 + 3))] [] h26) ∧ (¬ v28 = 0 → Wp mX11_row Q 0 0 42 [some (.ref 0), some (.int x1), some (.int x2), some (.int (x3 + 1)), some (.int (x4 + 3))] [] h26))))))))) : Wp mX11_row Q 0 0 42 [some (.ref 0), some (.int x1), some (.int x2), some (.int x3), some (.int x4)] [] h := by
  refine ab_iload (i := 4) dX11_row_42 rfl ?_
  refine ab_iconst (v := 2) dX11_row_44 (by decide) ?_
  refine ab_iadd dX11_row_45 ?_
  refine ab_iload_n (i := 1) dX11_row_46 rfl rfl ?_
  refine ab_icmp_ge (tgt := 104) dX11_row_47 (by decide) (fun c9 => ?_) (fun c9 => ?_)
  · have ht := ht.1 c9
    refine ab_aload_n (i := 0) dX11_row_104 rfl rfl ?_
    refine ab_iload_n (i := 3) dX11_row_105 rfl rfl ?_
    refine ab_putI f_X11_103 (Or.inl rfl) rfl (sh_k hs 0 11 (by decide) rfl) rfl rfl dX11_row_106 ?_
    refine Wp.nm fun h10 e11 => ?_
    have ht := ht h10 e11
    have hs12 : Sh h10 := by rw [e11]; exact sh_si hs
    refine ab_aload_n (i := 0) dX11_row_109 rfl rfl ?_
    refine ab_aload_n (i := 0) dX11_row_110 rfl rfl ?_
    refine ab_getR (b := 1) f_X11_10 rfl (sh_k hs12 0 11 (by decide) rfl) (sh_r hs12 0 rfl) dX11_row_111 ?_
    refine ab_getR (b := 6) f_X11_184 rfl (sh_k hs12 1 10 (by decide) rfl) (sh_r hs12 15 rfl) dX11_row_114 ?_
    refine ab_getI f_X11_187 rfl (sh_k hs12 6 7 (by decide) rfl) dX11_row_117 ?_
    refine ab_iload_n (i := 2) dX11_row_120 rfl rfl ?_
    refine ab_isub dX11_row_121 ?_
    refine ab_callV (b := 0) (As := [.int ((ah_i h10 6 3) - x2)]) ht (Y_X11_change) l_X11_153 in_X11_change se_X11_change (sh_k hs12 0 11 (by decide) rfl) (by decide) rfl rfl ⟨(Nat.le_of_ble_eq_true rfl), (Nat.le_of_ble_eq_true rfl), (Nat.le_of_ble_eq_true rfl), (Nat.le_of_ble_eq_true rfl)⟩ dX11_row_122 ?_
    rintro _ h13 ⟨v15, rfl, hs14, ht⟩
    exact ab_iret rfl dX11_row_125 (Nat.le_of_ble_eq_true rfl) (Nat.le_of_ble_eq_true rfl) ht
  · have ht := ht.2 c9
    refine ab_iload (i := 4) dX11_row_50 rfl ?_
    refine ab_iconst (v := 2) dX11_row_52 (by decide) ?_
    refine ab_iadd dX11_row_53 ?_
    refine ab_sipush (v := 400) dX11_row_54 (by decide) ?_
    refine ab_icmp_ge (tgt := 104) dX11_row_57 (by decide) (fun c16 => ?_) (fun c16 => ?_)
    · have ht := ht.1 c16
      refine ab_aload_n (i := 0) dX11_row_104 rfl rfl ?_
      refine ab_iload_n (i := 3) dX11_row_105 rfl rfl ?_
      refine ab_putI f_X11_103 (Or.inl rfl) rfl (sh_k hs 0 11 (by decide) rfl) rfl rfl dX11_row_106 ?_
      refine Wp.nm fun h17 e18 => ?_
      have ht := ht h17 e18
      have hs19 : Sh h17 := by rw [e18]; exact sh_si hs
      refine ab_aload_n (i := 0) dX11_row_109 rfl rfl ?_
      refine ab_aload_n (i := 0) dX11_row_110 rfl rfl ?_
      refine ab_getR (b := 1) f_X11_10 rfl (sh_k hs19 0 11 (by decide) rfl) (sh_r hs19 0 rfl) dX11_row_111 ?_
      refine ab_getR (b := 6) f_X11_184 rfl (sh_k hs19 1 10 (by decide) rfl) (sh_r hs19 15 rfl) dX11_row_114 ?_
      refine ab_getI f_X11_187 rfl (sh_k hs19 6 7 (by decide) rfl) dX11_row_117 ?_
      refine ab_iload_n (i := 2) dX11_row_120 rfl rfl ?_
      refine ab_isub dX11_row_121 ?_
      refine ab_callV (b := 0) (As := [.int ((ah_i h17 6 3) - x2)]) ht (Y_X11_change) l_X11_153 in_X11_change se_X11_change (sh_k hs19 0 11 (by decide) rfl) (by decide) rfl rfl ⟨(Nat.le_of_ble_eq_true rfl), (Nat.le_of_ble_eq_true rfl), (Nat.le_of_ble_eq_true rfl), (Nat.le_of_ble_eq_true rfl)⟩ dX11_row_122 ?_
      rintro _ h20 ⟨v22, rfl, hs21, ht⟩
      exact ab_iret rfl dX11_row_125 (Nat.le_of_ble_eq_true rfl) (Nat.le_of_ble_eq_true rfl) ht
    · have ht := ht.2 c16
      refine ab_aload_n (i := 0) dX11_row_60 rfl rfl ?_
      refine ab_getR (b := 1) f_X11_10 rfl (sh_k hs 0 11 (by decide) rfl) (sh_r hs 0 rfl) dX11_row_61 ?_
      refine ab_aload_n (i := 0) dX11_row_64 rfl rfl ?_
      refine ab_getR (b := 17) f_X11_20 rfl (sh_k hs 0 11 (by decide) rfl) (sh_r hs 2 rfl) dX11_row_65 ?_
      refine ab_iload (i := 4) dX11_row_68 rfl ?_
      obtain ⟨hc23, ht⟩ := ht
      refine ab_iald (sh_k hs 17 14 (by decide) rfl) hc23 dX11_row_70 ?_
      refine ab_aload_n (i := 0) dX11_row_71 rfl rfl ?_
      refine ab_getR (b := 17) f_X11_20 rfl (sh_k hs 0 11 (by decide) rfl) (sh_r hs 2 rfl) dX11_row_72 ?_
      refine ab_iload (i := 4) dX11_row_75 rfl ?_
      refine ab_iconst (v := 1) dX11_row_77 (by decide) ?_
      refine ab_iadd dX11_row_78 ?_
      obtain ⟨hc24, ht⟩ := ht
      refine ab_iald (sh_k hs 17 14 (by decide) rfl) hc24 dX11_row_79 ?_
      refine ab_aload_n (i := 0) dX11_row_80 rfl rfl ?_
      refine ab_getR (b := 17) f_X11_20 rfl (sh_k hs 0 11 (by decide) rfl) (sh_r hs 2 rfl) dX11_row_81 ?_
      refine ab_iload (i := 4) dX11_row_84 rfl ?_
      refine ab_iconst (v := 2) dX11_row_86 (by decide) ?_
      refine ab_iadd dX11_row_87 ?_
      obtain ⟨hc25, ht⟩ := ht
      refine ab_iald (sh_k hs 17 14 (by decide) rfl) hc25 dX11_row_88 ?_
      refine ab_callV (b := 1) (As := [.int (ah_i h 17 (Int32.toNatClampNeg x4)), .int (ah_i h 17 (Int32.toNatClampNeg (x4 + 1))), .int (ah_i h 17 (Int32.toNatClampNeg (x4 + 2)))]) ht (Y_X10_tell) l_X11_181 in_X10_tell se_X10_tell (sh_k hs 1 10 (by decide) rfl) (by decide) rfl rfl ⟨(Nat.le_of_ble_eq_true rfl), (Nat.le_of_ble_eq_true rfl), (Nat.le_of_ble_eq_true rfl), (Nat.le_of_ble_eq_true rfl)⟩ dX11_row_89 ?_
      rintro _ h26 ⟨v28, rfl, hs27, ht⟩
      refine ab_if_eq (tgt := 98) dX11_row_92 (by decide) (fun c29 => ?_) (fun c29 => ?_)
      · have ht := ht.1 c29
        refine ab_iinc (i := 4) (x := x4) (v := (x4 + 3)) (L' := [some (.ref 0), some (.int x1), some (.int x2), some (.int x3), some (.int (x4 + 3))]) dX11_row_98 rfl rfl (by exact (Nat.le_of_ble_eq_true rfl)) rfl rfl ?_
        refine ab_goto (tgt := 42) dX11_row_101 (by decide) ?_
        exact Wp.fewer (L' := [some (.ref 0), some (.int x1), some (.int x2), some (.int x3), some (.int (x4 + 3))]) (show ab_leL _ _ from ⟨rfl, ⟨rfl, ⟨rfl, ⟨rfl, ⟨rfl, trivial⟩⟩⟩⟩⟩) ht
      · have ht := ht.2 c29
        refine ab_iinc (i := 3) (x := x3) (v := (x3 + 1)) (L' := [some (.ref 0), some (.int x1), some (.int x2), some (.int (x3 + 1)), some (.int x4)]) dX11_row_95 rfl rfl (by exact (Nat.le_of_ble_eq_true rfl)) rfl rfl ?_
        refine ab_iinc (i := 4) (x := x4) (v := (x4 + 3)) (L' := [some (.ref 0), some (.int x1), some (.int x2), some (.int (x3 + 1)), some (.int (x4 + 3))]) dX11_row_98 rfl rfl (by exact (Nat.le_of_ble_eq_true rfl)) rfl rfl ?_
        refine ab_goto (tgt := 42) dX11_row_101 (by decide) ?_
        exact Wp.fewer (L' := [some (.ref 0), some (.int x1), some (.int x2), some (.int (x3 + 1)), some (.int (x4 + 3))]) (show ab_leL _ _ from ⟨rfl, ⟨rfl, ⟨rfl, ⟨rfl, ⟨rfl, trivial⟩⟩⟩⟩⟩) ht
set_option maxRecDepth 20000 in
theorem T_X11_row {Q : Option Value → ah_T → Prop} {h : ah_T} (hs : Sh h)  (ht : (Mt mX11_takeTape [.ref 0] h (ab_qi fun v3 h1 => Sh h1 ∧ ((¬ v3 = 0 → ((¬ (v3 - v3 / 3 * 3) = 0 → Wp mX11_row Q 0 0 42 [some (.ref 0), some (.int v3), some (.int (ah_i h1 6 3)), some (.int 1), some (.int 0)] [] h1) ∧ ((v3 - v3 / 3 * 3) = 0 → Wp mX11_row Q 0 0 42 [some (.ref 0), some (.int v3), some (.int (ah_i h1 6 3)), some (.int 0), some (.int 0)] [] h1))) ∧ (v3 = 0 → (Mt mX11_refuse [.ref 0, .int (-6)] h1 (ab_qi fun v8 h6 => Sh h6 ∧ Q (some (.int v8)) h6))))))) : Mt mX11_row [.ref 0] h Q := by
  refine Mt.ofWp rfl (by exact (Nat.le_of_ble_eq_true rfl)) (Wp.fewer (L' := [some (.ref 0), none, none, none, none]) (show ab_leL _ _ from ⟨rfl, trivial⟩) ?_)
  refine ab_aload_n (i := 0) dX11_row_0 rfl rfl ?_
  refine ab_callV (b := 0) (As := []) ht (Y_X11_takeTape) l_X11_203 in_X11_takeTape se_X11_takeTape (sh_k hs 0 11 (by decide) rfl) (by decide) rfl rfl ⟨(Nat.le_of_ble_eq_true rfl), (Nat.le_of_ble_eq_true rfl), (Nat.le_of_ble_eq_true rfl), (Nat.le_of_ble_eq_true rfl)⟩ dX11_row_1 ?_
  rintro _ h1 ⟨v3, rfl, hs2, ht⟩
  refine ab_istore_n (i := 1) (L' := [some (.ref 0), some (.int v3), none, none, none]) dX11_row_4 rfl (by exact (Nat.le_of_ble_eq_true rfl)) rfl rfl ?_
  refine ab_iload_n (i := 1) dX11_row_5 rfl rfl ?_
  refine ab_if_ne (tgt := 16) dX11_row_6 (by decide) (fun c4 => ?_) (fun c4 => ?_)
  · have ht := ht.1 c4
    refine ab_aload_n (i := 0) dX11_row_16 rfl rfl ?_
    refine ab_getR (b := 1) f_X11_10 rfl (sh_k hs2 0 11 (by decide) rfl) (sh_r hs2 0 rfl) dX11_row_17 ?_
    refine ab_getR (b := 6) f_X11_184 rfl (sh_k hs2 1 10 (by decide) rfl) (sh_r hs2 15 rfl) dX11_row_20 ?_
    refine ab_getI f_X11_187 rfl (sh_k hs2 6 7 (by decide) rfl) dX11_row_23 ?_
    refine ab_istore_n (i := 2) (L' := [some (.ref 0), some (.int v3), some (.int (ah_i h1 6 3)), none, none]) dX11_row_26 rfl (by exact (Nat.le_of_ble_eq_true rfl)) rfl rfl ?_
    refine ab_iload_n (i := 1) dX11_row_27 rfl rfl ?_
    refine ab_iconst (v := 3) dX11_row_28 (by decide) ?_
    refine ab_irem dX11_row_29 (by decide) ?_
    refine ab_if_ne (tgt := 37) dX11_row_30 (by decide) (fun c5 => ?_) (fun c5 => ?_)
    · have ht := ht.1 c5
      refine ab_iconst (v := 1) dX11_row_37 (by decide) ?_
      refine ab_istore_n (i := 3) (L' := [some (.ref 0), some (.int v3), some (.int (ah_i h1 6 3)), some (.int 1), none]) dX11_row_38 rfl (by exact (Nat.le_of_ble_eq_true rfl)) rfl rfl ?_
      refine ab_iconst (v := 0) dX11_row_39 (by decide) ?_
      refine ab_istore (i := 4) (L' := [some (.ref 0), some (.int v3), some (.int (ah_i h1 6 3)), some (.int 1), some (.int 0)]) dX11_row_40 (by exact (Nat.le_of_ble_eq_true rfl)) rfl rfl ?_
      exact Wp.fewer (L' := [some (.ref 0), some (.int v3), some (.int (ah_i h1 6 3)), some (.int 1), some (.int 0)]) (show ab_leL _ _ from ⟨rfl, ⟨rfl, ⟨rfl, ⟨rfl, ⟨rfl, trivial⟩⟩⟩⟩⟩) ht
    · have ht := ht.2 c5
      refine ab_iconst (v := 0) dX11_row_33 (by decide) ?_
      refine ab_goto (tgt := 38) dX11_row_34 (by decide) ?_
      refine ab_istore_n (i := 3) (L' := [some (.ref 0), some (.int v3), some (.int (ah_i h1 6 3)), some (.int 0), none]) dX11_row_38 rfl (by exact (Nat.le_of_ble_eq_true rfl)) rfl rfl ?_
      refine ab_iconst (v := 0) dX11_row_39 (by decide) ?_
      refine ab_istore (i := 4) (L' := [some (.ref 0), some (.int v3), some (.int (ah_i h1 6 3)), some (.int 0), some (.int 0)]) dX11_row_40 (by exact (Nat.le_of_ble_eq_true rfl)) rfl rfl ?_
      exact Wp.fewer (L' := [some (.ref 0), some (.int v3), some (.int (ah_i h1 6 3)), some (.int 0), some (.int 0)]) (show ab_leL _ _ from ⟨rfl, ⟨rfl, ⟨rfl, ⟨rfl, ⟨rfl, trivial⟩⟩⟩⟩⟩) ht
  · have ht := ht.2 c4
    refine ab_aload_n (i := 0) dX11_row_9 rfl rfl ?_
    refine ab_bipush (v := (-6)) dX11_row_10 (by decide) ?_
    refine ab_callV (b := 0) (As := [.int (-6)]) ht (Y_X11_refuse) l_X11_123 in_X11_refuse se_X11_refuse (sh_k hs2 0 11 (by decide) rfl) (by decide) rfl rfl ⟨(Nat.le_of_ble_eq_true rfl), (Nat.le_of_ble_eq_true rfl), (Nat.le_of_ble_eq_true rfl), (Nat.le_of_ble_eq_true rfl)⟩ dX11_row_12 ?_
    rintro _ h6 ⟨v8, rfl, hs7, ht⟩
    exact ab_iret rfl dX11_row_15 (Nat.le_of_ble_eq_true rfl) (Nat.le_of_ble_eq_true rfl) ht
theorem dX11_law_0 : decode cX11_law 0 = .ok (.aload_n 0, 1) := by decide +kernel
theorem dX11_law_1 : decode cX11_law 1 = .ok (.invokevirtual 203, 3) := by decide +kernel
theorem dX11_law_4 : decode cX11_law 4 = .ok (.istore_n 1, 1) := by decide +kernel
theorem dX11_law_5 : decode cX11_law 5 = .ok (.aload_n 0, 1) := by decide +kernel
theorem dX11_law_6 : decode cX11_law 6 = .ok (.getfield 10, 3) := by decide +kernel
theorem dX11_law_9 : decode cX11_law 9 = .ok (.getfield 207, 3) := by decide +kernel
theorem dX11_law_12 : decode cX11_law 12 = .ok (.bipush 6, 2) := by decide +kernel
theorem dX11_law_14 : decode cX11_law 14 = .ok (.if_icmp .lt 10, 3) := by decide +kernel
theorem dX11_law_17 : decode cX11_law 17 = .ok (.aload_n 0, 1) := by decide +kernel
theorem dX11_law_18 : decode cX11_law 18 = .ok (.bipush (-5), 2) := by decide +kernel
theorem dX11_law_20 : decode cX11_law 20 = .ok (.invokevirtual 123, 3) := by decide +kernel
theorem dX11_law_23 : decode cX11_law 23 = .ok (.ireturn, 1) := by decide +kernel
theorem dX11_law_24 : decode cX11_law 24 = .ok (.aload_n 0, 1) := by decide +kernel
theorem dX11_law_25 : decode cX11_law 25 = .ok (.getfield 33, 3) := by decide +kernel
theorem dX11_law_28 : decode cX11_law 28 = .ok (.aload_n 0, 1) := by decide +kernel
theorem dX11_law_29 : decode cX11_law 29 = .ok (.getfield 20, 3) := by decide +kernel
theorem dX11_law_32 : decode cX11_law 32 = .ok (.iload_n 1, 1) := by decide +kernel
theorem dX11_law_33 : decode cX11_law 33 = .ok (.iconst 1, 1) := by decide +kernel
theorem dX11_law_34 : decode cX11_law 34 = .ok (.invokevirtual 210, 3) := by decide +kernel
theorem dX11_law_37 : decode cX11_law 37 = .ok (.astore_n 2, 1) := by decide +kernel
theorem dX11_law_38 : decode cX11_law 38 = .ok (.aload_n 0, 1) := by decide +kernel
theorem dX11_law_39 : decode cX11_law 39 = .ok (.aload_n 0, 1) := by decide +kernel
theorem dX11_law_40 : decode cX11_law 40 = .ok (.getfield 33, 3) := by decide +kernel
theorem dX11_law_43 : decode cX11_law 43 = .ok (.getfield 214, 3) := by decide +kernel
theorem dX11_law_46 : decode cX11_law 46 = .ok (.putfield 100, 3) := by decide +kernel
theorem dX11_law_49 : decode cX11_law 49 = .ok (.aload_n 2, 1) := by decide +kernel
theorem dX11_law_50 : decode cX11_law 50 = .ok (.ifnonnull 10, 3) := by decide +kernel
theorem dX11_law_53 : decode cX11_law 53 = .ok (.aload_n 0, 1) := by decide +kernel
theorem dX11_law_54 : decode cX11_law 54 = .ok (.bipush (-6), 2) := by decide +kernel
theorem dX11_law_56 : decode cX11_law 56 = .ok (.invokevirtual 123, 3) := by decide +kernel
theorem dX11_law_59 : decode cX11_law 59 = .ok (.ireturn, 1) := by decide +kernel
theorem dX11_law_60 : decode cX11_law 60 = .ok (.aload_n 0, 1) := by decide +kernel
theorem dX11_law_61 : decode cX11_law 61 = .ok (.aload_n 0, 1) := by decide +kernel
theorem dX11_law_62 : decode cX11_law 62 = .ok (.getfield 10, 3) := by decide +kernel
theorem dX11_law_65 : decode cX11_law 65 = .ok (.aload_n 2, 1) := by decide +kernel
theorem dX11_law_66 : decode cX11_law 66 = .ok (.invokevirtual 217, 3) := by decide +kernel
theorem dX11_law_69 : decode cX11_law 69 = .ok (.invokevirtual 153, 3) := by decide +kernel
theorem dX11_law_72 : decode cX11_law 72 = .ok (.ireturn, 1) := by decide +kernel
set_option maxRecDepth 20000 in
theorem T_X11_law {Q : Option Value → ah_T → Prop} {h : ah_T} (hs : Sh h)  (ht : (Mt mX11_takeTape [.ref 0] h (ab_qi fun v3 h1 => Sh h1 ∧ (((ah_i h1 1 8) < 6 → (Mt mX5_read [.ref 20, .ref 17, .int v3, .int 1] h1 (ab_qr fun v7 h5 => Sh h5 ∧ ((v7 = none → (∀ h10, h10 = ah_si h5 0 14 (ah_i h5 20 0) → (Mt mX11_refuse [.ref 0, .int (-6)] h10 (ab_qi fun v15 h13 => Sh h13 ∧ Q (some (.int v15)) h13)))) ∧ (∀ b8, v7 = some b8 → (ah_k h5 b8 = 9) ∧ (∀ h16, h16 = ah_si h5 0 14 (ah_i h5 20 0) → (Mt mX10_keepLaw [.ref 1, .ref b8] h16 (ab_qi fun v22 h20 => Sh h20 ∧ ah_k h20 b8 = 9 ∧ (Mt mX11_change [.ref 0, .int v22] h20 (ab_qi fun v26 h24 => Sh h24 ∧ ah_k h24 b8 = 9 ∧ Q (some (.int v26)) h24)))))))))) ∧ (¬ (ah_i h1 1 8) < 6 → (Mt mX11_refuse [.ref 0, .int (-5)] h1 (ab_qi fun v30 h28 => Sh h28 ∧ Q (some (.int v30)) h28))))))) : Mt mX11_law [.ref 0] h Q := by
  refine Mt.ofWp rfl (by exact (Nat.le_of_ble_eq_true rfl)) (Wp.fewer (L' := [some (.ref 0), none, none]) (show ab_leL _ _ from ⟨rfl, trivial⟩) ?_)
  refine ab_aload_n (i := 0) dX11_law_0 rfl rfl ?_
  refine ab_callV (b := 0) (As := []) ht (Y_X11_takeTape) l_X11_203 in_X11_takeTape se_X11_takeTape (sh_k hs 0 11 (by decide) rfl) (by decide) rfl rfl ⟨(Nat.le_of_ble_eq_true rfl), (Nat.le_of_ble_eq_true rfl), (Nat.le_of_ble_eq_true rfl), (Nat.le_of_ble_eq_true rfl)⟩ dX11_law_1 ?_
  rintro _ h1 ⟨v3, rfl, hs2, ht⟩
  refine ab_istore_n (i := 1) (L' := [some (.ref 0), some (.int v3), none]) dX11_law_4 rfl (by exact (Nat.le_of_ble_eq_true rfl)) rfl rfl ?_
  refine ab_aload_n (i := 0) dX11_law_5 rfl rfl ?_
  refine ab_getR (b := 1) f_X11_10 rfl (sh_k hs2 0 11 (by decide) rfl) (sh_r hs2 0 rfl) dX11_law_6 ?_
  refine ab_getI f_X11_207 rfl (sh_k hs2 1 10 (by decide) rfl) dX11_law_9 ?_
  refine ab_bipush (v := 6) dX11_law_12 (by decide) ?_
  refine ab_icmp_lt (tgt := 24) dX11_law_14 (by decide) (fun c4 => ?_) (fun c4 => ?_)
  · have ht := ht.1 c4
    refine ab_aload_n (i := 0) dX11_law_24 rfl rfl ?_
    refine ab_getR (b := 20) f_X11_33 rfl (sh_k hs2 0 11 (by decide) rfl) (sh_r hs2 5 rfl) dX11_law_25 ?_
    refine ab_aload_n (i := 0) dX11_law_28 rfl rfl ?_
    refine ab_getR (b := 17) f_X11_20 rfl (sh_k hs2 0 11 (by decide) rfl) (sh_r hs2 2 rfl) dX11_law_29 ?_
    refine ab_iload_n (i := 1) dX11_law_32 rfl rfl ?_
    refine ab_iconst (v := 1) dX11_law_33 (by decide) ?_
    refine ab_callV (b := 20) (As := [.ref 17, .int v3, .int 1]) ht (Y_X5_read) l_X11_210 in_X5_read se_X5_read (sh_k hs2 20 5 (by decide) rfl) (by decide) rfl rfl ⟨(Nat.le_of_ble_eq_true rfl), (Nat.le_of_ble_eq_true rfl), (Nat.le_of_ble_eq_true rfl), (Nat.le_of_ble_eq_true rfl)⟩ dX11_law_34 ?_
    rintro _ h5 ⟨v7, rfl, hs6, ht⟩
    rcases v7 with _ | b8
    · have ht := ht.1 rfl
      refine ab_astore_nN (i := 2) (L' := [some (.ref 0), some (.int v3), some (.null)]) dX11_law_37 rfl (by exact (Nat.le_of_ble_eq_true rfl)) rfl rfl ?_
      refine ab_aload_n (i := 0) dX11_law_38 rfl rfl ?_
      refine ab_aload_n (i := 0) dX11_law_39 rfl rfl ?_
      refine ab_getR (b := 20) f_X11_33 rfl (sh_k hs6 0 11 (by decide) rfl) (sh_r hs6 5 rfl) dX11_law_40 ?_
      refine ab_getI f_X11_214 rfl (sh_k hs6 20 5 (by decide) rfl) dX11_law_43 ?_
      refine ab_putI f_X11_100 (Or.inl rfl) rfl (sh_k hs6 0 11 (by decide) rfl) rfl rfl dX11_law_46 ?_
      refine Wp.nm fun h10 e11 => ?_
      have ht := ht h10 e11
      have hs12 : Sh h10 := by rw [e11]; exact sh_si hs6
      refine ab_aload_nN (i := 2) dX11_law_49 rfl rfl ?_
      refine ab_nonnullN dX11_law_50 ?_
      refine ab_aload_n (i := 0) dX11_law_53 rfl rfl ?_
      refine ab_bipush (v := (-6)) dX11_law_54 (by decide) ?_
      refine ab_callV (b := 0) (As := [.int (-6)]) ht (Y_X11_refuse) l_X11_123 in_X11_refuse se_X11_refuse (sh_k hs12 0 11 (by decide) rfl) (by decide) rfl rfl ⟨(Nat.le_of_ble_eq_true rfl), (Nat.le_of_ble_eq_true rfl), (Nat.le_of_ble_eq_true rfl), (Nat.le_of_ble_eq_true rfl)⟩ dX11_law_56 ?_
      rintro _ h13 ⟨v15, rfl, hs14, ht⟩
      exact ab_iret rfl dX11_law_59 (Nat.le_of_ble_eq_true rfl) (Nat.le_of_ble_eq_true rfl) ht
    · obtain ⟨hk9, ht⟩ := ht.2 b8 rfl
      refine ab_astore_n (i := 2) (L' := [some (.ref 0), some (.int v3), some (.ref b8)]) dX11_law_37 rfl (by exact (Nat.le_of_ble_eq_true rfl)) rfl rfl ?_
      refine ab_aload_n (i := 0) dX11_law_38 rfl rfl ?_
      refine ab_aload_n (i := 0) dX11_law_39 rfl rfl ?_
      refine ab_getR (b := 20) f_X11_33 rfl (sh_k hs6 0 11 (by decide) rfl) (sh_r hs6 5 rfl) dX11_law_40 ?_
      refine ab_getI f_X11_214 rfl (sh_k hs6 20 5 (by decide) rfl) dX11_law_43 ?_
      refine ab_putI f_X11_100 (Or.inl rfl) rfl (sh_k hs6 0 11 (by decide) rfl) rfl rfl dX11_law_46 ?_
      refine Wp.nm fun h16 e17 => ?_
      have ht := ht h16 e17
      have hs18 : Sh h16 := by rw [e17]; exact sh_si hs6
      have hk19 : ah_k h16 b8 = 9 := by rw [e17]; exact hk9
      refine ab_aload_n (i := 2) dX11_law_49 rfl rfl ?_
      refine ab_nonnull (tgt := 60) dX11_law_50 (by decide) ?_
      refine ab_aload_n (i := 0) dX11_law_60 rfl rfl ?_
      refine ab_aload_n (i := 0) dX11_law_61 rfl rfl ?_
      refine ab_getR (b := 1) f_X11_10 rfl (sh_k hs18 0 11 (by decide) rfl) (sh_r hs18 0 rfl) dX11_law_62 ?_
      refine ab_aload_n (i := 2) dX11_law_65 rfl rfl ?_
      refine ab_callV (b := 1) (As := [.ref b8]) ht (Y_X10_keepLaw) l_X11_217 in_X10_keepLaw se_X10_keepLaw (sh_k hs18 1 10 (by decide) rfl) (by decide) rfl rfl ⟨(Nat.le_of_ble_eq_true rfl), (Nat.le_of_ble_eq_true rfl), (Nat.le_of_ble_eq_true rfl), (Nat.le_of_ble_eq_true rfl)⟩ dX11_law_66 ?_
      rintro _ h20 ⟨v22, rfl, hs21, hk23, ht⟩
      refine ab_callV (b := 0) (As := [.int v22]) ht (Y_X11_change) l_X11_153 in_X11_change se_X11_change (sh_k hs21 0 11 (by decide) rfl) (by decide) rfl rfl ⟨(Nat.le_of_ble_eq_true rfl), (Nat.le_of_ble_eq_true rfl), (Nat.le_of_ble_eq_true rfl), (Nat.le_of_ble_eq_true rfl)⟩ dX11_law_69 ?_
      rintro _ h24 ⟨v26, rfl, hs25, hk27, ht⟩
      exact ab_iret rfl dX11_law_72 (Nat.le_of_ble_eq_true rfl) (Nat.le_of_ble_eq_true rfl) ht
  · have ht := ht.2 c4
    refine ab_aload_n (i := 0) dX11_law_17 rfl rfl ?_
    refine ab_bipush (v := (-5)) dX11_law_18 (by decide) ?_
    refine ab_callV (b := 0) (As := [.int (-5)]) ht (Y_X11_refuse) l_X11_123 in_X11_refuse se_X11_refuse (sh_k hs2 0 11 (by decide) rfl) (by decide) rfl rfl ⟨(Nat.le_of_ble_eq_true rfl), (Nat.le_of_ble_eq_true rfl), (Nat.le_of_ble_eq_true rfl), (Nat.le_of_ble_eq_true rfl)⟩ dX11_law_20 ?_
    rintro _ h28 ⟨v30, rfl, hs29, ht⟩
    exact ab_iret rfl dX11_law_23 (Nat.le_of_ble_eq_true rfl) (Nat.le_of_ble_eq_true rfl) ht
theorem dX11_rounds_0 : decode cX11_rounds 0 = .ok (.aload_n 0, 1) := by decide +kernel
theorem dX11_rounds_1 : decode cX11_rounds 1 = .ok (.getfield 33, 3) := by decide +kernel
theorem dX11_rounds_4 : decode cX11_rounds 4 = .ok (.aload_n 0, 1) := by decide +kernel
theorem dX11_rounds_5 : decode cX11_rounds 5 = .ok (.getfield 20, 3) := by decide +kernel
theorem dX11_rounds_8 : decode cX11_rounds 8 = .ok (.aload_n 0, 1) := by decide +kernel
theorem dX11_rounds_9 : decode cX11_rounds 9 = .ok (.invokevirtual 203, 3) := by decide +kernel
theorem dX11_rounds_12 : decode cX11_rounds 12 = .ok (.iconst 0, 1) := by decide +kernel
theorem dX11_rounds_13 : decode cX11_rounds 13 = .ok (.invokevirtual 210, 3) := by decide +kernel
theorem dX11_rounds_16 : decode cX11_rounds 16 = .ok (.astore_n 1, 1) := by decide +kernel
theorem dX11_rounds_17 : decode cX11_rounds 17 = .ok (.aload_n 0, 1) := by decide +kernel
theorem dX11_rounds_18 : decode cX11_rounds 18 = .ok (.aload_n 0, 1) := by decide +kernel
theorem dX11_rounds_19 : decode cX11_rounds 19 = .ok (.getfield 33, 3) := by decide +kernel
theorem dX11_rounds_22 : decode cX11_rounds 22 = .ok (.getfield 214, 3) := by decide +kernel
theorem dX11_rounds_25 : decode cX11_rounds 25 = .ok (.putfield 100, 3) := by decide +kernel
theorem dX11_rounds_28 : decode cX11_rounds 28 = .ok (.aload_n 0, 1) := by decide +kernel
theorem dX11_rounds_29 : decode cX11_rounds 29 = .ok (.iconst (-1), 1) := by decide +kernel
theorem dX11_rounds_30 : decode cX11_rounds 30 = .ok (.putfield 106, 3) := by decide +kernel
theorem dX11_rounds_33 : decode cX11_rounds 33 = .ok (.aload_n 1, 1) := by decide +kernel
theorem dX11_rounds_34 : decode cX11_rounds 34 = .ok (.ifnonnull 10, 3) := by decide +kernel
theorem dX11_rounds_37 : decode cX11_rounds 37 = .ok (.aload_n 0, 1) := by decide +kernel
theorem dX11_rounds_38 : decode cX11_rounds 38 = .ok (.bipush (-6), 2) := by decide +kernel
theorem dX11_rounds_40 : decode cX11_rounds 40 = .ok (.invokevirtual 123, 3) := by decide +kernel
theorem dX11_rounds_43 : decode cX11_rounds 43 = .ok (.ireturn, 1) := by decide +kernel
theorem dX11_rounds_44 : decode cX11_rounds 44 = .ok (.aload_n 0, 1) := by decide +kernel
theorem dX11_rounds_45 : decode cX11_rounds 45 = .ok (.getfield 10, 3) := by decide +kernel
theorem dX11_rounds_48 : decode cX11_rounds 48 = .ok (.getfield 184, 3) := by decide +kernel
theorem dX11_rounds_51 : decode cX11_rounds 51 = .ok (.getfield 187, 3) := by decide +kernel
theorem dX11_rounds_54 : decode cX11_rounds 54 = .ok (.istore_n 2, 1) := by decide +kernel
theorem dX11_rounds_55 : decode cX11_rounds 55 = .ok (.iconst 0, 1) := by decide +kernel
theorem dX11_rounds_56 : decode cX11_rounds 56 = .ok (.istore_n 3, 1) := by decide +kernel
theorem dX11_rounds_57 : decode cX11_rounds 57 = .ok (.iload_n 3, 1) := by decide +kernel
theorem dX11_rounds_58 : decode cX11_rounds 58 = .ok (.aload_n 1, 1) := by decide +kernel
theorem dX11_rounds_59 : decode cX11_rounds 59 = .ok (.getfield 221, 3) := by decide +kernel
theorem dX11_rounds_62 : decode cX11_rounds 62 = .ok (.if_icmp .ge 46, 3) := by decide +kernel
theorem dX11_rounds_65 : decode cX11_rounds 65 = .ok (.aload_n 0, 1) := by decide +kernel
theorem dX11_rounds_66 : decode cX11_rounds 66 = .ok (.aload_n 1, 1) := by decide +kernel
theorem dX11_rounds_67 : decode cX11_rounds 67 = .ok (.iload_n 3, 1) := by decide +kernel
theorem dX11_rounds_68 : decode cX11_rounds 68 = .ok (.iload_n 2, 1) := by decide +kernel
theorem dX11_rounds_69 : decode cX11_rounds 69 = .ok (.invokevirtual 224, 3) := by decide +kernel
theorem dX11_rounds_72 : decode cX11_rounds 72 = .ok (.istore 4, 2) := by decide +kernel
theorem dX11_rounds_74 : decode cX11_rounds 74 = .ok (.iload 4, 2) := by decide +kernel
theorem dX11_rounds_76 : decode cX11_rounds 76 = .ok (.ifCond .eq 26, 3) := by decide +kernel
theorem dX11_rounds_79 : decode cX11_rounds 79 = .ok (.aload_n 0, 1) := by decide +kernel
theorem dX11_rounds_80 : decode cX11_rounds 80 = .ok (.iload_n 3, 1) := by decide +kernel
theorem dX11_rounds_81 : decode cX11_rounds 81 = .ok (.putfield 106, 3) := by decide +kernel
theorem dX11_rounds_84 : decode cX11_rounds 84 = .ok (.aload_n 0, 1) := by decide +kernel
theorem dX11_rounds_85 : decode cX11_rounds 85 = .ok (.getfield 10, 3) := by decide +kernel
theorem dX11_rounds_88 : decode cX11_rounds 88 = .ok (.getfield 184, 3) := by decide +kernel
theorem dX11_rounds_91 : decode cX11_rounds 91 = .ok (.iload_n 2, 1) := by decide +kernel
theorem dX11_rounds_92 : decode cX11_rounds 92 = .ok (.putfield 187, 3) := by decide +kernel
theorem dX11_rounds_95 : decode cX11_rounds 95 = .ok (.aload_n 0, 1) := by decide +kernel
theorem dX11_rounds_96 : decode cX11_rounds 96 = .ok (.iload 4, 2) := by decide +kernel
theorem dX11_rounds_98 : decode cX11_rounds 98 = .ok (.invokevirtual 123, 3) := by decide +kernel
theorem dX11_rounds_101 : decode cX11_rounds 101 = .ok (.ireturn, 1) := by decide +kernel
theorem dX11_rounds_102 : decode cX11_rounds 102 = .ok (.iinc 3 1, 3) := by decide +kernel
theorem dX11_rounds_105 : decode cX11_rounds 105 = .ok (.goto (-48), 3) := by decide +kernel
theorem dX11_rounds_108 : decode cX11_rounds 108 = .ok (.aload_n 0, 1) := by decide +kernel
theorem dX11_rounds_109 : decode cX11_rounds 109 = .ok (.aload_n 0, 1) := by decide +kernel
theorem dX11_rounds_110 : decode cX11_rounds 110 = .ok (.getfield 10, 3) := by decide +kernel
theorem dX11_rounds_113 : decode cX11_rounds 113 = .ok (.getfield 184, 3) := by decide +kernel
theorem dX11_rounds_116 : decode cX11_rounds 116 = .ok (.getfield 187, 3) := by decide +kernel
theorem dX11_rounds_119 : decode cX11_rounds 119 = .ok (.iload_n 2, 1) := by decide +kernel
theorem dX11_rounds_120 : decode cX11_rounds 120 = .ok (.isub, 1) := by decide +kernel
theorem dX11_rounds_121 : decode cX11_rounds 121 = .ok (.invokevirtual 153, 3) := by decide +kernel
theorem dX11_rounds_124 : decode cX11_rounds 124 = .ok (.ireturn, 1) := by decide +kernel
set_option maxRecDepth 20000 in
theorem T_X11_rounds_57 {Q : Option Value → ah_T → Prop} {h : ah_T} (hs : Sh h) (a1 : Nat) (x2 : Int32) (x3 : Int32) (hk_a1 : ah_k h a1 = 9) (ht : (((ah_i h a1 2) ≤ x3 → (Mt mX11_change [.ref 0, .int ((ah_i h 6 3) - x2)] h (ab_qi fun v29 h27 => Sh h27 ∧ ah_k h27 a1 = 9 ∧ Q (some (.int v29)) h27))) ∧ (¬ (ah_i h a1 2) ≤ x3 → (Mt mX11_runClause [.ref 0, .ref a1, .int x3, .int x2] h (ab_qi fun v33 h31 => Sh h31 ∧ ah_k h31 a1 = 9 ∧ ((v33 = 0 → Wp mX11_rounds Q 4 1010 57 [some (.ref 0), some (.ref a1), some (.int x2), some (.int (x3 + 1)), none] [] h31) ∧ (¬ v33 = 0 → (∀ h36, h36 = ah_si h31 0 16 x3 → (∀ h40, h40 = ah_si h36 6 3 x2 → (Mt mX11_refuse [.ref 0, .int v33] h40 (ab_qi fun v46 h44 => Sh h44 ∧ ah_k h44 a1 = 9 ∧ Q (some (.int v46)) h44))))))))))) : Wp mX11_rounds Q 4 1010 57 [some (.ref 0), some (.ref a1), some (.int x2), some (.int x3), none] [] h := by
  refine ab_iload_n (i := 3) dX11_rounds_57 rfl rfl ?_
  refine ab_aload_n (i := 1) dX11_rounds_58 rfl rfl ?_
  refine ab_getI f_X11_221 rfl hk_a1 dX11_rounds_59 ?_
  refine ab_icmp_ge (tgt := 108) dX11_rounds_62 (by decide) (fun c26 => ?_) (fun c26 => ?_)
  · have ht := ht.1 c26
    refine ab_aload_n (i := 0) dX11_rounds_108 rfl rfl ?_
    refine ab_aload_n (i := 0) dX11_rounds_109 rfl rfl ?_
    refine ab_getR (b := 1) f_X11_10 rfl (sh_k hs 0 11 (by decide) rfl) (sh_r hs 0 rfl) dX11_rounds_110 ?_
    refine ab_getR (b := 6) f_X11_184 rfl (sh_k hs 1 10 (by decide) rfl) (sh_r hs 15 rfl) dX11_rounds_113 ?_
    refine ab_getI f_X11_187 rfl (sh_k hs 6 7 (by decide) rfl) dX11_rounds_116 ?_
    refine ab_iload_n (i := 2) dX11_rounds_119 rfl rfl ?_
    refine ab_isub dX11_rounds_120 ?_
    refine ab_callV (b := 0) (As := [.int ((ah_i h 6 3) - x2)]) ht (Y_X11_change) l_X11_153 in_X11_change se_X11_change (sh_k hs 0 11 (by decide) rfl) (by decide) rfl rfl ⟨(Nat.le_of_ble_eq_true rfl), (Nat.le_of_ble_eq_true rfl), (Nat.le_of_ble_eq_true rfl), (Nat.le_of_ble_eq_true rfl)⟩ dX11_rounds_121 ?_
    rintro _ h27 ⟨v29, rfl, hs28, hk30, ht⟩
    exact ab_iret rfl dX11_rounds_124 (Nat.le_of_ble_eq_true rfl) (Nat.le_of_ble_eq_true rfl) ht
  · have ht := ht.2 c26
    refine ab_aload_n (i := 0) dX11_rounds_65 rfl rfl ?_
    refine ab_aload_n (i := 1) dX11_rounds_66 rfl rfl ?_
    refine ab_iload_n (i := 3) dX11_rounds_67 rfl rfl ?_
    refine ab_iload_n (i := 2) dX11_rounds_68 rfl rfl ?_
    refine ab_callV (b := 0) (As := [.ref a1, .int x3, .int x2]) ht (Y_X11_runClause) l_X11_224 in_X11_runClause se_X11_runClause (sh_k hs 0 11 (by decide) rfl) (by decide) rfl rfl ⟨(Nat.le_of_ble_eq_true rfl), (Nat.le_of_ble_eq_true rfl), (Nat.le_of_ble_eq_true rfl), (Nat.le_of_ble_eq_true rfl)⟩ dX11_rounds_69 ?_
    rintro _ h31 ⟨v33, rfl, hs32, hk34, ht⟩
    refine ab_istore (i := 4) (L' := [some (.ref 0), some (.ref a1), some (.int x2), some (.int x3), some (.int v33)]) dX11_rounds_72 (by exact (Nat.le_of_ble_eq_true rfl)) rfl rfl ?_
    refine ab_iload (i := 4) dX11_rounds_74 rfl ?_
    refine ab_if_eq (tgt := 102) dX11_rounds_76 (by decide) (fun c35 => ?_) (fun c35 => ?_)
    · have ht := ht.1 c35
      refine ab_iinc (i := 3) (x := x3) (v := (x3 + 1)) (L' := [some (.ref 0), some (.ref a1), some (.int x2), some (.int (x3 + 1)), some (.int v33)]) dX11_rounds_102 rfl rfl (by exact (Nat.le_of_ble_eq_true rfl)) rfl rfl ?_
      refine ab_goto (tgt := 57) dX11_rounds_105 (by decide) ?_
      exact Wp.fewer (L' := [some (.ref 0), some (.ref a1), some (.int x2), some (.int (x3 + 1)), none]) (show ab_leL _ _ from ⟨rfl, ⟨rfl, ⟨rfl, ⟨rfl, trivial⟩⟩⟩⟩) ht
    · have ht := ht.2 c35
      refine ab_aload_n (i := 0) dX11_rounds_79 rfl rfl ?_
      refine ab_iload_n (i := 3) dX11_rounds_80 rfl rfl ?_
      refine ab_putI f_X11_106 (Or.inl rfl) rfl (sh_k hs32 0 11 (by decide) rfl) rfl rfl dX11_rounds_81 ?_
      refine Wp.nm fun h36 e37 => ?_
      have ht := ht h36 e37
      have hs38 : Sh h36 := by rw [e37]; exact sh_si hs32
      have hk39 : ah_k h36 a1 = 9 := by rw [e37]; exact hk34
      refine ab_aload_n (i := 0) dX11_rounds_84 rfl rfl ?_
      refine ab_getR (b := 1) f_X11_10 rfl (sh_k hs38 0 11 (by decide) rfl) (sh_r hs38 0 rfl) dX11_rounds_85 ?_
      refine ab_getR (b := 6) f_X11_184 rfl (sh_k hs38 1 10 (by decide) rfl) (sh_r hs38 15 rfl) dX11_rounds_88 ?_
      refine ab_iload_n (i := 2) dX11_rounds_91 rfl rfl ?_
      refine ab_putI f_X11_187 (Or.inl rfl) rfl (sh_k hs38 6 7 (by decide) rfl) rfl rfl dX11_rounds_92 ?_
      refine Wp.nm fun h40 e41 => ?_
      have ht := ht h40 e41
      have hs42 : Sh h40 := by rw [e41]; exact sh_si hs38
      have hk43 : ah_k h40 a1 = 9 := by rw [e41]; exact hk39
      refine ab_aload_n (i := 0) dX11_rounds_95 rfl rfl ?_
      refine ab_iload (i := 4) dX11_rounds_96 rfl ?_
      refine ab_callV (b := 0) (As := [.int v33]) ht (Y_X11_refuse) l_X11_123 in_X11_refuse se_X11_refuse (sh_k hs42 0 11 (by decide) rfl) (by decide) rfl rfl ⟨(Nat.le_of_ble_eq_true rfl), (Nat.le_of_ble_eq_true rfl), (Nat.le_of_ble_eq_true rfl), (Nat.le_of_ble_eq_true rfl)⟩ dX11_rounds_98 ?_
      rintro _ h44 ⟨v46, rfl, hs45, hk47, ht⟩
      exact ab_iret rfl dX11_rounds_101 (Nat.le_of_ble_eq_true rfl) (Nat.le_of_ble_eq_true rfl) ht
set_option maxRecDepth 20000 in
theorem T_X11_rounds {Q : Option Value → ah_T → Prop} {h : ah_T} (hs : Sh h)  (ht : (Mt mX11_takeTape [.ref 0] h (ab_qi fun v3 h1 => Sh h1 ∧ (Mt mX5_read [.ref 20, .ref 17, .int v3, .int 0] h1 (ab_qr fun v6 h4 => Sh h4 ∧ ((v6 = none → (∀ h9, h9 = ah_si h4 0 14 (ah_i h4 20 0) → (∀ h12, h12 = ah_si h9 0 16 (-1) → (Mt mX11_refuse [.ref 0, .int (-6)] h12 (ab_qi fun v17 h15 => Sh h15 ∧ Q (some (.int v17)) h15))))) ∧ (∀ b7, v6 = some b7 → (ah_k h4 b7 = 9) ∧ (∀ h18, h18 = ah_si h4 0 14 (ah_i h4 20 0) → (∀ h22, h22 = ah_si h18 0 16 (-1) → Wp mX11_rounds Q 4 1010 57 [some (.ref 0), some (.ref b7), some (.int (ah_i h22 6 3)), some (.int 0), none] [] h22))))))))) : Mt mX11_rounds [.ref 0] h Q := by
  refine Mt.ofWp rfl (by exact (Nat.le_of_ble_eq_true rfl)) (Wp.fewer (L' := [some (.ref 0), none, none, none, none]) (show ab_leL _ _ from ⟨rfl, trivial⟩) ?_)
  refine ab_aload_n (i := 0) dX11_rounds_0 rfl rfl ?_
  refine ab_getR (b := 20) f_X11_33 rfl (sh_k hs 0 11 (by decide) rfl) (sh_r hs 5 rfl) dX11_rounds_1 ?_
  refine ab_aload_n (i := 0) dX11_rounds_4 rfl rfl ?_
  refine ab_getR (b := 17) f_X11_20 rfl (sh_k hs 0 11 (by decide) rfl) (sh_r hs 2 rfl) dX11_rounds_5 ?_
  refine ab_aload_n (i := 0) dX11_rounds_8 rfl rfl ?_
  refine ab_callV (b := 0) (As := []) ht (Y_X11_takeTape) l_X11_203 in_X11_takeTape se_X11_takeTape (sh_k hs 0 11 (by decide) rfl) (by decide) rfl rfl ⟨(Nat.le_of_ble_eq_true rfl), (Nat.le_of_ble_eq_true rfl), (Nat.le_of_ble_eq_true rfl), (Nat.le_of_ble_eq_true rfl)⟩ dX11_rounds_9 ?_
  rintro _ h1 ⟨v3, rfl, hs2, ht⟩
  refine ab_iconst (v := 0) dX11_rounds_12 (by decide) ?_
  refine ab_callV (b := 20) (As := [.ref 17, .int v3, .int 0]) ht (Y_X5_read) l_X11_210 in_X5_read se_X5_read (sh_k hs2 20 5 (by decide) rfl) (by decide) rfl rfl ⟨(Nat.le_of_ble_eq_true rfl), (Nat.le_of_ble_eq_true rfl), (Nat.le_of_ble_eq_true rfl), (Nat.le_of_ble_eq_true rfl)⟩ dX11_rounds_13 ?_
  rintro _ h4 ⟨v6, rfl, hs5, ht⟩
  rcases v6 with _ | b7
  · have ht := ht.1 rfl
    refine ab_astore_nN (i := 1) (L' := [some (.ref 0), some (.null), none, none, none]) dX11_rounds_16 rfl (by exact (Nat.le_of_ble_eq_true rfl)) rfl rfl ?_
    refine ab_aload_n (i := 0) dX11_rounds_17 rfl rfl ?_
    refine ab_aload_n (i := 0) dX11_rounds_18 rfl rfl ?_
    refine ab_getR (b := 20) f_X11_33 rfl (sh_k hs5 0 11 (by decide) rfl) (sh_r hs5 5 rfl) dX11_rounds_19 ?_
    refine ab_getI f_X11_214 rfl (sh_k hs5 20 5 (by decide) rfl) dX11_rounds_22 ?_
    refine ab_putI f_X11_100 (Or.inl rfl) rfl (sh_k hs5 0 11 (by decide) rfl) rfl rfl dX11_rounds_25 ?_
    refine Wp.nm fun h9 e10 => ?_
    have ht := ht h9 e10
    have hs11 : Sh h9 := by rw [e10]; exact sh_si hs5
    refine ab_aload_n (i := 0) dX11_rounds_28 rfl rfl ?_
    refine ab_iconst (v := (-1)) dX11_rounds_29 (by decide) ?_
    refine ab_putI f_X11_106 (Or.inl rfl) rfl (sh_k hs11 0 11 (by decide) rfl) rfl rfl dX11_rounds_30 ?_
    refine Wp.nm fun h12 e13 => ?_
    have ht := ht h12 e13
    have hs14 : Sh h12 := by rw [e13]; exact sh_si hs11
    refine ab_aload_nN (i := 1) dX11_rounds_33 rfl rfl ?_
    refine ab_nonnullN dX11_rounds_34 ?_
    refine ab_aload_n (i := 0) dX11_rounds_37 rfl rfl ?_
    refine ab_bipush (v := (-6)) dX11_rounds_38 (by decide) ?_
    refine ab_callV (b := 0) (As := [.int (-6)]) ht (Y_X11_refuse) l_X11_123 in_X11_refuse se_X11_refuse (sh_k hs14 0 11 (by decide) rfl) (by decide) rfl rfl ⟨(Nat.le_of_ble_eq_true rfl), (Nat.le_of_ble_eq_true rfl), (Nat.le_of_ble_eq_true rfl), (Nat.le_of_ble_eq_true rfl)⟩ dX11_rounds_40 ?_
    rintro _ h15 ⟨v17, rfl, hs16, ht⟩
    exact ab_iret rfl dX11_rounds_43 (Nat.le_of_ble_eq_true rfl) (Nat.le_of_ble_eq_true rfl) ht
  · obtain ⟨hk8, ht⟩ := ht.2 b7 rfl
    refine ab_astore_n (i := 1) (L' := [some (.ref 0), some (.ref b7), none, none, none]) dX11_rounds_16 rfl (by exact (Nat.le_of_ble_eq_true rfl)) rfl rfl ?_
    refine ab_aload_n (i := 0) dX11_rounds_17 rfl rfl ?_
    refine ab_aload_n (i := 0) dX11_rounds_18 rfl rfl ?_
    refine ab_getR (b := 20) f_X11_33 rfl (sh_k hs5 0 11 (by decide) rfl) (sh_r hs5 5 rfl) dX11_rounds_19 ?_
    refine ab_getI f_X11_214 rfl (sh_k hs5 20 5 (by decide) rfl) dX11_rounds_22 ?_
    refine ab_putI f_X11_100 (Or.inl rfl) rfl (sh_k hs5 0 11 (by decide) rfl) rfl rfl dX11_rounds_25 ?_
    refine Wp.nm fun h18 e19 => ?_
    have ht := ht h18 e19
    have hs20 : Sh h18 := by rw [e19]; exact sh_si hs5
    have hk21 : ah_k h18 b7 = 9 := by rw [e19]; exact hk8
    refine ab_aload_n (i := 0) dX11_rounds_28 rfl rfl ?_
    refine ab_iconst (v := (-1)) dX11_rounds_29 (by decide) ?_
    refine ab_putI f_X11_106 (Or.inl rfl) rfl (sh_k hs20 0 11 (by decide) rfl) rfl rfl dX11_rounds_30 ?_
    refine Wp.nm fun h22 e23 => ?_
    have ht := ht h22 e23
    have hs24 : Sh h22 := by rw [e23]; exact sh_si hs20
    have hk25 : ah_k h22 b7 = 9 := by rw [e23]; exact hk21
    refine ab_aload_n (i := 1) dX11_rounds_33 rfl rfl ?_
    refine ab_nonnull (tgt := 44) dX11_rounds_34 (by decide) ?_
    refine ab_aload_n (i := 0) dX11_rounds_44 rfl rfl ?_
    refine ab_getR (b := 1) f_X11_10 rfl (sh_k hs24 0 11 (by decide) rfl) (sh_r hs24 0 rfl) dX11_rounds_45 ?_
    refine ab_getR (b := 6) f_X11_184 rfl (sh_k hs24 1 10 (by decide) rfl) (sh_r hs24 15 rfl) dX11_rounds_48 ?_
    refine ab_getI f_X11_187 rfl (sh_k hs24 6 7 (by decide) rfl) dX11_rounds_51 ?_
    refine ab_istore_n (i := 2) (L' := [some (.ref 0), some (.ref b7), some (.int (ah_i h22 6 3)), none, none]) dX11_rounds_54 rfl (by exact (Nat.le_of_ble_eq_true rfl)) rfl rfl ?_
    refine ab_iconst (v := 0) dX11_rounds_55 (by decide) ?_
    refine ab_istore_n (i := 3) (L' := [some (.ref 0), some (.ref b7), some (.int (ah_i h22 6 3)), some (.int 0), none]) dX11_rounds_56 rfl (by exact (Nat.le_of_ble_eq_true rfl)) rfl rfl ?_
    exact Wp.fewer (L' := [some (.ref 0), some (.ref b7), some (.int (ah_i h22 6 3)), some (.int 0), none]) (show ab_leL _ _ from ⟨rfl, ⟨rfl, ⟨rfl, ⟨rfl, trivial⟩⟩⟩⟩) ht
theorem dX11_force_0 : decode cX11_force 0 = .ok (.iload_n 1, 1) := by decide +kernel
theorem dX11_force_1 : decode cX11_force 1 = .ok (.iconst (-1), 1) := by decide +kernel
theorem dX11_force_2 : decode cX11_force 2 = .ok (.if_icmp .lt 14, 3) := by decide +kernel
theorem dX11_force_5 : decode cX11_force 5 = .ok (.iload_n 1, 1) := by decide +kernel
theorem dX11_force_6 : decode cX11_force 6 = .ok (.aload_n 0, 1) := by decide +kernel
theorem dX11_force_7 : decode cX11_force 7 = .ok (.getfield 10, 3) := by decide +kernel
theorem dX11_force_10 : decode cX11_force 10 = .ok (.getfield 207, 3) := by decide +kernel
theorem dX11_force_13 : decode cX11_force 13 = .ok (.if_icmp .lt 10, 3) := by decide +kernel
theorem dX11_force_16 : decode cX11_force 16 = .ok (.aload_n 0, 1) := by decide +kernel
theorem dX11_force_17 : decode cX11_force 17 = .ok (.bipush (-2), 2) := by decide +kernel
theorem dX11_force_19 : decode cX11_force 19 = .ok (.invokevirtual 123, 3) := by decide +kernel
theorem dX11_force_22 : decode cX11_force 22 = .ok (.ireturn, 1) := by decide +kernel
theorem dX11_force_23 : decode cX11_force 23 = .ok (.aload_n 0, 1) := by decide +kernel
theorem dX11_force_24 : decode cX11_force 24 = .ok (.getfield 10, 3) := by decide +kernel
theorem dX11_force_27 : decode cX11_force 27 = .ok (.getfield 228, 3) := by decide +kernel
theorem dX11_force_30 : decode cX11_force 30 = .ok (.istore_n 2, 1) := by decide +kernel
theorem dX11_force_31 : decode cX11_force 31 = .ok (.aload_n 0, 1) := by decide +kernel
theorem dX11_force_32 : decode cX11_force 32 = .ok (.getfield 10, 3) := by decide +kernel
theorem dX11_force_35 : decode cX11_force 35 = .ok (.iload_n 1, 1) := by decide +kernel
theorem dX11_force_36 : decode cX11_force 36 = .ok (.putfield 228, 3) := by decide +kernel
theorem dX11_force_39 : decode cX11_force 39 = .ok (.aload_n 0, 1) := by decide +kernel
theorem dX11_force_40 : decode cX11_force 40 = .ok (.iload_n 2, 1) := by decide +kernel
theorem dX11_force_41 : decode cX11_force 41 = .ok (.invokevirtual 153, 3) := by decide +kernel
theorem dX11_force_44 : decode cX11_force 44 = .ok (.ireturn, 1) := by decide +kernel
set_option maxRecDepth 20000 in
theorem T_X11_force {Q : Option Value → ah_T → Prop} {h : ah_T} (hs : Sh h) (x1 : Int32) (ht : ((x1 < (-1) → (Mt mX11_refuse [.ref 0, .int (-2)] h (ab_qi fun v4 h2 => Sh h2 ∧ Q (some (.int v4)) h2))) ∧ (¬ x1 < (-1) → ((x1 < (ah_i h 1 8) → (∀ h6, h6 = ah_si h 1 9 x1 → (Mt mX11_change [.ref 0, .int (ah_i h 1 9)] h6 (ab_qi fun v11 h9 => Sh h9 ∧ Q (some (.int v11)) h9)))) ∧ (¬ x1 < (ah_i h 1 8) → (Mt mX11_refuse [.ref 0, .int (-2)] h (ab_qi fun v14 h12 => Sh h12 ∧ Q (some (.int v14)) h12))))))) : Mt mX11_force [.ref 0, .int x1] h Q := by
  refine Mt.ofWp rfl (by exact (Nat.le_of_ble_eq_true rfl)) (Wp.fewer (L' := [some (.ref 0), some (.int x1), none]) (show ab_leL _ _ from ⟨rfl, ⟨rfl, trivial⟩⟩) ?_)
  refine ab_iload_n (i := 1) dX11_force_0 rfl rfl ?_
  refine ab_iconst (v := (-1)) dX11_force_1 (by decide) ?_
  refine ab_icmp_lt (tgt := 16) dX11_force_2 (by decide) (fun c1 => ?_) (fun c1 => ?_)
  · have ht := ht.1 c1
    refine ab_aload_n (i := 0) dX11_force_16 rfl rfl ?_
    refine ab_bipush (v := (-2)) dX11_force_17 (by decide) ?_
    refine ab_callV (b := 0) (As := [.int (-2)]) ht (Y_X11_refuse) l_X11_123 in_X11_refuse se_X11_refuse (sh_k hs 0 11 (by decide) rfl) (by decide) rfl rfl ⟨(Nat.le_of_ble_eq_true rfl), (Nat.le_of_ble_eq_true rfl), (Nat.le_of_ble_eq_true rfl), (Nat.le_of_ble_eq_true rfl)⟩ dX11_force_19 ?_
    rintro _ h2 ⟨v4, rfl, hs3, ht⟩
    exact ab_iret rfl dX11_force_22 (Nat.le_of_ble_eq_true rfl) (Nat.le_of_ble_eq_true rfl) ht
  · have ht := ht.2 c1
    refine ab_iload_n (i := 1) dX11_force_5 rfl rfl ?_
    refine ab_aload_n (i := 0) dX11_force_6 rfl rfl ?_
    refine ab_getR (b := 1) f_X11_10 rfl (sh_k hs 0 11 (by decide) rfl) (sh_r hs 0 rfl) dX11_force_7 ?_
    refine ab_getI f_X11_207 rfl (sh_k hs 1 10 (by decide) rfl) dX11_force_10 ?_
    refine ab_icmp_lt (tgt := 23) dX11_force_13 (by decide) (fun c5 => ?_) (fun c5 => ?_)
    · have ht := ht.1 c5
      refine ab_aload_n (i := 0) dX11_force_23 rfl rfl ?_
      refine ab_getR (b := 1) f_X11_10 rfl (sh_k hs 0 11 (by decide) rfl) (sh_r hs 0 rfl) dX11_force_24 ?_
      refine ab_getI f_X11_228 rfl (sh_k hs 1 10 (by decide) rfl) dX11_force_27 ?_
      refine ab_istore_n (i := 2) (L' := [some (.ref 0), some (.int x1), some (.int (ah_i h 1 9))]) dX11_force_30 rfl (by exact (Nat.le_of_ble_eq_true rfl)) rfl rfl ?_
      refine ab_aload_n (i := 0) dX11_force_31 rfl rfl ?_
      refine ab_getR (b := 1) f_X11_10 rfl (sh_k hs 0 11 (by decide) rfl) (sh_r hs 0 rfl) dX11_force_32 ?_
      refine ab_iload_n (i := 1) dX11_force_35 rfl rfl ?_
      refine ab_putI f_X11_228 (Or.inl rfl) rfl (sh_k hs 1 10 (by decide) rfl) rfl rfl dX11_force_36 ?_
      refine Wp.nm fun h6 e7 => ?_
      have ht := ht h6 e7
      have hs8 : Sh h6 := by rw [e7]; exact sh_si hs
      refine ab_aload_n (i := 0) dX11_force_39 rfl rfl ?_
      refine ab_iload_n (i := 2) dX11_force_40 rfl rfl ?_
      refine ab_callV (b := 0) (As := [.int (ah_i h 1 9)]) ht (Y_X11_change) l_X11_153 in_X11_change se_X11_change (sh_k hs8 0 11 (by decide) rfl) (by decide) rfl rfl ⟨(Nat.le_of_ble_eq_true rfl), (Nat.le_of_ble_eq_true rfl), (Nat.le_of_ble_eq_true rfl), (Nat.le_of_ble_eq_true rfl)⟩ dX11_force_41 ?_
      rintro _ h9 ⟨v11, rfl, hs10, ht⟩
      exact ab_iret rfl dX11_force_44 (Nat.le_of_ble_eq_true rfl) (Nat.le_of_ble_eq_true rfl) ht
    · have ht := ht.2 c5
      refine ab_aload_n (i := 0) dX11_force_16 rfl rfl ?_
      refine ab_bipush (v := (-2)) dX11_force_17 (by decide) ?_
      refine ab_callV (b := 0) (As := [.int (-2)]) ht (Y_X11_refuse) l_X11_123 in_X11_refuse se_X11_refuse (sh_k hs 0 11 (by decide) rfl) (by decide) rfl rfl ⟨(Nat.le_of_ble_eq_true rfl), (Nat.le_of_ble_eq_true rfl), (Nat.le_of_ble_eq_true rfl), (Nat.le_of_ble_eq_true rfl)⟩ dX11_force_19 ?_
      rintro _ h12 ⟨v14, rfl, hs13, ht⟩
      exact ab_iret rfl dX11_force_22 (Nat.le_of_ble_eq_true rfl) (Nat.le_of_ble_eq_true rfl) ht
theorem dX11_asks_0 : decode cX11_asks 0 = .ok (.aload_n 0, 1) := by decide +kernel
theorem dX11_asks_1 : decode cX11_asks 1 = .ok (.getfield 10, 3) := by decide +kernel
theorem dX11_asks_4 : decode cX11_asks 4 = .ok (.getfield 175, 3) := by decide +kernel
theorem dX11_asks_7 : decode cX11_asks 7 = .ok (.iload_n 1, 1) := by decide +kernel
theorem dX11_asks_8 : decode cX11_asks 8 = .ok (.invokevirtual 156, 3) := by decide +kernel
theorem dX11_asks_11 : decode cX11_asks 11 = .ok (.ifCond .eq 21, 3) := by decide +kernel
theorem dX11_asks_14 : decode cX11_asks 14 = .ok (.iload_n 3, 1) := by decide +kernel
theorem dX11_asks_15 : decode cX11_asks 15 = .ok (.bipush 120, 2) := by decide +kernel
theorem dX11_asks_17 : decode cX11_asks 17 = .ok (.invokestatic 119, 3) := by decide +kernel
theorem dX11_asks_20 : decode cX11_asks 20 = .ok (.ifCond .eq 12, 3) := by decide +kernel
theorem dX11_asks_23 : decode cX11_asks 23 = .ok (.iload 4, 2) := by decide +kernel
theorem dX11_asks_25 : decode cX11_asks 25 = .ok (.iconst 3, 1) := by decide +kernel
theorem dX11_asks_26 : decode cX11_asks 26 = .ok (.invokestatic 119, 3) := by decide +kernel
theorem dX11_asks_29 : decode cX11_asks 29 = .ok (.ifCond .ne 5, 3) := by decide +kernel
theorem dX11_asks_32 : decode cX11_asks 32 = .ok (.iconst (-1), 1) := by decide +kernel
theorem dX11_asks_33 : decode cX11_asks 33 = .ok (.ireturn, 1) := by decide +kernel
theorem dX11_asks_34 : decode cX11_asks 34 = .ok (.aload_n 0, 1) := by decide +kernel
theorem dX11_asks_35 : decode cX11_asks 35 = .ok (.invokevirtual 166, 3) := by decide +kernel
theorem dX11_asks_38 : decode cX11_asks 38 = .ok (.aload_n 0, 1) := by decide +kernel
theorem dX11_asks_39 : decode cX11_asks 39 = .ok (.getfield 10, 3) := by decide +kernel
theorem dX11_asks_42 : decode cX11_asks 42 = .ok (.getfield 175, 3) := by decide +kernel
theorem dX11_asks_45 : decode cX11_asks 45 = .ok (.iload_n 1, 1) := by decide +kernel
theorem dX11_asks_46 : decode cX11_asks 46 = .ok (.iconst 1, 1) := by decide +kernel
theorem dX11_asks_47 : decode cX11_asks 47 = .ok (.invokevirtual 163, 3) := by decide +kernel
theorem dX11_asks_50 : decode cX11_asks 50 = .ok (.istore 5, 2) := by decide +kernel
theorem dX11_asks_52 : decode cX11_asks 52 = .ok (.iload 4, 2) := by decide +kernel
theorem dX11_asks_54 : decode cX11_asks 54 = .ok (.ifCond .eq 20, 3) := by decide +kernel
theorem dX11_asks_57 : decode cX11_asks 57 = .ok (.aload_n 0, 1) := by decide +kernel
theorem dX11_asks_58 : decode cX11_asks 58 = .ok (.getfield 58, 3) := by decide +kernel
theorem dX11_asks_61 : decode cX11_asks 61 = .ok (.iload 4, 2) := by decide +kernel
theorem dX11_asks_63 : decode cX11_asks 63 = .ok (.iload_n 1, 1) := by decide +kernel
theorem dX11_asks_64 : decode cX11_asks 64 = .ok (.iload 5, 2) := by decide +kernel
theorem dX11_asks_66 : decode cX11_asks 66 = .ok (.iconst (-1), 1) := by decide +kernel
theorem dX11_asks_67 : decode cX11_asks 67 = .ok (.iconst (-1), 1) := by decide +kernel
theorem dX11_asks_68 : decode cX11_asks 68 = .ok (.iconst (-1), 1) := by decide +kernel
theorem dX11_asks_69 : decode cX11_asks 69 = .ok (.iload_n 3, 1) := by decide +kernel
theorem dX11_asks_70 : decode cX11_asks 70 = .ok (.invokevirtual 231, 3) := by decide +kernel
theorem dX11_asks_73 : decode cX11_asks 73 = .ok (.ireturn, 1) := by decide +kernel
theorem dX11_asks_74 : decode cX11_asks 74 = .ok (.aload_n 0, 1) := by decide +kernel
theorem dX11_asks_75 : decode cX11_asks 75 = .ok (.getfield 10, 3) := by decide +kernel
theorem dX11_asks_78 : decode cX11_asks 78 = .ok (.getfield 175, 3) := by decide +kernel
theorem dX11_asks_81 : decode cX11_asks 81 = .ok (.iload_n 2, 1) := by decide +kernel
theorem dX11_asks_82 : decode cX11_asks 82 = .ok (.invokevirtual 156, 3) := by decide +kernel
theorem dX11_asks_85 : decode cX11_asks 85 = .ok (.ifCond .eq 8, 3) := by decide +kernel
theorem dX11_asks_88 : decode cX11_asks 88 = .ok (.iload_n 2, 1) := by decide +kernel
theorem dX11_asks_89 : decode cX11_asks 89 = .ok (.iload_n 1, 1) := by decide +kernel
theorem dX11_asks_90 : decode cX11_asks 90 = .ok (.if_icmp .ne 5, 3) := by decide +kernel
theorem dX11_asks_93 : decode cX11_asks 93 = .ok (.iconst (-1), 1) := by decide +kernel
theorem dX11_asks_94 : decode cX11_asks 94 = .ok (.ireturn, 1) := by decide +kernel
theorem dX11_asks_95 : decode cX11_asks 95 = .ok (.aload_n 0, 1) := by decide +kernel
theorem dX11_asks_96 : decode cX11_asks 96 = .ok (.getfield 49, 3) := by decide +kernel
theorem dX11_asks_99 : decode cX11_asks 99 = .ok (.aload_n 0, 1) := by decide +kernel
theorem dX11_asks_100 : decode cX11_asks 100 = .ok (.getfield 10, 3) := by decide +kernel
theorem dX11_asks_103 : decode cX11_asks 103 = .ok (.getfield 175, 3) := by decide +kernel
theorem dX11_asks_106 : decode cX11_asks 106 = .ok (.iload_n 1, 1) := by decide +kernel
theorem dX11_asks_107 : decode cX11_asks 107 = .ok (.iconst 0, 1) := by decide +kernel
theorem dX11_asks_108 : decode cX11_asks 108 = .ok (.invokevirtual 163, 3) := by decide +kernel
theorem dX11_asks_111 : decode cX11_asks 111 = .ok (.aload_n 0, 1) := by decide +kernel
theorem dX11_asks_112 : decode cX11_asks 112 = .ok (.getfield 10, 3) := by decide +kernel
theorem dX11_asks_115 : decode cX11_asks 115 = .ok (.getfield 175, 3) := by decide +kernel
theorem dX11_asks_118 : decode cX11_asks 118 = .ok (.iload_n 2, 1) := by decide +kernel
theorem dX11_asks_119 : decode cX11_asks 119 = .ok (.iconst 0, 1) := by decide +kernel
theorem dX11_asks_120 : decode cX11_asks 120 = .ok (.invokevirtual 163, 3) := by decide +kernel
theorem dX11_asks_123 : decode cX11_asks 123 = .ok (.invokevirtual 172, 3) := by decide +kernel
theorem dX11_asks_126 : decode cX11_asks 126 = .ok (.istore 6, 2) := by decide +kernel
theorem dX11_asks_128 : decode cX11_asks 128 = .ok (.aload_n 0, 1) := by decide +kernel
theorem dX11_asks_129 : decode cX11_asks 129 = .ok (.getfield 58, 3) := by decide +kernel
theorem dX11_asks_132 : decode cX11_asks 132 = .ok (.iconst 0, 1) := by decide +kernel
theorem dX11_asks_133 : decode cX11_asks 133 = .ok (.iload_n 1, 1) := by decide +kernel
theorem dX11_asks_134 : decode cX11_asks 134 = .ok (.iload 5, 2) := by decide +kernel
theorem dX11_asks_136 : decode cX11_asks 136 = .ok (.aload_n 0, 1) := by decide +kernel
theorem dX11_asks_137 : decode cX11_asks 137 = .ok (.getfield 10, 3) := by decide +kernel
theorem dX11_asks_140 : decode cX11_asks 140 = .ok (.getfield 175, 3) := by decide +kernel
theorem dX11_asks_143 : decode cX11_asks 143 = .ok (.iload_n 2, 1) := by decide +kernel
theorem dX11_asks_144 : decode cX11_asks 144 = .ok (.iconst 1, 1) := by decide +kernel
theorem dX11_asks_145 : decode cX11_asks 145 = .ok (.invokevirtual 163, 3) := by decide +kernel
theorem dX11_asks_148 : decode cX11_asks 148 = .ok (.iload 6, 2) := by decide +kernel
theorem dX11_asks_150 : decode cX11_asks 150 = .ok (.iload_n 1, 1) := by decide +kernel
theorem dX11_asks_151 : decode cX11_asks 151 = .ok (.iload_n 2, 1) := by decide +kernel
theorem dX11_asks_152 : decode cX11_asks 152 = .ok (.if_icmp .le 7, 3) := by decide +kernel
theorem dX11_asks_155 : decode cX11_asks 155 = .ok (.iconst 1, 1) := by decide +kernel
theorem dX11_asks_156 : decode cX11_asks 156 = .ok (.goto 4, 3) := by decide +kernel
theorem dX11_asks_159 : decode cX11_asks 159 = .ok (.iconst 0, 1) := by decide +kernel
theorem dX11_asks_160 : decode cX11_asks 160 = .ok (.iload_n 3, 1) := by decide +kernel
theorem dX11_asks_161 : decode cX11_asks 161 = .ok (.invokevirtual 231, 3) := by decide +kernel
theorem dX11_asks_164 : decode cX11_asks 164 = .ok (.ireturn, 1) := by decide +kernel
set_option maxRecDepth 20000 in
theorem T_X11_asks {Q : Option Value → ah_T → Prop} {h : ah_T} (hs : Sh h) (x1 : Int32) (x2 : Int32) (x3 : Int32) (x4 : Int32) (ht : (Mt mX7_has [.ref 4, .int x1] h (ab_qi fun v3 h1 => Sh h1 ∧ ((v3 = 0 → Q (some (.int (-1))) h1) ∧ (¬ v3 = 0 → (((f_X11_isIn x3 120) = 0 → Q (some (.int (-1))) h1) ∧ (¬ (f_X11_isIn x3 120) = 0 → ((¬ (f_X11_isIn x4 3) = 0 → (Mt mX11_look [.ref 0] h1 (ab_qv fun h7 => Sh h7 ∧ (Mt mX7_get [.ref 4, .int x1, .int 1] h7 (ab_qi fun v12 h10 => Sh h10 ∧ ((x4 = 0 → (Mt mX7_has [.ref 4, .int x2] h10 (ab_qi fun v16 h14 => Sh h14 ∧ ((v16 = 0 → Q (some (.int (-1))) h14) ∧ (¬ v16 = 0 → ((¬ x2 = x1 → (Mt mX7_get [.ref 4, .int x1, .int 0] h14 (ab_qi fun v21 h19 => Sh h19 ∧ (Mt mX7_get [.ref 4, .int x2, .int 0] h19 (ab_qi fun v24 h22 => Sh h22 ∧ ((¬ (f_X11_isIn v21 12) = 0 → (¬ (f_X11_isIn v24 12) = 0 → vp_in ((v21 * 12) + v24) (ah_n h22 34)))) ∧ (Mt mX7_get [.ref 4, .int x2, .int 1] h22 (ab_qi fun v28 h26 => Sh h26 ∧ ((x1 ≤ x2 → (Mt mX8_ask [.ref 38, .int 0, .int x1, .int v12, .int v28, .int (f_X6_sight h22 v21 v24), .int 0, .int x3] h26 (ab_qi fun v32 h30 => Sh h30 ∧ Q (some (.int v32)) h30))) ∧ (¬ x1 ≤ x2 → (Mt mX8_ask [.ref 38, .int 0, .int x1, .int v12, .int v28, .int (f_X6_sight h22 v21 v24), .int 1, .int x3] h26 (ab_qi fun v35 h33 => Sh h33 ∧ Q (some (.int v35)) h33))))))))))) ∧ (x2 = x1 → Q (some (.int (-1))) h14))))))) ∧ (¬ x4 = 0 → (Mt mX8_ask [.ref 38, .int x4, .int x1, .int v12, .int (-1), .int (-1), .int (-1), .int x3] h10 (ab_qi fun v38 h36 => Sh h36 ∧ Q (some (.int v38)) h36))))))))) ∧ ((f_X11_isIn x4 3) = 0 → Q (some (.int (-1))) h1))))))))) : Mt mX11_asks [.ref 0, .int x1, .int x2, .int x3, .int x4] h Q := by
  refine Mt.ofWp rfl (by exact (Nat.le_of_ble_eq_true rfl)) (Wp.fewer (L' := [some (.ref 0), some (.int x1), some (.int x2), some (.int x3), some (.int x4), none, none]) (show ab_leL _ _ from ⟨rfl, ⟨rfl, ⟨rfl, ⟨rfl, ⟨rfl, trivial⟩⟩⟩⟩⟩) ?_)
  refine ab_aload_n (i := 0) dX11_asks_0 rfl rfl ?_
  refine ab_getR (b := 1) f_X11_10 rfl (sh_k hs 0 11 (by decide) rfl) (sh_r hs 0 rfl) dX11_asks_1 ?_
  refine ab_getR (b := 4) f_X11_175 rfl (sh_k hs 1 10 (by decide) rfl) (sh_r hs 14 rfl) dX11_asks_4 ?_
  refine ab_iload_n (i := 1) dX11_asks_7 rfl rfl ?_
  refine ab_callV (b := 4) (As := [.int x1]) ht (Y_X7_has) l_X11_156 in_X7_has se_X7_has (sh_k hs 4 7 (by decide) rfl) (by decide) rfl rfl ⟨(Nat.le_of_ble_eq_true rfl), (Nat.le_of_ble_eq_true rfl), (Nat.le_of_ble_eq_true rfl), (Nat.le_of_ble_eq_true rfl)⟩ dX11_asks_8 ?_
  rintro _ h1 ⟨v3, rfl, hs2, ht⟩
  refine ab_if_eq (tgt := 32) dX11_asks_11 (by decide) (fun c4 => ?_) (fun c4 => ?_)
  · have ht := ht.1 c4
    refine ab_iconst (v := (-1)) dX11_asks_32 (by decide) ?_
    exact ab_iret rfl dX11_asks_33 (Nat.le_of_ble_eq_true rfl) (Nat.le_of_ble_eq_true rfl) ht
  · have ht := ht.2 c4
    refine ab_iload_n (i := 3) dX11_asks_14 rfl rfl ?_
    refine ab_bipush (v := 120) dX11_asks_15 (by decide) ?_
    refine ab_callS (Q' := fun r h' => r = some (.int (f_X11_isIn x3 120)) ∧ h1 = h') (As := [.int x3, .int 120]) (c_X11_isIn hs2 x3 120 ⟨rfl, rfl⟩) (Y_X11_isIn) l_X11_119 st_X11_isIn rfl ⟨(Nat.le_of_ble_eq_true rfl), (Nat.le_of_ble_eq_true rfl), (Nat.le_of_ble_eq_true rfl), (Nat.le_of_ble_eq_true rfl)⟩ dX11_asks_17 ?_
    rintro _ _ ⟨rfl, rfl⟩
    refine ab_if_eq (tgt := 32) dX11_asks_20 (by decide) (fun c5 => ?_) (fun c5 => ?_)
    · have ht := ht.1 c5
      refine ab_iconst (v := (-1)) dX11_asks_32 (by decide) ?_
      exact ab_iret rfl dX11_asks_33 (Nat.le_of_ble_eq_true rfl) (Nat.le_of_ble_eq_true rfl) ht
    · have ht := ht.2 c5
      refine ab_iload (i := 4) dX11_asks_23 rfl ?_
      refine ab_iconst (v := 3) dX11_asks_25 (by decide) ?_
      refine ab_callS (Q' := fun r h' => r = some (.int (f_X11_isIn x4 3)) ∧ h1 = h') (As := [.int x4, .int 3]) (c_X11_isIn hs2 x4 3 ⟨rfl, rfl⟩) (Y_X11_isIn) l_X11_119 st_X11_isIn rfl ⟨(Nat.le_of_ble_eq_true rfl), (Nat.le_of_ble_eq_true rfl), (Nat.le_of_ble_eq_true rfl), (Nat.le_of_ble_eq_true rfl)⟩ dX11_asks_26 ?_
      rintro _ _ ⟨rfl, rfl⟩
      refine ab_if_ne (tgt := 34) dX11_asks_29 (by decide) (fun c6 => ?_) (fun c6 => ?_)
      · have ht := ht.1 c6
        refine ab_aload_n (i := 0) dX11_asks_34 rfl rfl ?_
        refine ab_callV (b := 0) (As := []) ht (Y_X11_look) l_X11_166 in_X11_look se_X11_look (sh_k hs2 0 11 (by decide) rfl) (by decide) rfl rfl ⟨(Nat.le_of_ble_eq_true rfl), (Nat.le_of_ble_eq_true rfl), (Nat.le_of_ble_eq_true rfl), (Nat.le_of_ble_eq_true rfl)⟩ dX11_asks_35 ?_
        rintro _ h7 ⟨rfl, hs8, ht⟩
        refine ab_aload_n (i := 0) dX11_asks_38 rfl rfl ?_
        refine ab_getR (b := 1) f_X11_10 rfl (sh_k hs8 0 11 (by decide) rfl) (sh_r hs8 0 rfl) dX11_asks_39 ?_
        refine ab_getR (b := 4) f_X11_175 rfl (sh_k hs8 1 10 (by decide) rfl) (sh_r hs8 14 rfl) dX11_asks_42 ?_
        refine ab_iload_n (i := 1) dX11_asks_45 rfl rfl ?_
        refine ab_iconst (v := 1) dX11_asks_46 (by decide) ?_
        refine ab_callV (b := 4) (As := [.int x1, .int 1]) ht (Y_X7_get) l_X11_163 in_X7_get se_X7_get (sh_k hs8 4 7 (by decide) rfl) (by decide) rfl rfl ⟨(Nat.le_of_ble_eq_true rfl), (Nat.le_of_ble_eq_true rfl), (Nat.le_of_ble_eq_true rfl), (Nat.le_of_ble_eq_true rfl)⟩ dX11_asks_47 ?_
        rintro _ h10 ⟨v12, rfl, hs11, ht⟩
        refine ab_istore (i := 5) (L' := [some (.ref 0), some (.int x1), some (.int x2), some (.int x3), some (.int x4), some (.int v12), none]) dX11_asks_50 (by exact (Nat.le_of_ble_eq_true rfl)) rfl rfl ?_
        refine ab_iload (i := 4) dX11_asks_52 rfl ?_
        refine ab_if_eq (tgt := 74) dX11_asks_54 (by decide) (fun c13 => ?_) (fun c13 => ?_)
        · have ht := ht.1 c13
          refine ab_aload_n (i := 0) dX11_asks_74 rfl rfl ?_
          refine ab_getR (b := 1) f_X11_10 rfl (sh_k hs11 0 11 (by decide) rfl) (sh_r hs11 0 rfl) dX11_asks_75 ?_
          refine ab_getR (b := 4) f_X11_175 rfl (sh_k hs11 1 10 (by decide) rfl) (sh_r hs11 14 rfl) dX11_asks_78 ?_
          refine ab_iload_n (i := 2) dX11_asks_81 rfl rfl ?_
          refine ab_callV (b := 4) (As := [.int x2]) ht (Y_X7_has) l_X11_156 in_X7_has se_X7_has (sh_k hs11 4 7 (by decide) rfl) (by decide) rfl rfl ⟨(Nat.le_of_ble_eq_true rfl), (Nat.le_of_ble_eq_true rfl), (Nat.le_of_ble_eq_true rfl), (Nat.le_of_ble_eq_true rfl)⟩ dX11_asks_82 ?_
          rintro _ h14 ⟨v16, rfl, hs15, ht⟩
          refine ab_if_eq (tgt := 93) dX11_asks_85 (by decide) (fun c17 => ?_) (fun c17 => ?_)
          · have ht := ht.1 c17
            refine ab_iconst (v := (-1)) dX11_asks_93 (by decide) ?_
            exact ab_iret rfl dX11_asks_94 (Nat.le_of_ble_eq_true rfl) (Nat.le_of_ble_eq_true rfl) ht
          · have ht := ht.2 c17
            refine ab_iload_n (i := 2) dX11_asks_88 rfl rfl ?_
            refine ab_iload_n (i := 1) dX11_asks_89 rfl rfl ?_
            refine ab_icmp_ne (tgt := 95) dX11_asks_90 (by decide) (fun c18 => ?_) (fun c18 => ?_)
            · have ht := ht.1 c18
              refine ab_aload_n (i := 0) dX11_asks_95 rfl rfl ?_
              refine ab_getR (b := 29) f_X11_49 rfl (sh_k hs15 0 11 (by decide) rfl) (sh_r hs15 7 rfl) dX11_asks_96 ?_
              refine ab_aload_n (i := 0) dX11_asks_99 rfl rfl ?_
              refine ab_getR (b := 1) f_X11_10 rfl (sh_k hs15 0 11 (by decide) rfl) (sh_r hs15 0 rfl) dX11_asks_100 ?_
              refine ab_getR (b := 4) f_X11_175 rfl (sh_k hs15 1 10 (by decide) rfl) (sh_r hs15 14 rfl) dX11_asks_103 ?_
              refine ab_iload_n (i := 1) dX11_asks_106 rfl rfl ?_
              refine ab_iconst (v := 0) dX11_asks_107 (by decide) ?_
              refine ab_callV (b := 4) (As := [.int x1, .int 0]) ht (Y_X7_get) l_X11_163 in_X7_get se_X7_get (sh_k hs15 4 7 (by decide) rfl) (by decide) rfl rfl ⟨(Nat.le_of_ble_eq_true rfl), (Nat.le_of_ble_eq_true rfl), (Nat.le_of_ble_eq_true rfl), (Nat.le_of_ble_eq_true rfl)⟩ dX11_asks_108 ?_
              rintro _ h19 ⟨v21, rfl, hs20, ht⟩
              refine ab_aload_n (i := 0) dX11_asks_111 rfl rfl ?_
              refine ab_getR (b := 1) f_X11_10 rfl (sh_k hs20 0 11 (by decide) rfl) (sh_r hs20 0 rfl) dX11_asks_112 ?_
              refine ab_getR (b := 4) f_X11_175 rfl (sh_k hs20 1 10 (by decide) rfl) (sh_r hs20 14 rfl) dX11_asks_115 ?_
              refine ab_iload_n (i := 2) dX11_asks_118 rfl rfl ?_
              refine ab_iconst (v := 0) dX11_asks_119 (by decide) ?_
              refine ab_callV (b := 4) (As := [.int x2, .int 0]) ht (Y_X7_get) l_X11_163 in_X7_get se_X7_get (sh_k hs20 4 7 (by decide) rfl) (by decide) rfl rfl ⟨(Nat.le_of_ble_eq_true rfl), (Nat.le_of_ble_eq_true rfl), (Nat.le_of_ble_eq_true rfl), (Nat.le_of_ble_eq_true rfl)⟩ dX11_asks_120 ?_
              rintro _ h22 ⟨v24, rfl, hs23, ht⟩
              obtain ⟨hc25, ht⟩ := ht
              refine ab_callV (b := 29) (Q' := fun r h' => r = some (.int (f_X6_sight h22 v21 v24)) ∧ h22 = h') (As := [.int v21, .int v24]) (c_X6_sight hs23 v21 v24  hc25 ⟨rfl, rfl⟩) (Y_X6_sight) l_X11_172 in_X6_sight se_X6_sight (sh_k hs23 29 6 (by decide) rfl) (by decide) rfl rfl ⟨(Nat.le_of_ble_eq_true rfl), (Nat.le_of_ble_eq_true rfl), (Nat.le_of_ble_eq_true rfl), (Nat.le_of_ble_eq_true rfl)⟩ dX11_asks_123 ?_
              rintro _ _ ⟨rfl, rfl⟩
              refine ab_istore (i := 6) (L' := [some (.ref 0), some (.int x1), some (.int x2), some (.int x3), some (.int x4), some (.int v12), some (.int (f_X6_sight h22 v21 v24))]) dX11_asks_126 (by exact (Nat.le_of_ble_eq_true rfl)) rfl rfl ?_
              refine ab_aload_n (i := 0) dX11_asks_128 rfl rfl ?_
              refine ab_getR (b := 38) f_X11_58 rfl (sh_k hs23 0 11 (by decide) rfl) (sh_r hs23 8 rfl) dX11_asks_129 ?_
              refine ab_iconst (v := 0) dX11_asks_132 (by decide) ?_
              refine ab_iload_n (i := 1) dX11_asks_133 rfl rfl ?_
              refine ab_iload (i := 5) dX11_asks_134 rfl ?_
              refine ab_aload_n (i := 0) dX11_asks_136 rfl rfl ?_
              refine ab_getR (b := 1) f_X11_10 rfl (sh_k hs23 0 11 (by decide) rfl) (sh_r hs23 0 rfl) dX11_asks_137 ?_
              refine ab_getR (b := 4) f_X11_175 rfl (sh_k hs23 1 10 (by decide) rfl) (sh_r hs23 14 rfl) dX11_asks_140 ?_
              refine ab_iload_n (i := 2) dX11_asks_143 rfl rfl ?_
              refine ab_iconst (v := 1) dX11_asks_144 (by decide) ?_
              refine ab_callV (b := 4) (As := [.int x2, .int 1]) ht (Y_X7_get) l_X11_163 in_X7_get se_X7_get (sh_k hs23 4 7 (by decide) rfl) (by decide) rfl rfl ⟨(Nat.le_of_ble_eq_true rfl), (Nat.le_of_ble_eq_true rfl), (Nat.le_of_ble_eq_true rfl), (Nat.le_of_ble_eq_true rfl)⟩ dX11_asks_145 ?_
              rintro _ h26 ⟨v28, rfl, hs27, ht⟩
              refine ab_iload (i := 6) dX11_asks_148 rfl ?_
              refine ab_iload_n (i := 1) dX11_asks_150 rfl rfl ?_
              refine ab_iload_n (i := 2) dX11_asks_151 rfl rfl ?_
              refine ab_icmp_le (tgt := 159) dX11_asks_152 (by decide) (fun c29 => ?_) (fun c29 => ?_)
              · have ht := ht.1 c29
                refine ab_iconst (v := 0) dX11_asks_159 (by decide) ?_
                refine ab_iload_n (i := 3) dX11_asks_160 rfl rfl ?_
                refine ab_callV (b := 38) (As := [.int 0, .int x1, .int v12, .int v28, .int (f_X6_sight h22 v21 v24), .int 0, .int x3]) ht (Y_X8_ask) l_X11_231 in_X8_ask se_X8_ask (sh_k hs27 38 8 (by decide) rfl) (by decide) rfl rfl ⟨(Nat.le_of_ble_eq_true rfl), (Nat.le_of_ble_eq_true rfl), (Nat.le_of_ble_eq_true rfl), (Nat.le_of_ble_eq_true rfl)⟩ dX11_asks_161 ?_
                rintro _ h30 ⟨v32, rfl, hs31, ht⟩
                exact ab_iret rfl dX11_asks_164 (Nat.le_of_ble_eq_true rfl) (Nat.le_of_ble_eq_true rfl) ht
              · have ht := ht.2 c29
                refine ab_iconst (v := 1) dX11_asks_155 (by decide) ?_
                refine ab_goto (tgt := 160) dX11_asks_156 (by decide) ?_
                refine ab_iload_n (i := 3) dX11_asks_160 rfl rfl ?_
                refine ab_callV (b := 38) (As := [.int 0, .int x1, .int v12, .int v28, .int (f_X6_sight h22 v21 v24), .int 1, .int x3]) ht (Y_X8_ask) l_X11_231 in_X8_ask se_X8_ask (sh_k hs27 38 8 (by decide) rfl) (by decide) rfl rfl ⟨(Nat.le_of_ble_eq_true rfl), (Nat.le_of_ble_eq_true rfl), (Nat.le_of_ble_eq_true rfl), (Nat.le_of_ble_eq_true rfl)⟩ dX11_asks_161 ?_
                rintro _ h33 ⟨v35, rfl, hs34, ht⟩
                exact ab_iret rfl dX11_asks_164 (Nat.le_of_ble_eq_true rfl) (Nat.le_of_ble_eq_true rfl) ht
            · have ht := ht.2 c18
              refine ab_iconst (v := (-1)) dX11_asks_93 (by decide) ?_
              exact ab_iret rfl dX11_asks_94 (Nat.le_of_ble_eq_true rfl) (Nat.le_of_ble_eq_true rfl) ht
        · have ht := ht.2 c13
          refine ab_aload_n (i := 0) dX11_asks_57 rfl rfl ?_
          refine ab_getR (b := 38) f_X11_58 rfl (sh_k hs11 0 11 (by decide) rfl) (sh_r hs11 8 rfl) dX11_asks_58 ?_
          refine ab_iload (i := 4) dX11_asks_61 rfl ?_
          refine ab_iload_n (i := 1) dX11_asks_63 rfl rfl ?_
          refine ab_iload (i := 5) dX11_asks_64 rfl ?_
          refine ab_iconst (v := (-1)) dX11_asks_66 (by decide) ?_
          refine ab_iconst (v := (-1)) dX11_asks_67 (by decide) ?_
          refine ab_iconst (v := (-1)) dX11_asks_68 (by decide) ?_
          refine ab_iload_n (i := 3) dX11_asks_69 rfl rfl ?_
          refine ab_callV (b := 38) (As := [.int x4, .int x1, .int v12, .int (-1), .int (-1), .int (-1), .int x3]) ht (Y_X8_ask) l_X11_231 in_X8_ask se_X8_ask (sh_k hs11 38 8 (by decide) rfl) (by decide) rfl rfl ⟨(Nat.le_of_ble_eq_true rfl), (Nat.le_of_ble_eq_true rfl), (Nat.le_of_ble_eq_true rfl), (Nat.le_of_ble_eq_true rfl)⟩ dX11_asks_70 ?_
          rintro _ h36 ⟨v38, rfl, hs37, ht⟩
          exact ab_iret rfl dX11_asks_73 (Nat.le_of_ble_eq_true rfl) (Nat.le_of_ble_eq_true rfl) ht
      · have ht := ht.2 c6
        refine ab_iconst (v := (-1)) dX11_asks_32 (by decide) ?_
        exact ab_iret rfl dX11_asks_33 (Nat.le_of_ble_eq_true rfl) (Nat.le_of_ble_eq_true rfl) ht
theorem dX11_burns_0 : decode cX11_burns 0 = .ok (.aload_n 0, 1) := by decide +kernel
theorem dX11_burns_1 : decode cX11_burns 1 = .ok (.getfield 10, 3) := by decide +kernel
theorem dX11_burns_4 : decode cX11_burns 4 = .ok (.getfield 175, 3) := by decide +kernel
theorem dX11_burns_7 : decode cX11_burns 7 = .ok (.iload_n 1, 1) := by decide +kernel
theorem dX11_burns_8 : decode cX11_burns 8 = .ok (.invokevirtual 156, 3) := by decide +kernel
theorem dX11_burns_11 : decode cX11_burns 11 = .ok (.ifCond .eq 20, 3) := by decide +kernel
theorem dX11_burns_14 : decode cX11_burns 14 = .ok (.iload_n 2, 1) := by decide +kernel
theorem dX11_burns_15 : decode cX11_burns 15 = .ok (.bipush 120, 2) := by decide +kernel
theorem dX11_burns_17 : decode cX11_burns 17 = .ok (.invokestatic 119, 3) := by decide +kernel
theorem dX11_burns_20 : decode cX11_burns 20 = .ok (.ifCond .eq 11, 3) := by decide +kernel
theorem dX11_burns_23 : decode cX11_burns 23 = .ok (.iload_n 3, 1) := by decide +kernel
theorem dX11_burns_24 : decode cX11_burns 24 = .ok (.iconst 4, 1) := by decide +kernel
theorem dX11_burns_25 : decode cX11_burns 25 = .ok (.invokestatic 119, 3) := by decide +kernel
theorem dX11_burns_28 : decode cX11_burns 28 = .ok (.ifCond .ne 5, 3) := by decide +kernel
theorem dX11_burns_31 : decode cX11_burns 31 = .ok (.iconst (-1), 1) := by decide +kernel
theorem dX11_burns_32 : decode cX11_burns 32 = .ok (.ireturn, 1) := by decide +kernel
theorem dX11_burns_33 : decode cX11_burns 33 = .ok (.aload_n 0, 1) := by decide +kernel
theorem dX11_burns_34 : decode cX11_burns 34 = .ok (.invokevirtual 166, 3) := by decide +kernel
theorem dX11_burns_37 : decode cX11_burns 37 = .ok (.aload_n 0, 1) := by decide +kernel
theorem dX11_burns_38 : decode cX11_burns 38 = .ok (.getfield 76, 3) := by decide +kernel
theorem dX11_burns_41 : decode cX11_burns 41 = .ok (.invokevirtual 235, 3) := by decide +kernel
theorem dX11_burns_44 : decode cX11_burns 44 = .ok (.iload_n 3, 1) := by decide +kernel
theorem dX11_burns_45 : decode cX11_burns 45 = .ok (.tableswitch 69 0 2 #[27, 41, 56], 27) := by decide +kernel
theorem dX11_burns_72 : decode cX11_burns 72 = .ok (.aload_n 0, 1) := by decide +kernel
theorem dX11_burns_73 : decode cX11_burns 73 = .ok (.getfield 76, 3) := by decide +kernel
theorem dX11_burns_76 : decode cX11_burns 76 = .ok (.getfield 238, 3) := by decide +kernel
theorem dX11_burns_79 : decode cX11_burns 79 = .ok (.iload_n 2, 1) := by decide +kernel
theorem dX11_burns_80 : decode cX11_burns 80 = .ok (.iaload, 1) := by decide +kernel
theorem dX11_burns_81 : decode cX11_burns 81 = .ok (.iload_n 1, 1) := by decide +kernel
theorem dX11_burns_82 : decode cX11_burns 82 = .ok (.ishr, 1) := by decide +kernel
theorem dX11_burns_83 : decode cX11_burns 83 = .ok (.iconst 1, 1) := by decide +kernel
theorem dX11_burns_84 : decode cX11_burns 84 = .ok (.iand, 1) := by decide +kernel
theorem dX11_burns_85 : decode cX11_burns 85 = .ok (.ireturn, 1) := by decide +kernel
theorem dX11_burns_86 : decode cX11_burns 86 = .ok (.aload_n 0, 1) := by decide +kernel
theorem dX11_burns_87 : decode cX11_burns 87 = .ok (.getfield 76, 3) := by decide +kernel
theorem dX11_burns_90 : decode cX11_burns 90 = .ok (.getfield 241, 3) := by decide +kernel
theorem dX11_burns_93 : decode cX11_burns 93 = .ok (.iload_n 2, 1) := by decide +kernel
theorem dX11_burns_94 : decode cX11_burns 94 = .ok (.bipush 10, 2) := by decide +kernel
theorem dX11_burns_96 : decode cX11_burns 96 = .ok (.imul, 1) := by decide +kernel
theorem dX11_burns_97 : decode cX11_burns 97 = .ok (.iload_n 1, 1) := by decide +kernel
theorem dX11_burns_98 : decode cX11_burns 98 = .ok (.iadd, 1) := by decide +kernel
theorem dX11_burns_99 : decode cX11_burns 99 = .ok (.iaload, 1) := by decide +kernel
theorem dX11_burns_100 : decode cX11_burns 100 = .ok (.ireturn, 1) := by decide +kernel
theorem dX11_burns_101 : decode cX11_burns 101 = .ok (.aload_n 0, 1) := by decide +kernel
theorem dX11_burns_102 : decode cX11_burns 102 = .ok (.getfield 76, 3) := by decide +kernel
theorem dX11_burns_105 : decode cX11_burns 105 = .ok (.getfield 244, 3) := by decide +kernel
theorem dX11_burns_108 : decode cX11_burns 108 = .ok (.iload_n 1, 1) := by decide +kernel
theorem dX11_burns_109 : decode cX11_burns 109 = .ok (.iload_n 2, 1) := by decide +kernel
theorem dX11_burns_110 : decode cX11_burns 110 = .ok (.invokestatic 247, 3) := by decide +kernel
theorem dX11_burns_113 : decode cX11_burns 113 = .ok (.ireturn, 1) := by decide +kernel
theorem dX11_burns_114 : decode cX11_burns 114 = .ok (.aload_n 0, 1) := by decide +kernel
theorem dX11_burns_115 : decode cX11_burns 115 = .ok (.getfield 76, 3) := by decide +kernel
theorem dX11_burns_118 : decode cX11_burns 118 = .ok (.getfield 244, 3) := by decide +kernel
theorem dX11_burns_121 : decode cX11_burns 121 = .ok (.iload_n 2, 1) := by decide +kernel
theorem dX11_burns_122 : decode cX11_burns 122 = .ok (.iaload, 1) := by decide +kernel
theorem dX11_burns_123 : decode cX11_burns 123 = .ok (.iload_n 1, 1) := by decide +kernel
theorem dX11_burns_124 : decode cX11_burns 124 = .ok (.ishr, 1) := by decide +kernel
theorem dX11_burns_125 : decode cX11_burns 125 = .ok (.iconst 1, 1) := by decide +kernel
theorem dX11_burns_126 : decode cX11_burns 126 = .ok (.iand, 1) := by decide +kernel
theorem dX11_burns_127 : decode cX11_burns 127 = .ok (.ireturn, 1) := by decide +kernel
set_option maxRecDepth 20000 in
theorem T_X11_burns {Q : Option Value → ah_T → Prop} {h : ah_T} (hs : Sh h) (x1 : Int32) (x2 : Int32) (x3 : Int32) (ht : (Mt mX7_has [.ref 4, .int x1] h (ab_qi fun v3 h1 => Sh h1 ∧ ((v3 = 0 → Q (some (.int (-1))) h1) ∧ (¬ v3 = 0 → (((f_X11_isIn x2 120) = 0 → Q (some (.int (-1))) h1) ∧ (¬ (f_X11_isIn x2 120) = 0 → ((¬ (f_X11_isIn x3 4) = 0 → (Mt mX11_look [.ref 0] h1 (ab_qv fun h7 => Sh h7 ∧ (Mt mX0_relate [.ref 54] h7 (ab_qv fun h10 => Sh h10 ∧ ((x3 = 0 → (vp_in x2 (ah_n h10 55)) ∧ Q (some (.int (((ah_i h10 55 (Int32.toNatClampNeg x2)) >>> (x1 &&& 31)) &&& 1))) h10) ∧ (x3 = 1 → (vp_in ((x2 * 10) + x1) (ah_n h10 57)) ∧ Q (some (.int (ah_i h10 57 (Int32.toNatClampNeg ((x2 * 10) + x1))))) h10) ∧ (x3 = 2 → (Mt mX11_countBit [.ref 56, .int x1, .int x2] h10 (ab_qi fun v20 h18 => Sh h18 ∧ Q (some (.int v20)) h18))) ∧ (¬ x3 = 0 → ¬ x3 = 1 → ¬ x3 = 2 → (vp_in x2 (ah_n h10 56)) ∧ Q (some (.int (((ah_i h10 56 (Int32.toNatClampNeg x2)) >>> (x1 &&& 31)) &&& 1))) h10))))))) ∧ ((f_X11_isIn x3 4) = 0 → Q (some (.int (-1))) h1))))))))) : Mt mX11_burns [.ref 0, .int x1, .int x2, .int x3] h Q := by
  refine Mt.ofWp rfl (by exact (Nat.le_of_ble_eq_true rfl)) (Wp.fewer (L' := [some (.ref 0), some (.int x1), some (.int x2), some (.int x3)]) (show ab_leL _ _ from ⟨rfl, ⟨rfl, ⟨rfl, ⟨rfl, trivial⟩⟩⟩⟩) ?_)
  refine ab_aload_n (i := 0) dX11_burns_0 rfl rfl ?_
  refine ab_getR (b := 1) f_X11_10 rfl (sh_k hs 0 11 (by decide) rfl) (sh_r hs 0 rfl) dX11_burns_1 ?_
  refine ab_getR (b := 4) f_X11_175 rfl (sh_k hs 1 10 (by decide) rfl) (sh_r hs 14 rfl) dX11_burns_4 ?_
  refine ab_iload_n (i := 1) dX11_burns_7 rfl rfl ?_
  refine ab_callV (b := 4) (As := [.int x1]) ht (Y_X7_has) l_X11_156 in_X7_has se_X7_has (sh_k hs 4 7 (by decide) rfl) (by decide) rfl rfl ⟨(Nat.le_of_ble_eq_true rfl), (Nat.le_of_ble_eq_true rfl), (Nat.le_of_ble_eq_true rfl), (Nat.le_of_ble_eq_true rfl)⟩ dX11_burns_8 ?_
  rintro _ h1 ⟨v3, rfl, hs2, ht⟩
  refine ab_if_eq (tgt := 31) dX11_burns_11 (by decide) (fun c4 => ?_) (fun c4 => ?_)
  · have ht := ht.1 c4
    refine ab_iconst (v := (-1)) dX11_burns_31 (by decide) ?_
    exact ab_iret rfl dX11_burns_32 (Nat.le_of_ble_eq_true rfl) (Nat.le_of_ble_eq_true rfl) ht
  · have ht := ht.2 c4
    refine ab_iload_n (i := 2) dX11_burns_14 rfl rfl ?_
    refine ab_bipush (v := 120) dX11_burns_15 (by decide) ?_
    refine ab_callS (Q' := fun r h' => r = some (.int (f_X11_isIn x2 120)) ∧ h1 = h') (As := [.int x2, .int 120]) (c_X11_isIn hs2 x2 120 ⟨rfl, rfl⟩) (Y_X11_isIn) l_X11_119 st_X11_isIn rfl ⟨(Nat.le_of_ble_eq_true rfl), (Nat.le_of_ble_eq_true rfl), (Nat.le_of_ble_eq_true rfl), (Nat.le_of_ble_eq_true rfl)⟩ dX11_burns_17 ?_
    rintro _ _ ⟨rfl, rfl⟩
    refine ab_if_eq (tgt := 31) dX11_burns_20 (by decide) (fun c5 => ?_) (fun c5 => ?_)
    · have ht := ht.1 c5
      refine ab_iconst (v := (-1)) dX11_burns_31 (by decide) ?_
      exact ab_iret rfl dX11_burns_32 (Nat.le_of_ble_eq_true rfl) (Nat.le_of_ble_eq_true rfl) ht
    · have ht := ht.2 c5
      refine ab_iload_n (i := 3) dX11_burns_23 rfl rfl ?_
      refine ab_iconst (v := 4) dX11_burns_24 (by decide) ?_
      refine ab_callS (Q' := fun r h' => r = some (.int (f_X11_isIn x3 4)) ∧ h1 = h') (As := [.int x3, .int 4]) (c_X11_isIn hs2 x3 4 ⟨rfl, rfl⟩) (Y_X11_isIn) l_X11_119 st_X11_isIn rfl ⟨(Nat.le_of_ble_eq_true rfl), (Nat.le_of_ble_eq_true rfl), (Nat.le_of_ble_eq_true rfl), (Nat.le_of_ble_eq_true rfl)⟩ dX11_burns_25 ?_
      rintro _ _ ⟨rfl, rfl⟩
      refine ab_if_ne (tgt := 33) dX11_burns_28 (by decide) (fun c6 => ?_) (fun c6 => ?_)
      · have ht := ht.1 c6
        refine ab_aload_n (i := 0) dX11_burns_33 rfl rfl ?_
        refine ab_callV (b := 0) (As := []) ht (Y_X11_look) l_X11_166 in_X11_look se_X11_look (sh_k hs2 0 11 (by decide) rfl) (by decide) rfl rfl ⟨(Nat.le_of_ble_eq_true rfl), (Nat.le_of_ble_eq_true rfl), (Nat.le_of_ble_eq_true rfl), (Nat.le_of_ble_eq_true rfl)⟩ dX11_burns_34 ?_
        rintro _ h7 ⟨rfl, hs8, ht⟩
        refine ab_aload_n (i := 0) dX11_burns_37 rfl rfl ?_
        refine ab_getR (b := 54) f_X11_76 rfl (sh_k hs8 0 11 (by decide) rfl) (sh_r hs8 10 rfl) dX11_burns_38 ?_
        refine ab_callV (b := 54) (As := []) ht (Y_X0_relate) l_X11_235 in_X0_relate se_X0_relate (sh_k hs8 54 0 (by decide) rfl) (by decide) rfl rfl ⟨(Nat.le_of_ble_eq_true rfl), (Nat.le_of_ble_eq_true rfl), (Nat.le_of_ble_eq_true rfl), (Nat.le_of_ble_eq_true rfl)⟩ dX11_burns_41 ?_
        rintro _ h10 ⟨rfl, hs11, ht⟩
        refine ab_iload_n (i := 3) dX11_burns_44 rfl rfl ?_
        have ht0 := ht
        by_cases c13 : x3 = 0
        · have ht := (ht0.1) c13
          refine ab_tableIn (off := 27) (tgt := 72) dX11_burns_45 (by rw [c13]; decide) (by rw [c13]; decide) (by rw [c13]; rfl) (by decide) ?_
          refine ab_aload_n (i := 0) dX11_burns_72 rfl rfl ?_
          refine ab_getR (b := 54) f_X11_76 rfl (sh_k hs11 0 11 (by decide) rfl) (sh_r hs11 10 rfl) dX11_burns_73 ?_
          refine ab_getR (b := 55) f_X11_238 rfl (sh_k hs11 54 0 (by decide) rfl) (sh_r hs11 63 rfl) dX11_burns_76 ?_
          refine ab_iload_n (i := 2) dX11_burns_79 rfl rfl ?_
          obtain ⟨hc14, ht⟩ := ht
          refine ab_iald (sh_k hs11 55 14 (by decide) rfl) hc14 dX11_burns_80 ?_
          refine ab_iload_n (i := 1) dX11_burns_81 rfl rfl ?_
          refine ab_ishr dX11_burns_82 ?_
          refine ab_iconst (v := 1) dX11_burns_83 (by decide) ?_
          refine ab_iand dX11_burns_84 ?_
          exact ab_iret rfl dX11_burns_85 (Nat.le_of_ble_eq_true rfl) (Nat.le_of_ble_eq_true rfl) ht
        by_cases c15 : x3 = 1
        · have ht := (ht0.2.1) c15
          refine ab_tableIn (off := 41) (tgt := 86) dX11_burns_45 (by rw [c15]; decide) (by rw [c15]; decide) (by rw [c15]; rfl) (by decide) ?_
          refine ab_aload_n (i := 0) dX11_burns_86 rfl rfl ?_
          refine ab_getR (b := 54) f_X11_76 rfl (sh_k hs11 0 11 (by decide) rfl) (sh_r hs11 10 rfl) dX11_burns_87 ?_
          refine ab_getR (b := 57) f_X11_241 rfl (sh_k hs11 54 0 (by decide) rfl) (sh_r hs11 65 rfl) dX11_burns_90 ?_
          refine ab_iload_n (i := 2) dX11_burns_93 rfl rfl ?_
          refine ab_bipush (v := 10) dX11_burns_94 (by decide) ?_
          refine ab_imul dX11_burns_96 ?_
          refine ab_iload_n (i := 1) dX11_burns_97 rfl rfl ?_
          refine ab_iadd dX11_burns_98 ?_
          obtain ⟨hc16, ht⟩ := ht
          refine ab_iald (sh_k hs11 57 14 (by decide) rfl) hc16 dX11_burns_99 ?_
          exact ab_iret rfl dX11_burns_100 (Nat.le_of_ble_eq_true rfl) (Nat.le_of_ble_eq_true rfl) ht
        by_cases c17 : x3 = 2
        · have ht := (ht0.2.2.1) c17
          refine ab_tableIn (off := 56) (tgt := 101) dX11_burns_45 (by rw [c17]; decide) (by rw [c17]; decide) (by rw [c17]; rfl) (by decide) ?_
          refine ab_aload_n (i := 0) dX11_burns_101 rfl rfl ?_
          refine ab_getR (b := 54) f_X11_76 rfl (sh_k hs11 0 11 (by decide) rfl) (sh_r hs11 10 rfl) dX11_burns_102 ?_
          refine ab_getR (b := 56) f_X11_244 rfl (sh_k hs11 54 0 (by decide) rfl) (sh_r hs11 64 rfl) dX11_burns_105 ?_
          refine ab_iload_n (i := 1) dX11_burns_108 rfl rfl ?_
          refine ab_iload_n (i := 2) dX11_burns_109 rfl rfl ?_
          refine ab_callS (As := [.ref 56, .int x1, .int x2]) ht (Y_X11_countBit) l_X11_247 st_X11_countBit rfl ⟨(Nat.le_of_ble_eq_true rfl), (Nat.le_of_ble_eq_true rfl), (Nat.le_of_ble_eq_true rfl), (Nat.le_of_ble_eq_true rfl)⟩ dX11_burns_110 ?_
          rintro _ h18 ⟨v20, rfl, hs19, ht⟩
          exact ab_iret rfl dX11_burns_113 (Nat.le_of_ble_eq_true rfl) (Nat.le_of_ble_eq_true rfl) ht
        have ht := (ht0.2.2.2) c13 c15 c17
        refine ab_tableOut (tgt := 114) dX11_burns_45 (by
            have zc13 := lv_neT (a := 0) c13 (by decide)
            have zc15 := lv_neT (a := 1) c15 (by decide)
            have zc17 := lv_neT (a := 2) c17 (by decide)
            omega) (by decide) ?_
        refine ab_aload_n (i := 0) dX11_burns_114 rfl rfl ?_
        refine ab_getR (b := 54) f_X11_76 rfl (sh_k hs11 0 11 (by decide) rfl) (sh_r hs11 10 rfl) dX11_burns_115 ?_
        refine ab_getR (b := 56) f_X11_244 rfl (sh_k hs11 54 0 (by decide) rfl) (sh_r hs11 64 rfl) dX11_burns_118 ?_
        refine ab_iload_n (i := 2) dX11_burns_121 rfl rfl ?_
        obtain ⟨hc21, ht⟩ := ht
        refine ab_iald (sh_k hs11 56 14 (by decide) rfl) hc21 dX11_burns_122 ?_
        refine ab_iload_n (i := 1) dX11_burns_123 rfl rfl ?_
        refine ab_ishr dX11_burns_124 ?_
        refine ab_iconst (v := 1) dX11_burns_125 (by decide) ?_
        refine ab_iand dX11_burns_126 ?_
        exact ab_iret rfl dX11_burns_127 (Nat.le_of_ble_eq_true rfl) (Nat.le_of_ble_eq_true rfl) ht
      · have ht := ht.2 c6
        refine ab_iconst (v := (-1)) dX11_burns_31 (by decide) ?_
        exact ab_iret rfl dX11_burns_32 (Nat.le_of_ble_eq_true rfl) (Nat.le_of_ble_eq_true rfl) ht
theorem dX11_bright_0 : decode cX11_bright 0 = .ok (.iload_n 1, 1) := by decide +kernel
theorem dX11_bright_1 : decode cX11_bright 1 = .ok (.bipush 120, 2) := by decide +kernel
theorem dX11_bright_3 : decode cX11_bright 3 = .ok (.invokestatic 119, 3) := by decide +kernel
theorem dX11_bright_6 : decode cX11_bright 6 = .ok (.ifCond .ne 5, 3) := by decide +kernel
theorem dX11_bright_9 : decode cX11_bright 9 = .ok (.iconst (-1), 1) := by decide +kernel
theorem dX11_bright_10 : decode cX11_bright 10 = .ok (.ireturn, 1) := by decide +kernel
theorem dX11_bright_11 : decode cX11_bright 11 = .ok (.aload_n 0, 1) := by decide +kernel
theorem dX11_bright_12 : decode cX11_bright 12 = .ok (.invokevirtual 166, 3) := by decide +kernel
theorem dX11_bright_15 : decode cX11_bright 15 = .ok (.aload_n 0, 1) := by decide +kernel
theorem dX11_bright_16 : decode cX11_bright 16 = .ok (.getfield 76, 3) := by decide +kernel
theorem dX11_bright_19 : decode cX11_bright 19 = .ok (.invokevirtual 235, 3) := by decide +kernel
theorem dX11_bright_22 : decode cX11_bright 22 = .ok (.aload_n 0, 1) := by decide +kernel
theorem dX11_bright_23 : decode cX11_bright 23 = .ok (.getfield 76, 3) := by decide +kernel
theorem dX11_bright_26 : decode cX11_bright 26 = .ok (.iload_n 1, 1) := by decide +kernel
theorem dX11_bright_27 : decode cX11_bright 27 = .ok (.invokevirtual 251, 3) := by decide +kernel
theorem dX11_bright_30 : decode cX11_bright 30 = .ok (.ireturn, 1) := by decide +kernel
set_option maxRecDepth 20000 in
theorem T_X11_bright {Q : Option Value → ah_T → Prop} {h : ah_T} (hs : Sh h) (x1 : Int32) (ht : ((¬ (f_X11_isIn x1 120) = 0 → (Mt mX11_look [.ref 0] h (ab_qv fun h2 => Sh h2 ∧ (Mt mX0_relate [.ref 54] h2 (ab_qv fun h5 => Sh h5 ∧ (Mt mX0_lightAt [.ref 54, .int x1] h5 (ab_qi fun v10 h8 => Sh h8 ∧ Q (some (.int v10)) h8))))))) ∧ ((f_X11_isIn x1 120) = 0 → Q (some (.int (-1))) h))) : Mt mX11_bright [.ref 0, .int x1] h Q := by
  refine Mt.ofWp rfl (by exact (Nat.le_of_ble_eq_true rfl)) (Wp.fewer (L' := [some (.ref 0), some (.int x1)]) (show ab_leL _ _ from ⟨rfl, ⟨rfl, trivial⟩⟩) ?_)
  refine ab_iload_n (i := 1) dX11_bright_0 rfl rfl ?_
  refine ab_bipush (v := 120) dX11_bright_1 (by decide) ?_
  refine ab_callS (Q' := fun r h' => r = some (.int (f_X11_isIn x1 120)) ∧ h = h') (As := [.int x1, .int 120]) (c_X11_isIn hs x1 120 ⟨rfl, rfl⟩) (Y_X11_isIn) l_X11_119 st_X11_isIn rfl ⟨(Nat.le_of_ble_eq_true rfl), (Nat.le_of_ble_eq_true rfl), (Nat.le_of_ble_eq_true rfl), (Nat.le_of_ble_eq_true rfl)⟩ dX11_bright_3 ?_
  rintro _ _ ⟨rfl, rfl⟩
  refine ab_if_ne (tgt := 11) dX11_bright_6 (by decide) (fun c1 => ?_) (fun c1 => ?_)
  · have ht := ht.1 c1
    refine ab_aload_n (i := 0) dX11_bright_11 rfl rfl ?_
    refine ab_callV (b := 0) (As := []) ht (Y_X11_look) l_X11_166 in_X11_look se_X11_look (sh_k hs 0 11 (by decide) rfl) (by decide) rfl rfl ⟨(Nat.le_of_ble_eq_true rfl), (Nat.le_of_ble_eq_true rfl), (Nat.le_of_ble_eq_true rfl), (Nat.le_of_ble_eq_true rfl)⟩ dX11_bright_12 ?_
    rintro _ h2 ⟨rfl, hs3, ht⟩
    refine ab_aload_n (i := 0) dX11_bright_15 rfl rfl ?_
    refine ab_getR (b := 54) f_X11_76 rfl (sh_k hs3 0 11 (by decide) rfl) (sh_r hs3 10 rfl) dX11_bright_16 ?_
    refine ab_callV (b := 54) (As := []) ht (Y_X0_relate) l_X11_235 in_X0_relate se_X0_relate (sh_k hs3 54 0 (by decide) rfl) (by decide) rfl rfl ⟨(Nat.le_of_ble_eq_true rfl), (Nat.le_of_ble_eq_true rfl), (Nat.le_of_ble_eq_true rfl), (Nat.le_of_ble_eq_true rfl)⟩ dX11_bright_19 ?_
    rintro _ h5 ⟨rfl, hs6, ht⟩
    refine ab_aload_n (i := 0) dX11_bright_22 rfl rfl ?_
    refine ab_getR (b := 54) f_X11_76 rfl (sh_k hs6 0 11 (by decide) rfl) (sh_r hs6 10 rfl) dX11_bright_23 ?_
    refine ab_iload_n (i := 1) dX11_bright_26 rfl rfl ?_
    refine ab_callV (b := 54) (As := [.int x1]) ht (Y_X0_lightAt) l_X11_251 in_X0_lightAt se_X0_lightAt (sh_k hs6 54 0 (by decide) rfl) (by decide) rfl rfl ⟨(Nat.le_of_ble_eq_true rfl), (Nat.le_of_ble_eq_true rfl), (Nat.le_of_ble_eq_true rfl), (Nat.le_of_ble_eq_true rfl)⟩ dX11_bright_27 ?_
    rintro _ h8 ⟨v10, rfl, hs9, ht⟩
    exact ab_iret rfl dX11_bright_30 (Nat.le_of_ble_eq_true rfl) (Nat.le_of_ble_eq_true rfl) ht
  · have ht := ht.2 c1
    refine ab_iconst (v := (-1)) dX11_bright_9 (by decide) ?_
    exact ab_iret rfl dX11_bright_10 (Nat.le_of_ble_eq_true rfl) (Nat.le_of_ble_eq_true rfl) ht
theorem dX11_night_0 : decode cX11_night 0 = .ok (.iload_n 1, 1) := by decide +kernel
theorem dX11_night_1 : decode cX11_night 1 = .ok (.iconst (-1), 1) := by decide +kernel
theorem dX11_night_2 : decode cX11_night 2 = .ok (.if_icmp .eq 17, 3) := by decide +kernel
theorem dX11_night_5 : decode cX11_night 5 = .ok (.aload_n 0, 1) := by decide +kernel
theorem dX11_night_6 : decode cX11_night 6 = .ok (.getfield 10, 3) := by decide +kernel
theorem dX11_night_9 : decode cX11_night 9 = .ok (.getfield 175, 3) := by decide +kernel
theorem dX11_night_12 : decode cX11_night 12 = .ok (.iload_n 1, 1) := by decide +kernel
theorem dX11_night_13 : decode cX11_night 13 = .ok (.invokevirtual 156, 3) := by decide +kernel
theorem dX11_night_16 : decode cX11_night 16 = .ok (.ifCond .eq 11, 3) := by decide +kernel
theorem dX11_night_19 : decode cX11_night 19 = .ok (.iload_n 2, 1) := by decide +kernel
theorem dX11_night_20 : decode cX11_night 20 = .ok (.iconst 3, 1) := by decide +kernel
theorem dX11_night_21 : decode cX11_night 21 = .ok (.invokestatic 119, 3) := by decide +kernel
theorem dX11_night_24 : decode cX11_night 24 = .ok (.ifCond .ne 5, 3) := by decide +kernel
theorem dX11_night_27 : decode cX11_night 27 = .ok (.iconst (-1), 1) := by decide +kernel
theorem dX11_night_28 : decode cX11_night 28 = .ok (.ireturn, 1) := by decide +kernel
theorem dX11_night_29 : decode cX11_night 29 = .ok (.aload_n 0, 1) := by decide +kernel
theorem dX11_night_30 : decode cX11_night 30 = .ok (.invokevirtual 166, 3) := by decide +kernel
theorem dX11_night_33 : decode cX11_night 33 = .ok (.aload_n 0, 1) := by decide +kernel
theorem dX11_night_34 : decode cX11_night 34 = .ok (.getfield 76, 3) := by decide +kernel
theorem dX11_night_37 : decode cX11_night 37 = .ok (.invokevirtual 235, 3) := by decide +kernel
theorem dX11_night_40 : decode cX11_night 40 = .ok (.iload_n 1, 1) := by decide +kernel
theorem dX11_night_41 : decode cX11_night 41 = .ok (.iconst (-1), 1) := by decide +kernel
theorem dX11_night_42 : decode cX11_night 42 = .ok (.if_icmp .ne 7, 3) := by decide +kernel
theorem dX11_night_45 : decode cX11_night 45 = .ok (.iconst 0, 1) := by decide +kernel
theorem dX11_night_46 : decode cX11_night 46 = .ok (.goto 4, 3) := by decide +kernel
theorem dX11_night_49 : decode cX11_night 49 = .ok (.iload_n 1, 1) := by decide +kernel
theorem dX11_night_50 : decode cX11_night 50 = .ok (.istore_n 3, 1) := by decide +kernel
theorem dX11_night_51 : decode cX11_night 51 = .ok (.iload_n 1, 1) := by decide +kernel
theorem dX11_night_52 : decode cX11_night 52 = .ok (.iconst (-1), 1) := by decide +kernel
theorem dX11_night_53 : decode cX11_night 53 = .ok (.if_icmp .ne 18, 3) := by decide +kernel
theorem dX11_night_56 : decode cX11_night 56 = .ok (.aload_n 0, 1) := by decide +kernel
theorem dX11_night_57 : decode cX11_night 57 = .ok (.getfield 10, 3) := by decide +kernel
theorem dX11_night_60 : decode cX11_night 60 = .ok (.getfield 175, 3) := by decide +kernel
theorem dX11_night_63 : decode cX11_night 63 = .ok (.getfield 187, 3) := by decide +kernel
theorem dX11_night_66 : decode cX11_night 66 = .ok (.iconst 1, 1) := by decide +kernel
theorem dX11_night_67 : decode cX11_night 67 = .ok (.isub, 1) := by decide +kernel
theorem dX11_night_68 : decode cX11_night 68 = .ok (.goto 4, 3) := by decide +kernel
theorem dX11_night_71 : decode cX11_night 71 = .ok (.iload_n 1, 1) := by decide +kernel
theorem dX11_night_72 : decode cX11_night 72 = .ok (.istore 4, 2) := by decide +kernel
theorem dX11_night_74 : decode cX11_night 74 = .ok (.iload_n 2, 1) := by decide +kernel
theorem dX11_night_75 : decode cX11_night 75 = .ok (.iconst 2, 1) := by decide +kernel
theorem dX11_night_76 : decode cX11_night 76 = .ok (.if_icmp .ne 25, 3) := by decide +kernel
theorem dX11_night_79 : decode cX11_night 79 = .ok (.aload_n 0, 1) := by decide +kernel
theorem dX11_night_80 : decode cX11_night 80 = .ok (.getfield 76, 3) := by decide +kernel
theorem dX11_night_83 : decode cX11_night 83 = .ok (.iload_n 1, 1) := by decide +kernel
theorem dX11_night_84 : decode cX11_night 84 = .ok (.iconst (-1), 1) := by decide +kernel
theorem dX11_night_85 : decode cX11_night 85 = .ok (.if_icmp .ne 9, 3) := by decide +kernel
theorem dX11_night_88 : decode cX11_night 88 = .ok (.sipush 1023, 3) := by decide +kernel
theorem dX11_night_91 : decode cX11_night 91 = .ok (.goto 6, 3) := by decide +kernel
theorem dX11_night_94 : decode cX11_night 94 = .ok (.iconst 1, 1) := by decide +kernel
theorem dX11_night_95 : decode cX11_night 95 = .ok (.iload_n 1, 1) := by decide +kernel
theorem dX11_night_96 : decode cX11_night 96 = .ok (.ishl, 1) := by decide +kernel
theorem dX11_night_97 : decode cX11_night 97 = .ok (.invokevirtual 254, 3) := by decide +kernel
theorem dX11_night_100 : decode cX11_night 100 = .ok (.ireturn, 1) := by decide +kernel
theorem dX11_night_101 : decode cX11_night 101 = .ok (.iconst 0, 1) := by decide +kernel
theorem dX11_night_102 : decode cX11_night 102 = .ok (.istore 5, 2) := by decide +kernel
theorem dX11_night_104 : decode cX11_night 104 = .ok (.iload_n 3, 1) := by decide +kernel
theorem dX11_night_105 : decode cX11_night 105 = .ok (.istore 6, 2) := by decide +kernel
theorem dX11_night_107 : decode cX11_night 107 = .ok (.iload 6, 2) := by decide +kernel
theorem dX11_night_109 : decode cX11_night 109 = .ok (.iload 4, 2) := by decide +kernel
theorem dX11_night_111 : decode cX11_night 111 = .ok (.if_icmp .gt 42, 3) := by decide +kernel
theorem dX11_night_114 : decode cX11_night 114 = .ok (.iload 5, 2) := by decide +kernel
theorem dX11_night_116 : decode cX11_night 116 = .ok (.iload_n 2, 1) := by decide +kernel
theorem dX11_night_117 : decode cX11_night 117 = .ok (.ifCond .ne 13, 3) := by decide +kernel
theorem dX11_night_120 : decode cX11_night 120 = .ok (.aload_n 0, 1) := by decide +kernel
theorem dX11_night_121 : decode cX11_night 121 = .ok (.getfield 76, 3) := by decide +kernel
theorem dX11_night_124 : decode cX11_night 124 = .ok (.getfield 238, 3) := by decide +kernel
theorem dX11_night_127 : decode cX11_night 127 = .ok (.goto 10, 3) := by decide +kernel
theorem dX11_night_130 : decode cX11_night 130 = .ok (.aload_n 0, 1) := by decide +kernel
theorem dX11_night_131 : decode cX11_night 131 = .ok (.getfield 76, 3) := by decide +kernel
theorem dX11_night_134 : decode cX11_night 134 = .ok (.getfield 244, 3) := by decide +kernel
theorem dX11_night_137 : decode cX11_night 137 = .ok (.iload 6, 2) := by decide +kernel
theorem dX11_night_139 : decode cX11_night 139 = .ok (.bipush 119, 2) := by decide +kernel
theorem dX11_night_141 : decode cX11_night 141 = .ok (.invokestatic 247, 3) := by decide +kernel
theorem dX11_night_144 : decode cX11_night 144 = .ok (.iadd, 1) := by decide +kernel
theorem dX11_night_145 : decode cX11_night 145 = .ok (.istore 5, 2) := by decide +kernel
theorem dX11_night_147 : decode cX11_night 147 = .ok (.iinc 6 1, 3) := by decide +kernel
theorem dX11_night_150 : decode cX11_night 150 = .ok (.goto (-43), 3) := by decide +kernel
theorem dX11_night_153 : decode cX11_night 153 = .ok (.iload 5, 2) := by decide +kernel
theorem dX11_night_155 : decode cX11_night 155 = .ok (.ireturn, 1) := by decide +kernel
set_option maxRecDepth 20000 in
theorem T_X11_night_107 {Q : Option Value → ah_T → Prop} {h : ah_T} (hs : Sh h) (x2 : Int32) (x4 : Int32) (x5 : Int32) (x6 : Int32) (ht : ((x4 < x6 → Q (some (.int x5)) h) ∧ (¬ x4 < x6 → ((¬ x2 = 0 → (Mt mX11_countBit [.ref 56, .int x6, .int 119] h (ab_qi fun v94 h92 => Sh h92 ∧ Wp mX11_night Q 0 0 107 [some (.ref 0), none, some (.int x2), none, some (.int x4), some (.int (x5 + v94)), some (.int (x6 + 1))] [] h92))) ∧ (x2 = 0 → (Mt mX11_countBit [.ref 55, .int x6, .int 119] h (ab_qi fun v97 h95 => Sh h95 ∧ Wp mX11_night Q 0 0 107 [some (.ref 0), none, some (.int x2), none, some (.int x4), some (.int (x5 + v97)), some (.int (x6 + 1))] [] h95))))))) : Wp mX11_night Q 0 0 107 [some (.ref 0), none, some (.int x2), none, some (.int x4), some (.int x5), some (.int x6)] [] h := by
  refine ab_iload (i := 6) dX11_night_107 rfl ?_
  refine ab_iload (i := 4) dX11_night_109 rfl ?_
  refine ab_icmp_gt (tgt := 153) dX11_night_111 (by decide) (fun c90 => ?_) (fun c90 => ?_)
  · have ht := ht.1 c90
    refine ab_iload (i := 5) dX11_night_153 rfl ?_
    exact ab_iret rfl dX11_night_155 (Nat.le_of_ble_eq_true rfl) (Nat.le_of_ble_eq_true rfl) ht
  · have ht := ht.2 c90
    refine ab_iload (i := 5) dX11_night_114 rfl ?_
    refine ab_iload_n (i := 2) dX11_night_116 rfl rfl ?_
    refine ab_if_ne (tgt := 130) dX11_night_117 (by decide) (fun c91 => ?_) (fun c91 => ?_)
    · have ht := ht.1 c91
      refine ab_aload_n (i := 0) dX11_night_130 rfl rfl ?_
      refine ab_getR (b := 54) f_X11_76 rfl (sh_k hs 0 11 (by decide) rfl) (sh_r hs 10 rfl) dX11_night_131 ?_
      refine ab_getR (b := 56) f_X11_244 rfl (sh_k hs 54 0 (by decide) rfl) (sh_r hs 64 rfl) dX11_night_134 ?_
      refine ab_iload (i := 6) dX11_night_137 rfl ?_
      refine ab_bipush (v := 119) dX11_night_139 (by decide) ?_
      refine ab_callS (As := [.ref 56, .int x6, .int 119]) ht (Y_X11_countBit) l_X11_247 st_X11_countBit rfl ⟨(Nat.le_of_ble_eq_true rfl), (Nat.le_of_ble_eq_true rfl), (Nat.le_of_ble_eq_true rfl), (Nat.le_of_ble_eq_true rfl)⟩ dX11_night_141 ?_
      rintro _ h92 ⟨v94, rfl, hs93, ht⟩
      refine ab_iadd dX11_night_144 ?_
      refine ab_istore (i := 5) (L' := [some (.ref 0), none, some (.int x2), none, some (.int x4), some (.int (x5 + v94)), some (.int x6)]) dX11_night_145 (by exact (Nat.le_of_ble_eq_true rfl)) rfl rfl ?_
      refine ab_iinc (i := 6) (x := x6) (v := (x6 + 1)) (L' := [some (.ref 0), none, some (.int x2), none, some (.int x4), some (.int (x5 + v94)), some (.int (x6 + 1))]) dX11_night_147 rfl rfl (by exact (Nat.le_of_ble_eq_true rfl)) rfl rfl ?_
      refine ab_goto (tgt := 107) dX11_night_150 (by decide) ?_
      exact Wp.fewer (L' := [some (.ref 0), none, some (.int x2), none, some (.int x4), some (.int (x5 + v94)), some (.int (x6 + 1))]) (show ab_leL _ _ from ⟨rfl, ⟨rfl, ⟨rfl, ⟨rfl, ⟨rfl, trivial⟩⟩⟩⟩⟩) ht
    · have ht := ht.2 c91
      refine ab_aload_n (i := 0) dX11_night_120 rfl rfl ?_
      refine ab_getR (b := 54) f_X11_76 rfl (sh_k hs 0 11 (by decide) rfl) (sh_r hs 10 rfl) dX11_night_121 ?_
      refine ab_getR (b := 55) f_X11_238 rfl (sh_k hs 54 0 (by decide) rfl) (sh_r hs 63 rfl) dX11_night_124 ?_
      refine ab_goto (tgt := 137) dX11_night_127 (by decide) ?_
      refine ab_iload (i := 6) dX11_night_137 rfl ?_
      refine ab_bipush (v := 119) dX11_night_139 (by decide) ?_
      refine ab_callS (As := [.ref 55, .int x6, .int 119]) ht (Y_X11_countBit) l_X11_247 st_X11_countBit rfl ⟨(Nat.le_of_ble_eq_true rfl), (Nat.le_of_ble_eq_true rfl), (Nat.le_of_ble_eq_true rfl), (Nat.le_of_ble_eq_true rfl)⟩ dX11_night_141 ?_
      rintro _ h95 ⟨v97, rfl, hs96, ht⟩
      refine ab_iadd dX11_night_144 ?_
      refine ab_istore (i := 5) (L' := [some (.ref 0), none, some (.int x2), none, some (.int x4), some (.int (x5 + v97)), some (.int x6)]) dX11_night_145 (by exact (Nat.le_of_ble_eq_true rfl)) rfl rfl ?_
      refine ab_iinc (i := 6) (x := x6) (v := (x6 + 1)) (L' := [some (.ref 0), none, some (.int x2), none, some (.int x4), some (.int (x5 + v97)), some (.int (x6 + 1))]) dX11_night_147 rfl rfl (by exact (Nat.le_of_ble_eq_true rfl)) rfl rfl ?_
      refine ab_goto (tgt := 107) dX11_night_150 (by decide) ?_
      exact Wp.fewer (L' := [some (.ref 0), none, some (.int x2), none, some (.int x4), some (.int (x5 + v97)), some (.int (x6 + 1))]) (show ab_leL _ _ from ⟨rfl, ⟨rfl, ⟨rfl, ⟨rfl, ⟨rfl, trivial⟩⟩⟩⟩⟩) ht
set_option maxRecDepth 20000 in
theorem T_X11_night {Q : Option Value → ah_T → Prop} {h : ah_T} (hs : Sh h) (x1 : Int32) (x2 : Int32) (ht : ((x1 = (-1) → ((¬ (f_X11_isIn x2 3) = 0 → (Mt mX11_look [.ref 0] h (ab_qv fun h3 => Sh h3 ∧ (Mt mX0_relate [.ref 54] h3 (ab_qv fun h6 => Sh h6 ∧ ((¬ x1 = (-1) → ((¬ x1 = (-1) → ((¬ x2 = 2 → Wp mX11_night Q 0 0 107 [some (.ref 0), none, some (.int x2), none, some (.int x1), some (.int 0), some (.int x1)] [] h6) ∧ (x2 = 2 → ((¬ x1 = (-1) → (Mt mX0_firstOut [.ref 54, .int ((1 : Int32) <<< (x1 &&& 31))] h6 (ab_qi fun v15 h13 => Sh h13 ∧ Q (some (.int v15)) h13))) ∧ (x1 = (-1) → (Mt mX0_firstOut [.ref 54, .int 1023] h6 (ab_qi fun v18 h16 => Sh h16 ∧ Q (some (.int v18)) h16))))))) ∧ (x1 = (-1) → ((¬ x2 = 2 → Wp mX11_night Q 0 0 107 [some (.ref 0), none, some (.int x2), none, some (.int ((ah_i h6 4 3) - 1)), some (.int 0), some (.int x1)] [] h6) ∧ (x2 = 2 → ((¬ x1 = (-1) → (Mt mX0_firstOut [.ref 54, .int ((1 : Int32) <<< (x1 &&& 31))] h6 (ab_qi fun v23 h21 => Sh h21 ∧ Q (some (.int v23)) h21))) ∧ (x1 = (-1) → (Mt mX0_firstOut [.ref 54, .int 1023] h6 (ab_qi fun v26 h24 => Sh h24 ∧ Q (some (.int v26)) h24))))))))) ∧ (x1 = (-1) → ((¬ x1 = (-1) → ((¬ x2 = 2 → Wp mX11_night Q 0 0 107 [some (.ref 0), none, some (.int x2), none, some (.int x1), some (.int 0), some (.int 0)] [] h6) ∧ (x2 = 2 → ((¬ x1 = (-1) → (Mt mX0_firstOut [.ref 54, .int ((1 : Int32) <<< (x1 &&& 31))] h6 (ab_qi fun v32 h30 => Sh h30 ∧ Q (some (.int v32)) h30))) ∧ (x1 = (-1) → (Mt mX0_firstOut [.ref 54, .int 1023] h6 (ab_qi fun v35 h33 => Sh h33 ∧ Q (some (.int v35)) h33))))))) ∧ (x1 = (-1) → ((¬ x2 = 2 → Wp mX11_night Q 0 0 107 [some (.ref 0), none, some (.int x2), none, some (.int ((ah_i h6 4 3) - 1)), some (.int 0), some (.int 0)] [] h6) ∧ (x2 = 2 → ((¬ x1 = (-1) → (Mt mX0_firstOut [.ref 54, .int ((1 : Int32) <<< (x1 &&& 31))] h6 (ab_qi fun v40 h38 => Sh h38 ∧ Q (some (.int v40)) h38))) ∧ (x1 = (-1) → (Mt mX0_firstOut [.ref 54, .int 1023] h6 (ab_qi fun v43 h41 => Sh h41 ∧ Q (some (.int v43)) h41))))))))))))))) ∧ ((f_X11_isIn x2 3) = 0 → Q (some (.int (-1))) h))) ∧ (¬ x1 = (-1) → (Mt mX7_has [.ref 4, .int x1] h (ab_qi fun v46 h44 => Sh h44 ∧ ((v46 = 0 → Q (some (.int (-1))) h44) ∧ (¬ v46 = 0 → ((¬ (f_X11_isIn x2 3) = 0 → (Mt mX11_look [.ref 0] h44 (ab_qv fun h49 => Sh h49 ∧ (Mt mX0_relate [.ref 54] h49 (ab_qv fun h52 => Sh h52 ∧ ((¬ x1 = (-1) → ((¬ x1 = (-1) → ((¬ x2 = 2 → Wp mX11_night Q 0 0 107 [some (.ref 0), none, some (.int x2), none, some (.int x1), some (.int 0), some (.int x1)] [] h52) ∧ (x2 = 2 → ((¬ x1 = (-1) → (Mt mX0_firstOut [.ref 54, .int ((1 : Int32) <<< (x1 &&& 31))] h52 (ab_qi fun v61 h59 => Sh h59 ∧ Q (some (.int v61)) h59))) ∧ (x1 = (-1) → (Mt mX0_firstOut [.ref 54, .int 1023] h52 (ab_qi fun v64 h62 => Sh h62 ∧ Q (some (.int v64)) h62))))))) ∧ (x1 = (-1) → ((¬ x2 = 2 → Wp mX11_night Q 0 0 107 [some (.ref 0), none, some (.int x2), none, some (.int ((ah_i h52 4 3) - 1)), some (.int 0), some (.int x1)] [] h52) ∧ (x2 = 2 → ((¬ x1 = (-1) → (Mt mX0_firstOut [.ref 54, .int ((1 : Int32) <<< (x1 &&& 31))] h52 (ab_qi fun v69 h67 => Sh h67 ∧ Q (some (.int v69)) h67))) ∧ (x1 = (-1) → (Mt mX0_firstOut [.ref 54, .int 1023] h52 (ab_qi fun v72 h70 => Sh h70 ∧ Q (some (.int v72)) h70))))))))) ∧ (x1 = (-1) → ((¬ x1 = (-1) → ((¬ x2 = 2 → Wp mX11_night Q 0 0 107 [some (.ref 0), none, some (.int x2), none, some (.int x1), some (.int 0), some (.int 0)] [] h52) ∧ (x2 = 2 → ((¬ x1 = (-1) → (Mt mX0_firstOut [.ref 54, .int ((1 : Int32) <<< (x1 &&& 31))] h52 (ab_qi fun v78 h76 => Sh h76 ∧ Q (some (.int v78)) h76))) ∧ (x1 = (-1) → (Mt mX0_firstOut [.ref 54, .int 1023] h52 (ab_qi fun v81 h79 => Sh h79 ∧ Q (some (.int v81)) h79))))))) ∧ (x1 = (-1) → ((¬ x2 = 2 → Wp mX11_night Q 0 0 107 [some (.ref 0), none, some (.int x2), none, some (.int ((ah_i h52 4 3) - 1)), some (.int 0), some (.int 0)] [] h52) ∧ (x2 = 2 → ((¬ x1 = (-1) → (Mt mX0_firstOut [.ref 54, .int ((1 : Int32) <<< (x1 &&& 31))] h52 (ab_qi fun v86 h84 => Sh h84 ∧ Q (some (.int v86)) h84))) ∧ (x1 = (-1) → (Mt mX0_firstOut [.ref 54, .int 1023] h52 (ab_qi fun v89 h87 => Sh h87 ∧ Q (some (.int v89)) h87))))))))))))))) ∧ ((f_X11_isIn x2 3) = 0 → Q (some (.int (-1))) h44))))))))) : Mt mX11_night [.ref 0, .int x1, .int x2] h Q := by
  refine Mt.ofWp rfl (by exact (Nat.le_of_ble_eq_true rfl)) (Wp.fewer (L' := [some (.ref 0), some (.int x1), some (.int x2), none, none, none, none]) (show ab_leL _ _ from ⟨rfl, ⟨rfl, ⟨rfl, trivial⟩⟩⟩) ?_)
  refine ab_iload_n (i := 1) dX11_night_0 rfl rfl ?_
  refine ab_iconst (v := (-1)) dX11_night_1 (by decide) ?_
  refine ab_icmp_eq (tgt := 19) dX11_night_2 (by decide) (fun c1 => ?_) (fun c1 => ?_)
  · have ht := ht.1 c1
    refine ab_iload_n (i := 2) dX11_night_19 rfl rfl ?_
    refine ab_iconst (v := 3) dX11_night_20 (by decide) ?_
    refine ab_callS (Q' := fun r h' => r = some (.int (f_X11_isIn x2 3)) ∧ h = h') (As := [.int x2, .int 3]) (c_X11_isIn hs x2 3 ⟨rfl, rfl⟩) (Y_X11_isIn) l_X11_119 st_X11_isIn rfl ⟨(Nat.le_of_ble_eq_true rfl), (Nat.le_of_ble_eq_true rfl), (Nat.le_of_ble_eq_true rfl), (Nat.le_of_ble_eq_true rfl)⟩ dX11_night_21 ?_
    rintro _ _ ⟨rfl, rfl⟩
    refine ab_if_ne (tgt := 29) dX11_night_24 (by decide) (fun c2 => ?_) (fun c2 => ?_)
    · have ht := ht.1 c2
      refine ab_aload_n (i := 0) dX11_night_29 rfl rfl ?_
      refine ab_callV (b := 0) (As := []) ht (Y_X11_look) l_X11_166 in_X11_look se_X11_look (sh_k hs 0 11 (by decide) rfl) (by decide) rfl rfl ⟨(Nat.le_of_ble_eq_true rfl), (Nat.le_of_ble_eq_true rfl), (Nat.le_of_ble_eq_true rfl), (Nat.le_of_ble_eq_true rfl)⟩ dX11_night_30 ?_
      rintro _ h3 ⟨rfl, hs4, ht⟩
      refine ab_aload_n (i := 0) dX11_night_33 rfl rfl ?_
      refine ab_getR (b := 54) f_X11_76 rfl (sh_k hs4 0 11 (by decide) rfl) (sh_r hs4 10 rfl) dX11_night_34 ?_
      refine ab_callV (b := 54) (As := []) ht (Y_X0_relate) l_X11_235 in_X0_relate se_X0_relate (sh_k hs4 54 0 (by decide) rfl) (by decide) rfl rfl ⟨(Nat.le_of_ble_eq_true rfl), (Nat.le_of_ble_eq_true rfl), (Nat.le_of_ble_eq_true rfl), (Nat.le_of_ble_eq_true rfl)⟩ dX11_night_37 ?_
      rintro _ h6 ⟨rfl, hs7, ht⟩
      refine ab_iload_n (i := 1) dX11_night_40 rfl rfl ?_
      refine ab_iconst (v := (-1)) dX11_night_41 (by decide) ?_
      refine ab_icmp_ne (tgt := 49) dX11_night_42 (by decide) (fun c9 => ?_) (fun c9 => ?_)
      · have ht := ht.1 c9
        refine ab_iload_n (i := 1) dX11_night_49 rfl rfl ?_
        refine ab_istore_n (i := 3) (L' := [some (.ref 0), some (.int x1), some (.int x2), some (.int x1), none, none, none]) dX11_night_50 rfl (by exact (Nat.le_of_ble_eq_true rfl)) rfl rfl ?_
        refine ab_iload_n (i := 1) dX11_night_51 rfl rfl ?_
        refine ab_iconst (v := (-1)) dX11_night_52 (by decide) ?_
        refine ab_icmp_ne (tgt := 71) dX11_night_53 (by decide) (fun c10 => ?_) (fun c10 => ?_)
        · have ht := ht.1 c10
          refine ab_iload_n (i := 1) dX11_night_71 rfl rfl ?_
          refine ab_istore (i := 4) (L' := [some (.ref 0), some (.int x1), some (.int x2), some (.int x1), some (.int x1), none, none]) dX11_night_72 (by exact (Nat.le_of_ble_eq_true rfl)) rfl rfl ?_
          refine ab_iload_n (i := 2) dX11_night_74 rfl rfl ?_
          refine ab_iconst (v := 2) dX11_night_75 (by decide) ?_
          refine ab_icmp_ne (tgt := 101) dX11_night_76 (by decide) (fun c11 => ?_) (fun c11 => ?_)
          · have ht := ht.1 c11
            refine ab_iconst (v := 0) dX11_night_101 (by decide) ?_
            refine ab_istore (i := 5) (L' := [some (.ref 0), some (.int x1), some (.int x2), some (.int x1), some (.int x1), some (.int 0), none]) dX11_night_102 (by exact (Nat.le_of_ble_eq_true rfl)) rfl rfl ?_
            refine ab_iload_n (i := 3) dX11_night_104 rfl rfl ?_
            refine ab_istore (i := 6) (L' := [some (.ref 0), some (.int x1), some (.int x2), some (.int x1), some (.int x1), some (.int 0), some (.int x1)]) dX11_night_105 (by exact (Nat.le_of_ble_eq_true rfl)) rfl rfl ?_
            exact Wp.fewer (L' := [some (.ref 0), none, some (.int x2), none, some (.int x1), some (.int 0), some (.int x1)]) (show ab_leL _ _ from ⟨rfl, ⟨rfl, ⟨rfl, ⟨rfl, ⟨rfl, trivial⟩⟩⟩⟩⟩) ht
          · have ht := ht.2 c11
            refine ab_aload_n (i := 0) dX11_night_79 rfl rfl ?_
            refine ab_getR (b := 54) f_X11_76 rfl (sh_k hs7 0 11 (by decide) rfl) (sh_r hs7 10 rfl) dX11_night_80 ?_
            refine ab_iload_n (i := 1) dX11_night_83 rfl rfl ?_
            refine ab_iconst (v := (-1)) dX11_night_84 (by decide) ?_
            refine ab_icmp_ne (tgt := 94) dX11_night_85 (by decide) (fun c12 => ?_) (fun c12 => ?_)
            · have ht := ht.1 c12
              refine ab_iconst (v := 1) dX11_night_94 (by decide) ?_
              refine ab_iload_n (i := 1) dX11_night_95 rfl rfl ?_
              refine ab_ishl dX11_night_96 ?_
              refine ab_callV (b := 54) (As := [.int ((1 : Int32) <<< (x1 &&& 31))]) ht (Y_X0_firstOut) l_X11_254 in_X0_firstOut se_X0_firstOut (sh_k hs7 54 0 (by decide) rfl) (by decide) rfl rfl ⟨(Nat.le_of_ble_eq_true rfl), (Nat.le_of_ble_eq_true rfl), (Nat.le_of_ble_eq_true rfl), (Nat.le_of_ble_eq_true rfl)⟩ dX11_night_97 ?_
              rintro _ h13 ⟨v15, rfl, hs14, ht⟩
              exact ab_iret rfl dX11_night_100 (Nat.le_of_ble_eq_true rfl) (Nat.le_of_ble_eq_true rfl) ht
            · have ht := ht.2 c12
              refine ab_sipush (v := 1023) dX11_night_88 (by decide) ?_
              refine ab_goto (tgt := 97) dX11_night_91 (by decide) ?_
              refine ab_callV (b := 54) (As := [.int 1023]) ht (Y_X0_firstOut) l_X11_254 in_X0_firstOut se_X0_firstOut (sh_k hs7 54 0 (by decide) rfl) (by decide) rfl rfl ⟨(Nat.le_of_ble_eq_true rfl), (Nat.le_of_ble_eq_true rfl), (Nat.le_of_ble_eq_true rfl), (Nat.le_of_ble_eq_true rfl)⟩ dX11_night_97 ?_
              rintro _ h16 ⟨v18, rfl, hs17, ht⟩
              exact ab_iret rfl dX11_night_100 (Nat.le_of_ble_eq_true rfl) (Nat.le_of_ble_eq_true rfl) ht
        · have ht := ht.2 c10
          refine ab_aload_n (i := 0) dX11_night_56 rfl rfl ?_
          refine ab_getR (b := 1) f_X11_10 rfl (sh_k hs7 0 11 (by decide) rfl) (sh_r hs7 0 rfl) dX11_night_57 ?_
          refine ab_getR (b := 4) f_X11_175 rfl (sh_k hs7 1 10 (by decide) rfl) (sh_r hs7 14 rfl) dX11_night_60 ?_
          refine ab_getI f_X11_187 rfl (sh_k hs7 4 7 (by decide) rfl) dX11_night_63 ?_
          refine ab_iconst (v := 1) dX11_night_66 (by decide) ?_
          refine ab_isub dX11_night_67 ?_
          refine ab_goto (tgt := 72) dX11_night_68 (by decide) ?_
          refine ab_istore (i := 4) (L' := [some (.ref 0), some (.int x1), some (.int x2), some (.int x1), some (.int ((ah_i h6 4 3) - 1)), none, none]) dX11_night_72 (by exact (Nat.le_of_ble_eq_true rfl)) rfl rfl ?_
          refine ab_iload_n (i := 2) dX11_night_74 rfl rfl ?_
          refine ab_iconst (v := 2) dX11_night_75 (by decide) ?_
          refine ab_icmp_ne (tgt := 101) dX11_night_76 (by decide) (fun c19 => ?_) (fun c19 => ?_)
          · have ht := ht.1 c19
            refine ab_iconst (v := 0) dX11_night_101 (by decide) ?_
            refine ab_istore (i := 5) (L' := [some (.ref 0), some (.int x1), some (.int x2), some (.int x1), some (.int ((ah_i h6 4 3) - 1)), some (.int 0), none]) dX11_night_102 (by exact (Nat.le_of_ble_eq_true rfl)) rfl rfl ?_
            refine ab_iload_n (i := 3) dX11_night_104 rfl rfl ?_
            refine ab_istore (i := 6) (L' := [some (.ref 0), some (.int x1), some (.int x2), some (.int x1), some (.int ((ah_i h6 4 3) - 1)), some (.int 0), some (.int x1)]) dX11_night_105 (by exact (Nat.le_of_ble_eq_true rfl)) rfl rfl ?_
            exact Wp.fewer (L' := [some (.ref 0), none, some (.int x2), none, some (.int ((ah_i h6 4 3) - 1)), some (.int 0), some (.int x1)]) (show ab_leL _ _ from ⟨rfl, ⟨rfl, ⟨rfl, ⟨rfl, ⟨rfl, trivial⟩⟩⟩⟩⟩) ht
          · have ht := ht.2 c19
            refine ab_aload_n (i := 0) dX11_night_79 rfl rfl ?_
            refine ab_getR (b := 54) f_X11_76 rfl (sh_k hs7 0 11 (by decide) rfl) (sh_r hs7 10 rfl) dX11_night_80 ?_
            refine ab_iload_n (i := 1) dX11_night_83 rfl rfl ?_
            refine ab_iconst (v := (-1)) dX11_night_84 (by decide) ?_
            refine ab_icmp_ne (tgt := 94) dX11_night_85 (by decide) (fun c20 => ?_) (fun c20 => ?_)
            · have ht := ht.1 c20
              refine ab_iconst (v := 1) dX11_night_94 (by decide) ?_
              refine ab_iload_n (i := 1) dX11_night_95 rfl rfl ?_
              refine ab_ishl dX11_night_96 ?_
              refine ab_callV (b := 54) (As := [.int ((1 : Int32) <<< (x1 &&& 31))]) ht (Y_X0_firstOut) l_X11_254 in_X0_firstOut se_X0_firstOut (sh_k hs7 54 0 (by decide) rfl) (by decide) rfl rfl ⟨(Nat.le_of_ble_eq_true rfl), (Nat.le_of_ble_eq_true rfl), (Nat.le_of_ble_eq_true rfl), (Nat.le_of_ble_eq_true rfl)⟩ dX11_night_97 ?_
              rintro _ h21 ⟨v23, rfl, hs22, ht⟩
              exact ab_iret rfl dX11_night_100 (Nat.le_of_ble_eq_true rfl) (Nat.le_of_ble_eq_true rfl) ht
            · have ht := ht.2 c20
              refine ab_sipush (v := 1023) dX11_night_88 (by decide) ?_
              refine ab_goto (tgt := 97) dX11_night_91 (by decide) ?_
              refine ab_callV (b := 54) (As := [.int 1023]) ht (Y_X0_firstOut) l_X11_254 in_X0_firstOut se_X0_firstOut (sh_k hs7 54 0 (by decide) rfl) (by decide) rfl rfl ⟨(Nat.le_of_ble_eq_true rfl), (Nat.le_of_ble_eq_true rfl), (Nat.le_of_ble_eq_true rfl), (Nat.le_of_ble_eq_true rfl)⟩ dX11_night_97 ?_
              rintro _ h24 ⟨v26, rfl, hs25, ht⟩
              exact ab_iret rfl dX11_night_100 (Nat.le_of_ble_eq_true rfl) (Nat.le_of_ble_eq_true rfl) ht
      · have ht := ht.2 c9
        refine ab_iconst (v := 0) dX11_night_45 (by decide) ?_
        refine ab_goto (tgt := 50) dX11_night_46 (by decide) ?_
        refine ab_istore_n (i := 3) (L' := [some (.ref 0), some (.int x1), some (.int x2), some (.int 0), none, none, none]) dX11_night_50 rfl (by exact (Nat.le_of_ble_eq_true rfl)) rfl rfl ?_
        refine ab_iload_n (i := 1) dX11_night_51 rfl rfl ?_
        refine ab_iconst (v := (-1)) dX11_night_52 (by decide) ?_
        refine ab_icmp_ne (tgt := 71) dX11_night_53 (by decide) (fun c27 => ?_) (fun c27 => ?_)
        · have ht := ht.1 c27
          refine ab_iload_n (i := 1) dX11_night_71 rfl rfl ?_
          refine ab_istore (i := 4) (L' := [some (.ref 0), some (.int x1), some (.int x2), some (.int 0), some (.int x1), none, none]) dX11_night_72 (by exact (Nat.le_of_ble_eq_true rfl)) rfl rfl ?_
          refine ab_iload_n (i := 2) dX11_night_74 rfl rfl ?_
          refine ab_iconst (v := 2) dX11_night_75 (by decide) ?_
          refine ab_icmp_ne (tgt := 101) dX11_night_76 (by decide) (fun c28 => ?_) (fun c28 => ?_)
          · have ht := ht.1 c28
            refine ab_iconst (v := 0) dX11_night_101 (by decide) ?_
            refine ab_istore (i := 5) (L' := [some (.ref 0), some (.int x1), some (.int x2), some (.int 0), some (.int x1), some (.int 0), none]) dX11_night_102 (by exact (Nat.le_of_ble_eq_true rfl)) rfl rfl ?_
            refine ab_iload_n (i := 3) dX11_night_104 rfl rfl ?_
            refine ab_istore (i := 6) (L' := [some (.ref 0), some (.int x1), some (.int x2), some (.int 0), some (.int x1), some (.int 0), some (.int 0)]) dX11_night_105 (by exact (Nat.le_of_ble_eq_true rfl)) rfl rfl ?_
            exact Wp.fewer (L' := [some (.ref 0), none, some (.int x2), none, some (.int x1), some (.int 0), some (.int 0)]) (show ab_leL _ _ from ⟨rfl, ⟨rfl, ⟨rfl, ⟨rfl, ⟨rfl, trivial⟩⟩⟩⟩⟩) ht
          · have ht := ht.2 c28
            refine ab_aload_n (i := 0) dX11_night_79 rfl rfl ?_
            refine ab_getR (b := 54) f_X11_76 rfl (sh_k hs7 0 11 (by decide) rfl) (sh_r hs7 10 rfl) dX11_night_80 ?_
            refine ab_iload_n (i := 1) dX11_night_83 rfl rfl ?_
            refine ab_iconst (v := (-1)) dX11_night_84 (by decide) ?_
            refine ab_icmp_ne (tgt := 94) dX11_night_85 (by decide) (fun c29 => ?_) (fun c29 => ?_)
            · have ht := ht.1 c29
              refine ab_iconst (v := 1) dX11_night_94 (by decide) ?_
              refine ab_iload_n (i := 1) dX11_night_95 rfl rfl ?_
              refine ab_ishl dX11_night_96 ?_
              refine ab_callV (b := 54) (As := [.int ((1 : Int32) <<< (x1 &&& 31))]) ht (Y_X0_firstOut) l_X11_254 in_X0_firstOut se_X0_firstOut (sh_k hs7 54 0 (by decide) rfl) (by decide) rfl rfl ⟨(Nat.le_of_ble_eq_true rfl), (Nat.le_of_ble_eq_true rfl), (Nat.le_of_ble_eq_true rfl), (Nat.le_of_ble_eq_true rfl)⟩ dX11_night_97 ?_
              rintro _ h30 ⟨v32, rfl, hs31, ht⟩
              exact ab_iret rfl dX11_night_100 (Nat.le_of_ble_eq_true rfl) (Nat.le_of_ble_eq_true rfl) ht
            · have ht := ht.2 c29
              refine ab_sipush (v := 1023) dX11_night_88 (by decide) ?_
              refine ab_goto (tgt := 97) dX11_night_91 (by decide) ?_
              refine ab_callV (b := 54) (As := [.int 1023]) ht (Y_X0_firstOut) l_X11_254 in_X0_firstOut se_X0_firstOut (sh_k hs7 54 0 (by decide) rfl) (by decide) rfl rfl ⟨(Nat.le_of_ble_eq_true rfl), (Nat.le_of_ble_eq_true rfl), (Nat.le_of_ble_eq_true rfl), (Nat.le_of_ble_eq_true rfl)⟩ dX11_night_97 ?_
              rintro _ h33 ⟨v35, rfl, hs34, ht⟩
              exact ab_iret rfl dX11_night_100 (Nat.le_of_ble_eq_true rfl) (Nat.le_of_ble_eq_true rfl) ht
        · have ht := ht.2 c27
          refine ab_aload_n (i := 0) dX11_night_56 rfl rfl ?_
          refine ab_getR (b := 1) f_X11_10 rfl (sh_k hs7 0 11 (by decide) rfl) (sh_r hs7 0 rfl) dX11_night_57 ?_
          refine ab_getR (b := 4) f_X11_175 rfl (sh_k hs7 1 10 (by decide) rfl) (sh_r hs7 14 rfl) dX11_night_60 ?_
          refine ab_getI f_X11_187 rfl (sh_k hs7 4 7 (by decide) rfl) dX11_night_63 ?_
          refine ab_iconst (v := 1) dX11_night_66 (by decide) ?_
          refine ab_isub dX11_night_67 ?_
          refine ab_goto (tgt := 72) dX11_night_68 (by decide) ?_
          refine ab_istore (i := 4) (L' := [some (.ref 0), some (.int x1), some (.int x2), some (.int 0), some (.int ((ah_i h6 4 3) - 1)), none, none]) dX11_night_72 (by exact (Nat.le_of_ble_eq_true rfl)) rfl rfl ?_
          refine ab_iload_n (i := 2) dX11_night_74 rfl rfl ?_
          refine ab_iconst (v := 2) dX11_night_75 (by decide) ?_
          refine ab_icmp_ne (tgt := 101) dX11_night_76 (by decide) (fun c36 => ?_) (fun c36 => ?_)
          · have ht := ht.1 c36
            refine ab_iconst (v := 0) dX11_night_101 (by decide) ?_
            refine ab_istore (i := 5) (L' := [some (.ref 0), some (.int x1), some (.int x2), some (.int 0), some (.int ((ah_i h6 4 3) - 1)), some (.int 0), none]) dX11_night_102 (by exact (Nat.le_of_ble_eq_true rfl)) rfl rfl ?_
            refine ab_iload_n (i := 3) dX11_night_104 rfl rfl ?_
            refine ab_istore (i := 6) (L' := [some (.ref 0), some (.int x1), some (.int x2), some (.int 0), some (.int ((ah_i h6 4 3) - 1)), some (.int 0), some (.int 0)]) dX11_night_105 (by exact (Nat.le_of_ble_eq_true rfl)) rfl rfl ?_
            exact Wp.fewer (L' := [some (.ref 0), none, some (.int x2), none, some (.int ((ah_i h6 4 3) - 1)), some (.int 0), some (.int 0)]) (show ab_leL _ _ from ⟨rfl, ⟨rfl, ⟨rfl, ⟨rfl, ⟨rfl, trivial⟩⟩⟩⟩⟩) ht
          · have ht := ht.2 c36
            refine ab_aload_n (i := 0) dX11_night_79 rfl rfl ?_
            refine ab_getR (b := 54) f_X11_76 rfl (sh_k hs7 0 11 (by decide) rfl) (sh_r hs7 10 rfl) dX11_night_80 ?_
            refine ab_iload_n (i := 1) dX11_night_83 rfl rfl ?_
            refine ab_iconst (v := (-1)) dX11_night_84 (by decide) ?_
            refine ab_icmp_ne (tgt := 94) dX11_night_85 (by decide) (fun c37 => ?_) (fun c37 => ?_)
            · have ht := ht.1 c37
              refine ab_iconst (v := 1) dX11_night_94 (by decide) ?_
              refine ab_iload_n (i := 1) dX11_night_95 rfl rfl ?_
              refine ab_ishl dX11_night_96 ?_
              refine ab_callV (b := 54) (As := [.int ((1 : Int32) <<< (x1 &&& 31))]) ht (Y_X0_firstOut) l_X11_254 in_X0_firstOut se_X0_firstOut (sh_k hs7 54 0 (by decide) rfl) (by decide) rfl rfl ⟨(Nat.le_of_ble_eq_true rfl), (Nat.le_of_ble_eq_true rfl), (Nat.le_of_ble_eq_true rfl), (Nat.le_of_ble_eq_true rfl)⟩ dX11_night_97 ?_
              rintro _ h38 ⟨v40, rfl, hs39, ht⟩
              exact ab_iret rfl dX11_night_100 (Nat.le_of_ble_eq_true rfl) (Nat.le_of_ble_eq_true rfl) ht
            · have ht := ht.2 c37
              refine ab_sipush (v := 1023) dX11_night_88 (by decide) ?_
              refine ab_goto (tgt := 97) dX11_night_91 (by decide) ?_
              refine ab_callV (b := 54) (As := [.int 1023]) ht (Y_X0_firstOut) l_X11_254 in_X0_firstOut se_X0_firstOut (sh_k hs7 54 0 (by decide) rfl) (by decide) rfl rfl ⟨(Nat.le_of_ble_eq_true rfl), (Nat.le_of_ble_eq_true rfl), (Nat.le_of_ble_eq_true rfl), (Nat.le_of_ble_eq_true rfl)⟩ dX11_night_97 ?_
              rintro _ h41 ⟨v43, rfl, hs42, ht⟩
              exact ab_iret rfl dX11_night_100 (Nat.le_of_ble_eq_true rfl) (Nat.le_of_ble_eq_true rfl) ht
    · have ht := ht.2 c2
      refine ab_iconst (v := (-1)) dX11_night_27 (by decide) ?_
      exact ab_iret rfl dX11_night_28 (Nat.le_of_ble_eq_true rfl) (Nat.le_of_ble_eq_true rfl) ht
  · have ht := ht.2 c1
    refine ab_aload_n (i := 0) dX11_night_5 rfl rfl ?_
    refine ab_getR (b := 1) f_X11_10 rfl (sh_k hs 0 11 (by decide) rfl) (sh_r hs 0 rfl) dX11_night_6 ?_
    refine ab_getR (b := 4) f_X11_175 rfl (sh_k hs 1 10 (by decide) rfl) (sh_r hs 14 rfl) dX11_night_9 ?_
    refine ab_iload_n (i := 1) dX11_night_12 rfl rfl ?_
    refine ab_callV (b := 4) (As := [.int x1]) ht (Y_X7_has) l_X11_156 in_X7_has se_X7_has (sh_k hs 4 7 (by decide) rfl) (by decide) rfl rfl ⟨(Nat.le_of_ble_eq_true rfl), (Nat.le_of_ble_eq_true rfl), (Nat.le_of_ble_eq_true rfl), (Nat.le_of_ble_eq_true rfl)⟩ dX11_night_13 ?_
    rintro _ h44 ⟨v46, rfl, hs45, ht⟩
    refine ab_if_eq (tgt := 27) dX11_night_16 (by decide) (fun c47 => ?_) (fun c47 => ?_)
    · have ht := ht.1 c47
      refine ab_iconst (v := (-1)) dX11_night_27 (by decide) ?_
      exact ab_iret rfl dX11_night_28 (Nat.le_of_ble_eq_true rfl) (Nat.le_of_ble_eq_true rfl) ht
    · have ht := ht.2 c47
      refine ab_iload_n (i := 2) dX11_night_19 rfl rfl ?_
      refine ab_iconst (v := 3) dX11_night_20 (by decide) ?_
      refine ab_callS (Q' := fun r h' => r = some (.int (f_X11_isIn x2 3)) ∧ h44 = h') (As := [.int x2, .int 3]) (c_X11_isIn hs45 x2 3 ⟨rfl, rfl⟩) (Y_X11_isIn) l_X11_119 st_X11_isIn rfl ⟨(Nat.le_of_ble_eq_true rfl), (Nat.le_of_ble_eq_true rfl), (Nat.le_of_ble_eq_true rfl), (Nat.le_of_ble_eq_true rfl)⟩ dX11_night_21 ?_
      rintro _ _ ⟨rfl, rfl⟩
      refine ab_if_ne (tgt := 29) dX11_night_24 (by decide) (fun c48 => ?_) (fun c48 => ?_)
      · have ht := ht.1 c48
        refine ab_aload_n (i := 0) dX11_night_29 rfl rfl ?_
        refine ab_callV (b := 0) (As := []) ht (Y_X11_look) l_X11_166 in_X11_look se_X11_look (sh_k hs45 0 11 (by decide) rfl) (by decide) rfl rfl ⟨(Nat.le_of_ble_eq_true rfl), (Nat.le_of_ble_eq_true rfl), (Nat.le_of_ble_eq_true rfl), (Nat.le_of_ble_eq_true rfl)⟩ dX11_night_30 ?_
        rintro _ h49 ⟨rfl, hs50, ht⟩
        refine ab_aload_n (i := 0) dX11_night_33 rfl rfl ?_
        refine ab_getR (b := 54) f_X11_76 rfl (sh_k hs50 0 11 (by decide) rfl) (sh_r hs50 10 rfl) dX11_night_34 ?_
        refine ab_callV (b := 54) (As := []) ht (Y_X0_relate) l_X11_235 in_X0_relate se_X0_relate (sh_k hs50 54 0 (by decide) rfl) (by decide) rfl rfl ⟨(Nat.le_of_ble_eq_true rfl), (Nat.le_of_ble_eq_true rfl), (Nat.le_of_ble_eq_true rfl), (Nat.le_of_ble_eq_true rfl)⟩ dX11_night_37 ?_
        rintro _ h52 ⟨rfl, hs53, ht⟩
        refine ab_iload_n (i := 1) dX11_night_40 rfl rfl ?_
        refine ab_iconst (v := (-1)) dX11_night_41 (by decide) ?_
        refine ab_icmp_ne (tgt := 49) dX11_night_42 (by decide) (fun c55 => ?_) (fun c55 => ?_)
        · have ht := ht.1 c55
          refine ab_iload_n (i := 1) dX11_night_49 rfl rfl ?_
          refine ab_istore_n (i := 3) (L' := [some (.ref 0), some (.int x1), some (.int x2), some (.int x1), none, none, none]) dX11_night_50 rfl (by exact (Nat.le_of_ble_eq_true rfl)) rfl rfl ?_
          refine ab_iload_n (i := 1) dX11_night_51 rfl rfl ?_
          refine ab_iconst (v := (-1)) dX11_night_52 (by decide) ?_
          refine ab_icmp_ne (tgt := 71) dX11_night_53 (by decide) (fun c56 => ?_) (fun c56 => ?_)
          · have ht := ht.1 c56
            refine ab_iload_n (i := 1) dX11_night_71 rfl rfl ?_
            refine ab_istore (i := 4) (L' := [some (.ref 0), some (.int x1), some (.int x2), some (.int x1), some (.int x1), none, none]) dX11_night_72 (by exact (Nat.le_of_ble_eq_true rfl)) rfl rfl ?_
            refine ab_iload_n (i := 2) dX11_night_74 rfl rfl ?_
            refine ab_iconst (v := 2) dX11_night_75 (by decide) ?_
            refine ab_icmp_ne (tgt := 101) dX11_night_76 (by decide) (fun c57 => ?_) (fun c57 => ?_)
            · have ht := ht.1 c57
              refine ab_iconst (v := 0) dX11_night_101 (by decide) ?_
              refine ab_istore (i := 5) (L' := [some (.ref 0), some (.int x1), some (.int x2), some (.int x1), some (.int x1), some (.int 0), none]) dX11_night_102 (by exact (Nat.le_of_ble_eq_true rfl)) rfl rfl ?_
              refine ab_iload_n (i := 3) dX11_night_104 rfl rfl ?_
              refine ab_istore (i := 6) (L' := [some (.ref 0), some (.int x1), some (.int x2), some (.int x1), some (.int x1), some (.int 0), some (.int x1)]) dX11_night_105 (by exact (Nat.le_of_ble_eq_true rfl)) rfl rfl ?_
              exact Wp.fewer (L' := [some (.ref 0), none, some (.int x2), none, some (.int x1), some (.int 0), some (.int x1)]) (show ab_leL _ _ from ⟨rfl, ⟨rfl, ⟨rfl, ⟨rfl, ⟨rfl, trivial⟩⟩⟩⟩⟩) ht
            · have ht := ht.2 c57
              refine ab_aload_n (i := 0) dX11_night_79 rfl rfl ?_
              refine ab_getR (b := 54) f_X11_76 rfl (sh_k hs53 0 11 (by decide) rfl) (sh_r hs53 10 rfl) dX11_night_80 ?_
              refine ab_iload_n (i := 1) dX11_night_83 rfl rfl ?_
              refine ab_iconst (v := (-1)) dX11_night_84 (by decide) ?_
              refine ab_icmp_ne (tgt := 94) dX11_night_85 (by decide) (fun c58 => ?_) (fun c58 => ?_)
              · have ht := ht.1 c58
                refine ab_iconst (v := 1) dX11_night_94 (by decide) ?_
                refine ab_iload_n (i := 1) dX11_night_95 rfl rfl ?_
                refine ab_ishl dX11_night_96 ?_
                refine ab_callV (b := 54) (As := [.int ((1 : Int32) <<< (x1 &&& 31))]) ht (Y_X0_firstOut) l_X11_254 in_X0_firstOut se_X0_firstOut (sh_k hs53 54 0 (by decide) rfl) (by decide) rfl rfl ⟨(Nat.le_of_ble_eq_true rfl), (Nat.le_of_ble_eq_true rfl), (Nat.le_of_ble_eq_true rfl), (Nat.le_of_ble_eq_true rfl)⟩ dX11_night_97 ?_
                rintro _ h59 ⟨v61, rfl, hs60, ht⟩
                exact ab_iret rfl dX11_night_100 (Nat.le_of_ble_eq_true rfl) (Nat.le_of_ble_eq_true rfl) ht
              · have ht := ht.2 c58
                refine ab_sipush (v := 1023) dX11_night_88 (by decide) ?_
                refine ab_goto (tgt := 97) dX11_night_91 (by decide) ?_
                refine ab_callV (b := 54) (As := [.int 1023]) ht (Y_X0_firstOut) l_X11_254 in_X0_firstOut se_X0_firstOut (sh_k hs53 54 0 (by decide) rfl) (by decide) rfl rfl ⟨(Nat.le_of_ble_eq_true rfl), (Nat.le_of_ble_eq_true rfl), (Nat.le_of_ble_eq_true rfl), (Nat.le_of_ble_eq_true rfl)⟩ dX11_night_97 ?_
                rintro _ h62 ⟨v64, rfl, hs63, ht⟩
                exact ab_iret rfl dX11_night_100 (Nat.le_of_ble_eq_true rfl) (Nat.le_of_ble_eq_true rfl) ht
          · have ht := ht.2 c56
            refine ab_aload_n (i := 0) dX11_night_56 rfl rfl ?_
            refine ab_getR (b := 1) f_X11_10 rfl (sh_k hs53 0 11 (by decide) rfl) (sh_r hs53 0 rfl) dX11_night_57 ?_
            refine ab_getR (b := 4) f_X11_175 rfl (sh_k hs53 1 10 (by decide) rfl) (sh_r hs53 14 rfl) dX11_night_60 ?_
            refine ab_getI f_X11_187 rfl (sh_k hs53 4 7 (by decide) rfl) dX11_night_63 ?_
            refine ab_iconst (v := 1) dX11_night_66 (by decide) ?_
            refine ab_isub dX11_night_67 ?_
            refine ab_goto (tgt := 72) dX11_night_68 (by decide) ?_
            refine ab_istore (i := 4) (L' := [some (.ref 0), some (.int x1), some (.int x2), some (.int x1), some (.int ((ah_i h52 4 3) - 1)), none, none]) dX11_night_72 (by exact (Nat.le_of_ble_eq_true rfl)) rfl rfl ?_
            refine ab_iload_n (i := 2) dX11_night_74 rfl rfl ?_
            refine ab_iconst (v := 2) dX11_night_75 (by decide) ?_
            refine ab_icmp_ne (tgt := 101) dX11_night_76 (by decide) (fun c65 => ?_) (fun c65 => ?_)
            · have ht := ht.1 c65
              refine ab_iconst (v := 0) dX11_night_101 (by decide) ?_
              refine ab_istore (i := 5) (L' := [some (.ref 0), some (.int x1), some (.int x2), some (.int x1), some (.int ((ah_i h52 4 3) - 1)), some (.int 0), none]) dX11_night_102 (by exact (Nat.le_of_ble_eq_true rfl)) rfl rfl ?_
              refine ab_iload_n (i := 3) dX11_night_104 rfl rfl ?_
              refine ab_istore (i := 6) (L' := [some (.ref 0), some (.int x1), some (.int x2), some (.int x1), some (.int ((ah_i h52 4 3) - 1)), some (.int 0), some (.int x1)]) dX11_night_105 (by exact (Nat.le_of_ble_eq_true rfl)) rfl rfl ?_
              exact Wp.fewer (L' := [some (.ref 0), none, some (.int x2), none, some (.int ((ah_i h52 4 3) - 1)), some (.int 0), some (.int x1)]) (show ab_leL _ _ from ⟨rfl, ⟨rfl, ⟨rfl, ⟨rfl, ⟨rfl, trivial⟩⟩⟩⟩⟩) ht
            · have ht := ht.2 c65
              refine ab_aload_n (i := 0) dX11_night_79 rfl rfl ?_
              refine ab_getR (b := 54) f_X11_76 rfl (sh_k hs53 0 11 (by decide) rfl) (sh_r hs53 10 rfl) dX11_night_80 ?_
              refine ab_iload_n (i := 1) dX11_night_83 rfl rfl ?_
              refine ab_iconst (v := (-1)) dX11_night_84 (by decide) ?_
              refine ab_icmp_ne (tgt := 94) dX11_night_85 (by decide) (fun c66 => ?_) (fun c66 => ?_)
              · have ht := ht.1 c66
                refine ab_iconst (v := 1) dX11_night_94 (by decide) ?_
                refine ab_iload_n (i := 1) dX11_night_95 rfl rfl ?_
                refine ab_ishl dX11_night_96 ?_
                refine ab_callV (b := 54) (As := [.int ((1 : Int32) <<< (x1 &&& 31))]) ht (Y_X0_firstOut) l_X11_254 in_X0_firstOut se_X0_firstOut (sh_k hs53 54 0 (by decide) rfl) (by decide) rfl rfl ⟨(Nat.le_of_ble_eq_true rfl), (Nat.le_of_ble_eq_true rfl), (Nat.le_of_ble_eq_true rfl), (Nat.le_of_ble_eq_true rfl)⟩ dX11_night_97 ?_
                rintro _ h67 ⟨v69, rfl, hs68, ht⟩
                exact ab_iret rfl dX11_night_100 (Nat.le_of_ble_eq_true rfl) (Nat.le_of_ble_eq_true rfl) ht
              · have ht := ht.2 c66
                refine ab_sipush (v := 1023) dX11_night_88 (by decide) ?_
                refine ab_goto (tgt := 97) dX11_night_91 (by decide) ?_
                refine ab_callV (b := 54) (As := [.int 1023]) ht (Y_X0_firstOut) l_X11_254 in_X0_firstOut se_X0_firstOut (sh_k hs53 54 0 (by decide) rfl) (by decide) rfl rfl ⟨(Nat.le_of_ble_eq_true rfl), (Nat.le_of_ble_eq_true rfl), (Nat.le_of_ble_eq_true rfl), (Nat.le_of_ble_eq_true rfl)⟩ dX11_night_97 ?_
                rintro _ h70 ⟨v72, rfl, hs71, ht⟩
                exact ab_iret rfl dX11_night_100 (Nat.le_of_ble_eq_true rfl) (Nat.le_of_ble_eq_true rfl) ht
        · have ht := ht.2 c55
          refine ab_iconst (v := 0) dX11_night_45 (by decide) ?_
          refine ab_goto (tgt := 50) dX11_night_46 (by decide) ?_
          refine ab_istore_n (i := 3) (L' := [some (.ref 0), some (.int x1), some (.int x2), some (.int 0), none, none, none]) dX11_night_50 rfl (by exact (Nat.le_of_ble_eq_true rfl)) rfl rfl ?_
          refine ab_iload_n (i := 1) dX11_night_51 rfl rfl ?_
          refine ab_iconst (v := (-1)) dX11_night_52 (by decide) ?_
          refine ab_icmp_ne (tgt := 71) dX11_night_53 (by decide) (fun c73 => ?_) (fun c73 => ?_)
          · have ht := ht.1 c73
            refine ab_iload_n (i := 1) dX11_night_71 rfl rfl ?_
            refine ab_istore (i := 4) (L' := [some (.ref 0), some (.int x1), some (.int x2), some (.int 0), some (.int x1), none, none]) dX11_night_72 (by exact (Nat.le_of_ble_eq_true rfl)) rfl rfl ?_
            refine ab_iload_n (i := 2) dX11_night_74 rfl rfl ?_
            refine ab_iconst (v := 2) dX11_night_75 (by decide) ?_
            refine ab_icmp_ne (tgt := 101) dX11_night_76 (by decide) (fun c74 => ?_) (fun c74 => ?_)
            · have ht := ht.1 c74
              refine ab_iconst (v := 0) dX11_night_101 (by decide) ?_
              refine ab_istore (i := 5) (L' := [some (.ref 0), some (.int x1), some (.int x2), some (.int 0), some (.int x1), some (.int 0), none]) dX11_night_102 (by exact (Nat.le_of_ble_eq_true rfl)) rfl rfl ?_
              refine ab_iload_n (i := 3) dX11_night_104 rfl rfl ?_
              refine ab_istore (i := 6) (L' := [some (.ref 0), some (.int x1), some (.int x2), some (.int 0), some (.int x1), some (.int 0), some (.int 0)]) dX11_night_105 (by exact (Nat.le_of_ble_eq_true rfl)) rfl rfl ?_
              exact Wp.fewer (L' := [some (.ref 0), none, some (.int x2), none, some (.int x1), some (.int 0), some (.int 0)]) (show ab_leL _ _ from ⟨rfl, ⟨rfl, ⟨rfl, ⟨rfl, ⟨rfl, trivial⟩⟩⟩⟩⟩) ht
            · have ht := ht.2 c74
              refine ab_aload_n (i := 0) dX11_night_79 rfl rfl ?_
              refine ab_getR (b := 54) f_X11_76 rfl (sh_k hs53 0 11 (by decide) rfl) (sh_r hs53 10 rfl) dX11_night_80 ?_
              refine ab_iload_n (i := 1) dX11_night_83 rfl rfl ?_
              refine ab_iconst (v := (-1)) dX11_night_84 (by decide) ?_
              refine ab_icmp_ne (tgt := 94) dX11_night_85 (by decide) (fun c75 => ?_) (fun c75 => ?_)
              · have ht := ht.1 c75
                refine ab_iconst (v := 1) dX11_night_94 (by decide) ?_
                refine ab_iload_n (i := 1) dX11_night_95 rfl rfl ?_
                refine ab_ishl dX11_night_96 ?_
                refine ab_callV (b := 54) (As := [.int ((1 : Int32) <<< (x1 &&& 31))]) ht (Y_X0_firstOut) l_X11_254 in_X0_firstOut se_X0_firstOut (sh_k hs53 54 0 (by decide) rfl) (by decide) rfl rfl ⟨(Nat.le_of_ble_eq_true rfl), (Nat.le_of_ble_eq_true rfl), (Nat.le_of_ble_eq_true rfl), (Nat.le_of_ble_eq_true rfl)⟩ dX11_night_97 ?_
                rintro _ h76 ⟨v78, rfl, hs77, ht⟩
                exact ab_iret rfl dX11_night_100 (Nat.le_of_ble_eq_true rfl) (Nat.le_of_ble_eq_true rfl) ht
              · have ht := ht.2 c75
                refine ab_sipush (v := 1023) dX11_night_88 (by decide) ?_
                refine ab_goto (tgt := 97) dX11_night_91 (by decide) ?_
                refine ab_callV (b := 54) (As := [.int 1023]) ht (Y_X0_firstOut) l_X11_254 in_X0_firstOut se_X0_firstOut (sh_k hs53 54 0 (by decide) rfl) (by decide) rfl rfl ⟨(Nat.le_of_ble_eq_true rfl), (Nat.le_of_ble_eq_true rfl), (Nat.le_of_ble_eq_true rfl), (Nat.le_of_ble_eq_true rfl)⟩ dX11_night_97 ?_
                rintro _ h79 ⟨v81, rfl, hs80, ht⟩
                exact ab_iret rfl dX11_night_100 (Nat.le_of_ble_eq_true rfl) (Nat.le_of_ble_eq_true rfl) ht
          · have ht := ht.2 c73
            refine ab_aload_n (i := 0) dX11_night_56 rfl rfl ?_
            refine ab_getR (b := 1) f_X11_10 rfl (sh_k hs53 0 11 (by decide) rfl) (sh_r hs53 0 rfl) dX11_night_57 ?_
            refine ab_getR (b := 4) f_X11_175 rfl (sh_k hs53 1 10 (by decide) rfl) (sh_r hs53 14 rfl) dX11_night_60 ?_
            refine ab_getI f_X11_187 rfl (sh_k hs53 4 7 (by decide) rfl) dX11_night_63 ?_
            refine ab_iconst (v := 1) dX11_night_66 (by decide) ?_
            refine ab_isub dX11_night_67 ?_
            refine ab_goto (tgt := 72) dX11_night_68 (by decide) ?_
            refine ab_istore (i := 4) (L' := [some (.ref 0), some (.int x1), some (.int x2), some (.int 0), some (.int ((ah_i h52 4 3) - 1)), none, none]) dX11_night_72 (by exact (Nat.le_of_ble_eq_true rfl)) rfl rfl ?_
            refine ab_iload_n (i := 2) dX11_night_74 rfl rfl ?_
            refine ab_iconst (v := 2) dX11_night_75 (by decide) ?_
            refine ab_icmp_ne (tgt := 101) dX11_night_76 (by decide) (fun c82 => ?_) (fun c82 => ?_)
            · have ht := ht.1 c82
              refine ab_iconst (v := 0) dX11_night_101 (by decide) ?_
              refine ab_istore (i := 5) (L' := [some (.ref 0), some (.int x1), some (.int x2), some (.int 0), some (.int ((ah_i h52 4 3) - 1)), some (.int 0), none]) dX11_night_102 (by exact (Nat.le_of_ble_eq_true rfl)) rfl rfl ?_
              refine ab_iload_n (i := 3) dX11_night_104 rfl rfl ?_
              refine ab_istore (i := 6) (L' := [some (.ref 0), some (.int x1), some (.int x2), some (.int 0), some (.int ((ah_i h52 4 3) - 1)), some (.int 0), some (.int 0)]) dX11_night_105 (by exact (Nat.le_of_ble_eq_true rfl)) rfl rfl ?_
              exact Wp.fewer (L' := [some (.ref 0), none, some (.int x2), none, some (.int ((ah_i h52 4 3) - 1)), some (.int 0), some (.int 0)]) (show ab_leL _ _ from ⟨rfl, ⟨rfl, ⟨rfl, ⟨rfl, ⟨rfl, trivial⟩⟩⟩⟩⟩) ht
            · have ht := ht.2 c82
              refine ab_aload_n (i := 0) dX11_night_79 rfl rfl ?_
              refine ab_getR (b := 54) f_X11_76 rfl (sh_k hs53 0 11 (by decide) rfl) (sh_r hs53 10 rfl) dX11_night_80 ?_
              refine ab_iload_n (i := 1) dX11_night_83 rfl rfl ?_
              refine ab_iconst (v := (-1)) dX11_night_84 (by decide) ?_
              refine ab_icmp_ne (tgt := 94) dX11_night_85 (by decide) (fun c83 => ?_) (fun c83 => ?_)
              · have ht := ht.1 c83
                refine ab_iconst (v := 1) dX11_night_94 (by decide) ?_
                refine ab_iload_n (i := 1) dX11_night_95 rfl rfl ?_
                refine ab_ishl dX11_night_96 ?_
                refine ab_callV (b := 54) (As := [.int ((1 : Int32) <<< (x1 &&& 31))]) ht (Y_X0_firstOut) l_X11_254 in_X0_firstOut se_X0_firstOut (sh_k hs53 54 0 (by decide) rfl) (by decide) rfl rfl ⟨(Nat.le_of_ble_eq_true rfl), (Nat.le_of_ble_eq_true rfl), (Nat.le_of_ble_eq_true rfl), (Nat.le_of_ble_eq_true rfl)⟩ dX11_night_97 ?_
                rintro _ h84 ⟨v86, rfl, hs85, ht⟩
                exact ab_iret rfl dX11_night_100 (Nat.le_of_ble_eq_true rfl) (Nat.le_of_ble_eq_true rfl) ht
              · have ht := ht.2 c83
                refine ab_sipush (v := 1023) dX11_night_88 (by decide) ?_
                refine ab_goto (tgt := 97) dX11_night_91 (by decide) ?_
                refine ab_callV (b := 54) (As := [.int 1023]) ht (Y_X0_firstOut) l_X11_254 in_X0_firstOut se_X0_firstOut (sh_k hs53 54 0 (by decide) rfl) (by decide) rfl rfl ⟨(Nat.le_of_ble_eq_true rfl), (Nat.le_of_ble_eq_true rfl), (Nat.le_of_ble_eq_true rfl), (Nat.le_of_ble_eq_true rfl)⟩ dX11_night_97 ?_
                rintro _ h87 ⟨v89, rfl, hs88, ht⟩
                exact ab_iret rfl dX11_night_100 (Nat.le_of_ble_eq_true rfl) (Nat.le_of_ble_eq_true rfl) ht
      · have ht := ht.2 c48
        refine ab_iconst (v := (-1)) dX11_night_27 (by decide) ?_
        exact ab_iret rfl dX11_night_28 (Nat.le_of_ble_eq_true rfl) (Nat.le_of_ble_eq_true rfl) ht
theorem dX11_judge_0 : decode cX11_judge 0 = .ok (.iload_n 1, 1) := by decide +kernel
theorem dX11_judge_1 : decode cX11_judge 1 = .ok (.iconst 3, 1) := by decide +kernel
theorem dX11_judge_2 : decode cX11_judge 2 = .ok (.invokestatic 119, 3) := by decide +kernel
theorem dX11_judge_5 : decode cX11_judge 5 = .ok (.ifCond .ne 5, 3) := by decide +kernel
theorem dX11_judge_8 : decode cX11_judge 8 = .ok (.iconst (-1), 1) := by decide +kernel
theorem dX11_judge_9 : decode cX11_judge 9 = .ok (.ireturn, 1) := by decide +kernel
theorem dX11_judge_10 : decode cX11_judge 10 = .ok (.aload_n 0, 1) := by decide +kernel
theorem dX11_judge_11 : decode cX11_judge 11 = .ok (.invokevirtual 166, 3) := by decide +kernel
theorem dX11_judge_14 : decode cX11_judge 14 = .ok (.aload_n 0, 1) := by decide +kernel
theorem dX11_judge_15 : decode cX11_judge 15 = .ok (.getfield 76, 3) := by decide +kernel
theorem dX11_judge_18 : decode cX11_judge 18 = .ok (.invokevirtual 235, 3) := by decide +kernel
theorem dX11_judge_21 : decode cX11_judge 21 = .ok (.aload_n 0, 1) := by decide +kernel
theorem dX11_judge_22 : decode cX11_judge 22 = .ok (.getfield 76, 3) := by decide +kernel
theorem dX11_judge_25 : decode cX11_judge 25 = .ok (.iload_n 1, 1) := by decide +kernel
theorem dX11_judge_26 : decode cX11_judge 26 = .ok (.invokevirtual 257, 3) := by decide +kernel
theorem dX11_judge_29 : decode cX11_judge 29 = .ok (.ireturn, 1) := by decide +kernel
set_option maxRecDepth 20000 in
theorem T_X11_judge {Q : Option Value → ah_T → Prop} {h : ah_T} (hs : Sh h) (x1 : Int32) (ht : ((¬ (f_X11_isIn x1 3) = 0 → (Mt mX11_look [.ref 0] h (ab_qv fun h2 => Sh h2 ∧ (Mt mX0_relate [.ref 54] h2 (ab_qv fun h5 => Sh h5 ∧ (Mt mX0_darkErrands [.ref 54, .int x1] h5 (ab_qi fun v10 h8 => Sh h8 ∧ Q (some (.int v10)) h8))))))) ∧ ((f_X11_isIn x1 3) = 0 → Q (some (.int (-1))) h))) : Mt mX11_judge [.ref 0, .int x1] h Q := by
  refine Mt.ofWp rfl (by exact (Nat.le_of_ble_eq_true rfl)) (Wp.fewer (L' := [some (.ref 0), some (.int x1)]) (show ab_leL _ _ from ⟨rfl, ⟨rfl, trivial⟩⟩) ?_)
  refine ab_iload_n (i := 1) dX11_judge_0 rfl rfl ?_
  refine ab_iconst (v := 3) dX11_judge_1 (by decide) ?_
  refine ab_callS (Q' := fun r h' => r = some (.int (f_X11_isIn x1 3)) ∧ h = h') (As := [.int x1, .int 3]) (c_X11_isIn hs x1 3 ⟨rfl, rfl⟩) (Y_X11_isIn) l_X11_119 st_X11_isIn rfl ⟨(Nat.le_of_ble_eq_true rfl), (Nat.le_of_ble_eq_true rfl), (Nat.le_of_ble_eq_true rfl), (Nat.le_of_ble_eq_true rfl)⟩ dX11_judge_2 ?_
  rintro _ _ ⟨rfl, rfl⟩
  refine ab_if_ne (tgt := 10) dX11_judge_5 (by decide) (fun c1 => ?_) (fun c1 => ?_)
  · have ht := ht.1 c1
    refine ab_aload_n (i := 0) dX11_judge_10 rfl rfl ?_
    refine ab_callV (b := 0) (As := []) ht (Y_X11_look) l_X11_166 in_X11_look se_X11_look (sh_k hs 0 11 (by decide) rfl) (by decide) rfl rfl ⟨(Nat.le_of_ble_eq_true rfl), (Nat.le_of_ble_eq_true rfl), (Nat.le_of_ble_eq_true rfl), (Nat.le_of_ble_eq_true rfl)⟩ dX11_judge_11 ?_
    rintro _ h2 ⟨rfl, hs3, ht⟩
    refine ab_aload_n (i := 0) dX11_judge_14 rfl rfl ?_
    refine ab_getR (b := 54) f_X11_76 rfl (sh_k hs3 0 11 (by decide) rfl) (sh_r hs3 10 rfl) dX11_judge_15 ?_
    refine ab_callV (b := 54) (As := []) ht (Y_X0_relate) l_X11_235 in_X0_relate se_X0_relate (sh_k hs3 54 0 (by decide) rfl) (by decide) rfl rfl ⟨(Nat.le_of_ble_eq_true rfl), (Nat.le_of_ble_eq_true rfl), (Nat.le_of_ble_eq_true rfl), (Nat.le_of_ble_eq_true rfl)⟩ dX11_judge_18 ?_
    rintro _ h5 ⟨rfl, hs6, ht⟩
    refine ab_aload_n (i := 0) dX11_judge_21 rfl rfl ?_
    refine ab_getR (b := 54) f_X11_76 rfl (sh_k hs6 0 11 (by decide) rfl) (sh_r hs6 10 rfl) dX11_judge_22 ?_
    refine ab_iload_n (i := 1) dX11_judge_25 rfl rfl ?_
    refine ab_callV (b := 54) (As := [.int x1]) ht (Y_X0_darkErrands) l_X11_257 in_X0_darkErrands se_X0_darkErrands (sh_k hs6 54 0 (by decide) rfl) (by decide) rfl rfl ⟨(Nat.le_of_ble_eq_true rfl), (Nat.le_of_ble_eq_true rfl), (Nat.le_of_ble_eq_true rfl), (Nat.le_of_ble_eq_true rfl)⟩ dX11_judge_26 ?_
    rintro _ h8 ⟨v10, rfl, hs9, ht⟩
    exact ab_iret rfl dX11_judge_29 (Nat.le_of_ble_eq_true rfl) (Nat.le_of_ble_eq_true rfl) ht
  · have ht := ht.2 c1
    refine ab_iconst (v := (-1)) dX11_judge_8 (by decide) ?_
    exact ab_iret rfl dX11_judge_9 (Nat.le_of_ble_eq_true rfl) (Nat.le_of_ble_eq_true rfl) ht
theorem dX11_round_0 : decode cX11_round 0 = .ok (.iload_n 1, 1) := by decide +kernel
theorem dX11_round_1 : decode cX11_round 1 = .ok (.bipush 12, 2) := by decide +kernel
theorem dX11_round_3 : decode cX11_round 3 = .ok (.invokestatic 119, 3) := by decide +kernel
theorem dX11_round_6 : decode cX11_round 6 = .ok (.ifCond .eq 22, 3) := by decide +kernel
theorem dX11_round_9 : decode cX11_round 9 = .ok (.iload_n 2, 1) := by decide +kernel
theorem dX11_round_10 : decode cX11_round 10 = .ok (.iconst (-1), 1) := by decide +kernel
theorem dX11_round_11 : decode cX11_round 11 = .ok (.if_icmp .lt 17, 3) := by decide +kernel
theorem dX11_round_14 : decode cX11_round 14 = .ok (.iload_n 2, 1) := by decide +kernel
theorem dX11_round_15 : decode cX11_round 15 = .ok (.aload_n 0, 1) := by decide +kernel
theorem dX11_round_16 : decode cX11_round 16 = .ok (.getfield 10, 3) := by decide +kernel
theorem dX11_round_19 : decode cX11_round 19 = .ok (.getfield 175, 3) := by decide +kernel
theorem dX11_round_22 : decode cX11_round 22 = .ok (.getfield 187, 3) := by decide +kernel
theorem dX11_round_25 : decode cX11_round 25 = .ok (.if_icmp .lt 5, 3) := by decide +kernel
theorem dX11_round_28 : decode cX11_round 28 = .ok (.iconst (-1), 1) := by decide +kernel
theorem dX11_round_29 : decode cX11_round 29 = .ok (.ireturn, 1) := by decide +kernel
theorem dX11_round_30 : decode cX11_round 30 = .ok (.aload_n 0, 1) := by decide +kernel
theorem dX11_round_31 : decode cX11_round 31 = .ok (.invokevirtual 166, 3) := by decide +kernel
theorem dX11_round_34 : decode cX11_round 34 = .ok (.aload_n 0, 1) := by decide +kernel
theorem dX11_round_35 : decode cX11_round 35 = .ok (.getfield 49, 3) := by decide +kernel
theorem dX11_round_38 : decode cX11_round 38 = .ok (.iload_n 1, 1) := by decide +kernel
theorem dX11_round_39 : decode cX11_round 39 = .ok (.invokevirtual 260, 3) := by decide +kernel
theorem dX11_round_42 : decode cX11_round 42 = .ok (.iload_n 2, 1) := by decide +kernel
theorem dX11_round_43 : decode cX11_round 43 = .ok (.iconst (-1), 1) := by decide +kernel
theorem dX11_round_44 : decode cX11_round 44 = .ok (.if_icmp .eq 14, 3) := by decide +kernel
theorem dX11_round_47 : decode cX11_round 47 = .ok (.aload_n 0, 1) := by decide +kernel
theorem dX11_round_48 : decode cX11_round 48 = .ok (.getfield 49, 3) := by decide +kernel
theorem dX11_round_51 : decode cX11_round 51 = .ok (.getfield 263, 3) := by decide +kernel
theorem dX11_round_54 : decode cX11_round 54 = .ok (.iconst (-1), 1) := by decide +kernel
theorem dX11_round_55 : decode cX11_round 55 = .ok (.if_icmp .ne 13, 3) := by decide +kernel
theorem dX11_round_58 : decode cX11_round 58 = .ok (.aload_n 0, 1) := by decide +kernel
theorem dX11_round_59 : decode cX11_round 59 = .ok (.getfield 49, 3) := by decide +kernel
theorem dX11_round_62 : decode cX11_round 62 = .ok (.getfield 263, 3) := by decide +kernel
theorem dX11_round_65 : decode cX11_round 65 = .ok (.goto 12, 3) := by decide +kernel
theorem dX11_round_68 : decode cX11_round 68 = .ok (.aload_n 0, 1) := by decide +kernel
theorem dX11_round_69 : decode cX11_round 69 = .ok (.getfield 49, 3) := by decide +kernel
theorem dX11_round_72 : decode cX11_round 72 = .ok (.getfield 266, 3) := by decide +kernel
theorem dX11_round_75 : decode cX11_round 75 = .ok (.iload_n 2, 1) := by decide +kernel
theorem dX11_round_76 : decode cX11_round 76 = .ok (.iaload, 1) := by decide +kernel
theorem dX11_round_77 : decode cX11_round 77 = .ok (.ireturn, 1) := by decide +kernel
set_option maxRecDepth 20000 in
theorem T_X11_round {Q : Option Value → ah_T → Prop} {h : ah_T} (hs : Sh h) (x1 : Int32) (x2 : Int32) (ht : (((f_X11_isIn x1 12) = 0 → Q (some (.int (-1))) h) ∧ (¬ (f_X11_isIn x1 12) = 0 → ((x2 < (-1) → Q (some (.int (-1))) h) ∧ (¬ x2 < (-1) → ((x2 < (ah_i h 4 3) → (Mt mX11_look [.ref 0] h (ab_qv fun h4 => Sh h4 ∧ (Mt mX6_findRound [.ref 29, .int x1] h4 (ab_qv fun h7 => Sh h7 ∧ ((x2 = (-1) → Q (some (.int (ah_i h7 29 2))) h7) ∧ (¬ x2 = (-1) → ((¬ (ah_i h7 29 2) = (-1) → (vp_in x2 (ah_n h7 32)) ∧ Q (some (.int (ah_i h7 32 (Int32.toNatClampNeg x2)))) h7) ∧ ((ah_i h7 29 2) = (-1) → Q (some (.int (ah_i h7 29 2))) h7))))))))) ∧ (¬ x2 < (ah_i h 4 3) → Q (some (.int (-1))) h))))))) : Mt mX11_round [.ref 0, .int x1, .int x2] h Q := by
  refine Mt.ofWp rfl (by exact (Nat.le_of_ble_eq_true rfl)) (Wp.fewer (L' := [some (.ref 0), some (.int x1), some (.int x2)]) (show ab_leL _ _ from ⟨rfl, ⟨rfl, ⟨rfl, trivial⟩⟩⟩) ?_)
  refine ab_iload_n (i := 1) dX11_round_0 rfl rfl ?_
  refine ab_bipush (v := 12) dX11_round_1 (by decide) ?_
  refine ab_callS (Q' := fun r h' => r = some (.int (f_X11_isIn x1 12)) ∧ h = h') (As := [.int x1, .int 12]) (c_X11_isIn hs x1 12 ⟨rfl, rfl⟩) (Y_X11_isIn) l_X11_119 st_X11_isIn rfl ⟨(Nat.le_of_ble_eq_true rfl), (Nat.le_of_ble_eq_true rfl), (Nat.le_of_ble_eq_true rfl), (Nat.le_of_ble_eq_true rfl)⟩ dX11_round_3 ?_
  rintro _ _ ⟨rfl, rfl⟩
  refine ab_if_eq (tgt := 28) dX11_round_6 (by decide) (fun c1 => ?_) (fun c1 => ?_)
  · have ht := ht.1 c1
    refine ab_iconst (v := (-1)) dX11_round_28 (by decide) ?_
    exact ab_iret rfl dX11_round_29 (Nat.le_of_ble_eq_true rfl) (Nat.le_of_ble_eq_true rfl) ht
  · have ht := ht.2 c1
    refine ab_iload_n (i := 2) dX11_round_9 rfl rfl ?_
    refine ab_iconst (v := (-1)) dX11_round_10 (by decide) ?_
    refine ab_icmp_lt (tgt := 28) dX11_round_11 (by decide) (fun c2 => ?_) (fun c2 => ?_)
    · have ht := ht.1 c2
      refine ab_iconst (v := (-1)) dX11_round_28 (by decide) ?_
      exact ab_iret rfl dX11_round_29 (Nat.le_of_ble_eq_true rfl) (Nat.le_of_ble_eq_true rfl) ht
    · have ht := ht.2 c2
      refine ab_iload_n (i := 2) dX11_round_14 rfl rfl ?_
      refine ab_aload_n (i := 0) dX11_round_15 rfl rfl ?_
      refine ab_getR (b := 1) f_X11_10 rfl (sh_k hs 0 11 (by decide) rfl) (sh_r hs 0 rfl) dX11_round_16 ?_
      refine ab_getR (b := 4) f_X11_175 rfl (sh_k hs 1 10 (by decide) rfl) (sh_r hs 14 rfl) dX11_round_19 ?_
      refine ab_getI f_X11_187 rfl (sh_k hs 4 7 (by decide) rfl) dX11_round_22 ?_
      refine ab_icmp_lt (tgt := 30) dX11_round_25 (by decide) (fun c3 => ?_) (fun c3 => ?_)
      · have ht := ht.1 c3
        refine ab_aload_n (i := 0) dX11_round_30 rfl rfl ?_
        refine ab_callV (b := 0) (As := []) ht (Y_X11_look) l_X11_166 in_X11_look se_X11_look (sh_k hs 0 11 (by decide) rfl) (by decide) rfl rfl ⟨(Nat.le_of_ble_eq_true rfl), (Nat.le_of_ble_eq_true rfl), (Nat.le_of_ble_eq_true rfl), (Nat.le_of_ble_eq_true rfl)⟩ dX11_round_31 ?_
        rintro _ h4 ⟨rfl, hs5, ht⟩
        refine ab_aload_n (i := 0) dX11_round_34 rfl rfl ?_
        refine ab_getR (b := 29) f_X11_49 rfl (sh_k hs5 0 11 (by decide) rfl) (sh_r hs5 7 rfl) dX11_round_35 ?_
        refine ab_iload_n (i := 1) dX11_round_38 rfl rfl ?_
        refine ab_callV (b := 29) (As := [.int x1]) ht (Y_X6_findRound) l_X11_260 in_X6_findRound se_X6_findRound (sh_k hs5 29 6 (by decide) rfl) (by decide) rfl rfl ⟨(Nat.le_of_ble_eq_true rfl), (Nat.le_of_ble_eq_true rfl), (Nat.le_of_ble_eq_true rfl), (Nat.le_of_ble_eq_true rfl)⟩ dX11_round_39 ?_
        rintro _ h7 ⟨rfl, hs8, ht⟩
        refine ab_iload_n (i := 2) dX11_round_42 rfl rfl ?_
        refine ab_iconst (v := (-1)) dX11_round_43 (by decide) ?_
        refine ab_icmp_eq (tgt := 58) dX11_round_44 (by decide) (fun c10 => ?_) (fun c10 => ?_)
        · have ht := ht.1 c10
          refine ab_aload_n (i := 0) dX11_round_58 rfl rfl ?_
          refine ab_getR (b := 29) f_X11_49 rfl (sh_k hs8 0 11 (by decide) rfl) (sh_r hs8 7 rfl) dX11_round_59 ?_
          refine ab_getI f_X11_263 rfl (sh_k hs8 29 6 (by decide) rfl) dX11_round_62 ?_
          refine ab_goto (tgt := 77) dX11_round_65 (by decide) ?_
          exact ab_iret rfl dX11_round_77 (Nat.le_of_ble_eq_true rfl) (Nat.le_of_ble_eq_true rfl) ht
        · have ht := ht.2 c10
          refine ab_aload_n (i := 0) dX11_round_47 rfl rfl ?_
          refine ab_getR (b := 29) f_X11_49 rfl (sh_k hs8 0 11 (by decide) rfl) (sh_r hs8 7 rfl) dX11_round_48 ?_
          refine ab_getI f_X11_263 rfl (sh_k hs8 29 6 (by decide) rfl) dX11_round_51 ?_
          refine ab_iconst (v := (-1)) dX11_round_54 (by decide) ?_
          refine ab_icmp_ne (tgt := 68) dX11_round_55 (by decide) (fun c11 => ?_) (fun c11 => ?_)
          · have ht := ht.1 c11
            refine ab_aload_n (i := 0) dX11_round_68 rfl rfl ?_
            refine ab_getR (b := 29) f_X11_49 rfl (sh_k hs8 0 11 (by decide) rfl) (sh_r hs8 7 rfl) dX11_round_69 ?_
            refine ab_getR (b := 32) f_X11_266 rfl (sh_k hs8 29 6 (by decide) rfl) (sh_r hs8 36 rfl) dX11_round_72 ?_
            refine ab_iload_n (i := 2) dX11_round_75 rfl rfl ?_
            obtain ⟨hc12, ht⟩ := ht
            refine ab_iald (sh_k hs8 32 14 (by decide) rfl) hc12 dX11_round_76 ?_
            exact ab_iret rfl dX11_round_77 (Nat.le_of_ble_eq_true rfl) (Nat.le_of_ble_eq_true rfl) ht
          · have ht := ht.2 c11
            refine ab_aload_n (i := 0) dX11_round_58 rfl rfl ?_
            refine ab_getR (b := 29) f_X11_49 rfl (sh_k hs8 0 11 (by decide) rfl) (sh_r hs8 7 rfl) dX11_round_59 ?_
            refine ab_getI f_X11_263 rfl (sh_k hs8 29 6 (by decide) rfl) dX11_round_62 ?_
            refine ab_goto (tgt := 77) dX11_round_65 (by decide) ?_
            exact ab_iret rfl dX11_round_77 (Nat.le_of_ble_eq_true rfl) (Nat.le_of_ble_eq_true rfl) ht
      · have ht := ht.2 c3
        refine ab_iconst (v := (-1)) dX11_round_28 (by decide) ?_
        exact ab_iret rfl dX11_round_29 (Nat.le_of_ble_eq_true rfl) (Nat.le_of_ble_eq_true rfl) ht
theorem dX11_walk_0 : decode cX11_walk 0 = .ok (.iload_n 1, 1) := by decide +kernel
theorem dX11_walk_1 : decode cX11_walk 1 = .ok (.bipush 12, 2) := by decide +kernel
theorem dX11_walk_3 : decode cX11_walk 3 = .ok (.invokestatic 119, 3) := by decide +kernel
theorem dX11_walk_6 : decode cX11_walk 6 = .ok (.ifCond .eq 36, 3) := by decide +kernel
theorem dX11_walk_9 : decode cX11_walk 9 = .ok (.iload_n 2, 1) := by decide +kernel
theorem dX11_walk_10 : decode cX11_walk 10 = .ok (.bipush 120, 2) := by decide +kernel
theorem dX11_walk_12 : decode cX11_walk 12 = .ok (.invokestatic 119, 3) := by decide +kernel
theorem dX11_walk_15 : decode cX11_walk 15 = .ok (.ifCond .eq 27, 3) := by decide +kernel
theorem dX11_walk_18 : decode cX11_walk 18 = .ok (.iload_n 3, 1) := by decide +kernel
theorem dX11_walk_19 : decode cX11_walk 19 = .ok (.bipush 12, 2) := by decide +kernel
theorem dX11_walk_21 : decode cX11_walk 21 = .ok (.invokestatic 119, 3) := by decide +kernel
theorem dX11_walk_24 : decode cX11_walk 24 = .ok (.ifCond .eq 18, 3) := by decide +kernel
theorem dX11_walk_27 : decode cX11_walk 27 = .ok (.iload 4, 2) := by decide +kernel
theorem dX11_walk_29 : decode cX11_walk 29 = .ok (.iconst 2, 1) := by decide +kernel
theorem dX11_walk_30 : decode cX11_walk 30 = .ok (.invokestatic 119, 3) := by decide +kernel
theorem dX11_walk_33 : decode cX11_walk 33 = .ok (.ifCond .eq 9, 3) := by decide +kernel
theorem dX11_walk_36 : decode cX11_walk 36 = .ok (.iload 5, 2) := by decide +kernel
theorem dX11_walk_38 : decode cX11_walk 38 = .ok (.iconst (-1), 1) := by decide +kernel
theorem dX11_walk_39 : decode cX11_walk 39 = .ok (.if_icmp .ge 5, 3) := by decide +kernel
theorem dX11_walk_42 : decode cX11_walk 42 = .ok (.iconst (-1), 1) := by decide +kernel
theorem dX11_walk_43 : decode cX11_walk 43 = .ok (.ireturn, 1) := by decide +kernel
theorem dX11_walk_44 : decode cX11_walk 44 = .ok (.aload_n 0, 1) := by decide +kernel
theorem dX11_walk_45 : decode cX11_walk 45 = .ok (.invokevirtual 166, 3) := by decide +kernel
theorem dX11_walk_48 : decode cX11_walk 48 = .ok (.aload_n 0, 1) := by decide +kernel
theorem dX11_walk_49 : decode cX11_walk 49 = .ok (.getfield 76, 3) := by decide +kernel
theorem dX11_walk_52 : decode cX11_walk 52 = .ok (.invokevirtual 235, 3) := by decide +kernel
theorem dX11_walk_55 : decode cX11_walk 55 = .ok (.aload_n 0, 1) := by decide +kernel
theorem dX11_walk_56 : decode cX11_walk 56 = .ok (.getfield 76, 3) := by decide +kernel
theorem dX11_walk_59 : decode cX11_walk 59 = .ok (.iload_n 1, 1) := by decide +kernel
theorem dX11_walk_60 : decode cX11_walk 60 = .ok (.iload_n 2, 1) := by decide +kernel
theorem dX11_walk_61 : decode cX11_walk 61 = .ok (.iload_n 3, 1) := by decide +kernel
theorem dX11_walk_62 : decode cX11_walk 62 = .ok (.iload 4, 2) := by decide +kernel
theorem dX11_walk_64 : decode cX11_walk 64 = .ok (.invokevirtual 269, 3) := by decide +kernel
theorem dX11_walk_67 : decode cX11_walk 67 = .ok (.aload_n 0, 1) := by decide +kernel
theorem dX11_walk_68 : decode cX11_walk 68 = .ok (.getfield 76, 3) := by decide +kernel
theorem dX11_walk_71 : decode cX11_walk 71 = .ok (.getfield 273, 3) := by decide +kernel
theorem dX11_walk_74 : decode cX11_walk 74 = .ok (.istore 6, 2) := by decide +kernel
theorem dX11_walk_76 : decode cX11_walk 76 = .ok (.iload 5, 2) := by decide +kernel
theorem dX11_walk_78 : decode cX11_walk 78 = .ok (.iconst (-1), 1) := by decide +kernel
theorem dX11_walk_79 : decode cX11_walk 79 = .ok (.if_icmp .eq 9, 3) := by decide +kernel
theorem dX11_walk_82 : decode cX11_walk 82 = .ok (.iload 6, 2) := by decide +kernel
theorem dX11_walk_84 : decode cX11_walk 84 = .ok (.iconst (-1), 1) := by decide +kernel
theorem dX11_walk_85 : decode cX11_walk 85 = .ok (.if_icmp .ne 6, 3) := by decide +kernel
theorem dX11_walk_88 : decode cX11_walk 88 = .ok (.iload 6, 2) := by decide +kernel
theorem dX11_walk_90 : decode cX11_walk 90 = .ok (.ireturn, 1) := by decide +kernel
theorem dX11_walk_91 : decode cX11_walk 91 = .ok (.iload 5, 2) := by decide +kernel
theorem dX11_walk_93 : decode cX11_walk 93 = .ok (.iload 6, 2) := by decide +kernel
theorem dX11_walk_95 : decode cX11_walk 95 = .ok (.iload_n 2, 1) := by decide +kernel
theorem dX11_walk_96 : decode cX11_walk 96 = .ok (.isub, 1) := by decide +kernel
theorem dX11_walk_97 : decode cX11_walk 97 = .ok (.if_icmp .le 7, 3) := by decide +kernel
theorem dX11_walk_100 : decode cX11_walk 100 = .ok (.iconst (-1), 1) := by decide +kernel
theorem dX11_walk_101 : decode cX11_walk 101 = .ok (.goto 15, 3) := by decide +kernel
theorem dX11_walk_104 : decode cX11_walk 104 = .ok (.aload_n 0, 1) := by decide +kernel
theorem dX11_walk_105 : decode cX11_walk 105 = .ok (.getfield 76, 3) := by decide +kernel
theorem dX11_walk_108 : decode cX11_walk 108 = .ok (.getfield 276, 3) := by decide +kernel
theorem dX11_walk_111 : decode cX11_walk 111 = .ok (.iload_n 2, 1) := by decide +kernel
theorem dX11_walk_112 : decode cX11_walk 112 = .ok (.iload 5, 2) := by decide +kernel
theorem dX11_walk_114 : decode cX11_walk 114 = .ok (.iadd, 1) := by decide +kernel
theorem dX11_walk_115 : decode cX11_walk 115 = .ok (.iaload, 1) := by decide +kernel
theorem dX11_walk_116 : decode cX11_walk 116 = .ok (.ireturn, 1) := by decide +kernel
set_option maxRecDepth 20000 in
theorem T_X11_walk {Q : Option Value → ah_T → Prop} {h : ah_T} (hs : Sh h) (x1 : Int32) (x2 : Int32) (x3 : Int32) (x4 : Int32) (x5 : Int32) (ht : (((f_X11_isIn x1 12) = 0 → Q (some (.int (-1))) h) ∧ (¬ (f_X11_isIn x1 12) = 0 → (((f_X11_isIn x2 120) = 0 → Q (some (.int (-1))) h) ∧ (¬ (f_X11_isIn x2 120) = 0 → (((f_X11_isIn x3 12) = 0 → Q (some (.int (-1))) h) ∧ (¬ (f_X11_isIn x3 12) = 0 → (((f_X11_isIn x4 2) = 0 → Q (some (.int (-1))) h) ∧ (¬ (f_X11_isIn x4 2) = 0 → (((-1) ≤ x5 → (Mt mX11_look [.ref 0] h (ab_qv fun h6 => Sh h6 ∧ (Mt mX0_relate [.ref 54] h6 (ab_qv fun h9 => Sh h9 ∧ (Mt mX0_findWalk [.ref 54, .int x1, .int x2, .int x3, .int x4] h9 (ab_qv fun h12 => Sh h12 ∧ ((x5 = (-1) → Q (some (.int (ah_i h12 54 3))) h12) ∧ (¬ x5 = (-1) → ((¬ (ah_i h12 54 3) = (-1) → ((x5 ≤ ((ah_i h12 54 3) - x2) → (vp_in (x2 + x5) (ah_n h12 58)) ∧ Q (some (.int (ah_i h12 58 (Int32.toNatClampNeg (x2 + x5))))) h12) ∧ (¬ x5 ≤ ((ah_i h12 54 3) - x2) → Q (some (.int (-1))) h12))) ∧ ((ah_i h12 54 3) = (-1) → Q (some (.int (ah_i h12 54 3))) h12))))))))))) ∧ (¬ (-1) ≤ x5 → Q (some (.int (-1))) h))))))))))) : Mt mX11_walk [.ref 0, .int x1, .int x2, .int x3, .int x4, .int x5] h Q := by
  refine Mt.ofWp rfl (by exact (Nat.le_of_ble_eq_true rfl)) (Wp.fewer (L' := [some (.ref 0), some (.int x1), some (.int x2), some (.int x3), some (.int x4), some (.int x5), none]) (show ab_leL _ _ from ⟨rfl, ⟨rfl, ⟨rfl, ⟨rfl, ⟨rfl, ⟨rfl, trivial⟩⟩⟩⟩⟩⟩) ?_)
  refine ab_iload_n (i := 1) dX11_walk_0 rfl rfl ?_
  refine ab_bipush (v := 12) dX11_walk_1 (by decide) ?_
  refine ab_callS (Q' := fun r h' => r = some (.int (f_X11_isIn x1 12)) ∧ h = h') (As := [.int x1, .int 12]) (c_X11_isIn hs x1 12 ⟨rfl, rfl⟩) (Y_X11_isIn) l_X11_119 st_X11_isIn rfl ⟨(Nat.le_of_ble_eq_true rfl), (Nat.le_of_ble_eq_true rfl), (Nat.le_of_ble_eq_true rfl), (Nat.le_of_ble_eq_true rfl)⟩ dX11_walk_3 ?_
  rintro _ _ ⟨rfl, rfl⟩
  refine ab_if_eq (tgt := 42) dX11_walk_6 (by decide) (fun c1 => ?_) (fun c1 => ?_)
  · have ht := ht.1 c1
    refine ab_iconst (v := (-1)) dX11_walk_42 (by decide) ?_
    exact ab_iret rfl dX11_walk_43 (Nat.le_of_ble_eq_true rfl) (Nat.le_of_ble_eq_true rfl) ht
  · have ht := ht.2 c1
    refine ab_iload_n (i := 2) dX11_walk_9 rfl rfl ?_
    refine ab_bipush (v := 120) dX11_walk_10 (by decide) ?_
    refine ab_callS (Q' := fun r h' => r = some (.int (f_X11_isIn x2 120)) ∧ h = h') (As := [.int x2, .int 120]) (c_X11_isIn hs x2 120 ⟨rfl, rfl⟩) (Y_X11_isIn) l_X11_119 st_X11_isIn rfl ⟨(Nat.le_of_ble_eq_true rfl), (Nat.le_of_ble_eq_true rfl), (Nat.le_of_ble_eq_true rfl), (Nat.le_of_ble_eq_true rfl)⟩ dX11_walk_12 ?_
    rintro _ _ ⟨rfl, rfl⟩
    refine ab_if_eq (tgt := 42) dX11_walk_15 (by decide) (fun c2 => ?_) (fun c2 => ?_)
    · have ht := ht.1 c2
      refine ab_iconst (v := (-1)) dX11_walk_42 (by decide) ?_
      exact ab_iret rfl dX11_walk_43 (Nat.le_of_ble_eq_true rfl) (Nat.le_of_ble_eq_true rfl) ht
    · have ht := ht.2 c2
      refine ab_iload_n (i := 3) dX11_walk_18 rfl rfl ?_
      refine ab_bipush (v := 12) dX11_walk_19 (by decide) ?_
      refine ab_callS (Q' := fun r h' => r = some (.int (f_X11_isIn x3 12)) ∧ h = h') (As := [.int x3, .int 12]) (c_X11_isIn hs x3 12 ⟨rfl, rfl⟩) (Y_X11_isIn) l_X11_119 st_X11_isIn rfl ⟨(Nat.le_of_ble_eq_true rfl), (Nat.le_of_ble_eq_true rfl), (Nat.le_of_ble_eq_true rfl), (Nat.le_of_ble_eq_true rfl)⟩ dX11_walk_21 ?_
      rintro _ _ ⟨rfl, rfl⟩
      refine ab_if_eq (tgt := 42) dX11_walk_24 (by decide) (fun c3 => ?_) (fun c3 => ?_)
      · have ht := ht.1 c3
        refine ab_iconst (v := (-1)) dX11_walk_42 (by decide) ?_
        exact ab_iret rfl dX11_walk_43 (Nat.le_of_ble_eq_true rfl) (Nat.le_of_ble_eq_true rfl) ht
      · have ht := ht.2 c3
        refine ab_iload (i := 4) dX11_walk_27 rfl ?_
        refine ab_iconst (v := 2) dX11_walk_29 (by decide) ?_
        refine ab_callS (Q' := fun r h' => r = some (.int (f_X11_isIn x4 2)) ∧ h = h') (As := [.int x4, .int 2]) (c_X11_isIn hs x4 2 ⟨rfl, rfl⟩) (Y_X11_isIn) l_X11_119 st_X11_isIn rfl ⟨(Nat.le_of_ble_eq_true rfl), (Nat.le_of_ble_eq_true rfl), (Nat.le_of_ble_eq_true rfl), (Nat.le_of_ble_eq_true rfl)⟩ dX11_walk_30 ?_
        rintro _ _ ⟨rfl, rfl⟩
        refine ab_if_eq (tgt := 42) dX11_walk_33 (by decide) (fun c4 => ?_) (fun c4 => ?_)
        · have ht := ht.1 c4
          refine ab_iconst (v := (-1)) dX11_walk_42 (by decide) ?_
          exact ab_iret rfl dX11_walk_43 (Nat.le_of_ble_eq_true rfl) (Nat.le_of_ble_eq_true rfl) ht
        · have ht := ht.2 c4
          refine ab_iload (i := 5) dX11_walk_36 rfl ?_
          refine ab_iconst (v := (-1)) dX11_walk_38 (by decide) ?_
          refine ab_icmp_ge (tgt := 44) dX11_walk_39 (by decide) (fun c5 => ?_) (fun c5 => ?_)
          · have ht := ht.1 c5
            refine ab_aload_n (i := 0) dX11_walk_44 rfl rfl ?_
            refine ab_callV (b := 0) (As := []) ht (Y_X11_look) l_X11_166 in_X11_look se_X11_look (sh_k hs 0 11 (by decide) rfl) (by decide) rfl rfl ⟨(Nat.le_of_ble_eq_true rfl), (Nat.le_of_ble_eq_true rfl), (Nat.le_of_ble_eq_true rfl), (Nat.le_of_ble_eq_true rfl)⟩ dX11_walk_45 ?_
            rintro _ h6 ⟨rfl, hs7, ht⟩
            refine ab_aload_n (i := 0) dX11_walk_48 rfl rfl ?_
            refine ab_getR (b := 54) f_X11_76 rfl (sh_k hs7 0 11 (by decide) rfl) (sh_r hs7 10 rfl) dX11_walk_49 ?_
            refine ab_callV (b := 54) (As := []) ht (Y_X0_relate) l_X11_235 in_X0_relate se_X0_relate (sh_k hs7 54 0 (by decide) rfl) (by decide) rfl rfl ⟨(Nat.le_of_ble_eq_true rfl), (Nat.le_of_ble_eq_true rfl), (Nat.le_of_ble_eq_true rfl), (Nat.le_of_ble_eq_true rfl)⟩ dX11_walk_52 ?_
            rintro _ h9 ⟨rfl, hs10, ht⟩
            refine ab_aload_n (i := 0) dX11_walk_55 rfl rfl ?_
            refine ab_getR (b := 54) f_X11_76 rfl (sh_k hs10 0 11 (by decide) rfl) (sh_r hs10 10 rfl) dX11_walk_56 ?_
            refine ab_iload_n (i := 1) dX11_walk_59 rfl rfl ?_
            refine ab_iload_n (i := 2) dX11_walk_60 rfl rfl ?_
            refine ab_iload_n (i := 3) dX11_walk_61 rfl rfl ?_
            refine ab_iload (i := 4) dX11_walk_62 rfl ?_
            refine ab_callV (b := 54) (As := [.int x1, .int x2, .int x3, .int x4]) ht (Y_X0_findWalk) l_X11_269 in_X0_findWalk se_X0_findWalk (sh_k hs10 54 0 (by decide) rfl) (by decide) rfl rfl ⟨(Nat.le_of_ble_eq_true rfl), (Nat.le_of_ble_eq_true rfl), (Nat.le_of_ble_eq_true rfl), (Nat.le_of_ble_eq_true rfl)⟩ dX11_walk_64 ?_
            rintro _ h12 ⟨rfl, hs13, ht⟩
            refine ab_aload_n (i := 0) dX11_walk_67 rfl rfl ?_
            refine ab_getR (b := 54) f_X11_76 rfl (sh_k hs13 0 11 (by decide) rfl) (sh_r hs13 10 rfl) dX11_walk_68 ?_
            refine ab_getI f_X11_273 rfl (sh_k hs13 54 0 (by decide) rfl) dX11_walk_71 ?_
            refine ab_istore (i := 6) (L' := [some (.ref 0), some (.int x1), some (.int x2), some (.int x3), some (.int x4), some (.int x5), some (.int (ah_i h12 54 3))]) dX11_walk_74 (by exact (Nat.le_of_ble_eq_true rfl)) rfl rfl ?_
            refine ab_iload (i := 5) dX11_walk_76 rfl ?_
            refine ab_iconst (v := (-1)) dX11_walk_78 (by decide) ?_
            refine ab_icmp_eq (tgt := 88) dX11_walk_79 (by decide) (fun c15 => ?_) (fun c15 => ?_)
            · have ht := ht.1 c15
              refine ab_iload (i := 6) dX11_walk_88 rfl ?_
              exact ab_iret rfl dX11_walk_90 (Nat.le_of_ble_eq_true rfl) (Nat.le_of_ble_eq_true rfl) ht
            · have ht := ht.2 c15
              refine ab_iload (i := 6) dX11_walk_82 rfl ?_
              refine ab_iconst (v := (-1)) dX11_walk_84 (by decide) ?_
              refine ab_icmp_ne (tgt := 91) dX11_walk_85 (by decide) (fun c16 => ?_) (fun c16 => ?_)
              · have ht := ht.1 c16
                refine ab_iload (i := 5) dX11_walk_91 rfl ?_
                refine ab_iload (i := 6) dX11_walk_93 rfl ?_
                refine ab_iload_n (i := 2) dX11_walk_95 rfl rfl ?_
                refine ab_isub dX11_walk_96 ?_
                refine ab_icmp_le (tgt := 104) dX11_walk_97 (by decide) (fun c17 => ?_) (fun c17 => ?_)
                · have ht := ht.1 c17
                  refine ab_aload_n (i := 0) dX11_walk_104 rfl rfl ?_
                  refine ab_getR (b := 54) f_X11_76 rfl (sh_k hs13 0 11 (by decide) rfl) (sh_r hs13 10 rfl) dX11_walk_105 ?_
                  refine ab_getR (b := 58) f_X11_276 rfl (sh_k hs13 54 0 (by decide) rfl) (sh_r hs13 66 rfl) dX11_walk_108 ?_
                  refine ab_iload_n (i := 2) dX11_walk_111 rfl rfl ?_
                  refine ab_iload (i := 5) dX11_walk_112 rfl ?_
                  refine ab_iadd dX11_walk_114 ?_
                  obtain ⟨hc18, ht⟩ := ht
                  refine ab_iald (sh_k hs13 58 14 (by decide) rfl) hc18 dX11_walk_115 ?_
                  exact ab_iret rfl dX11_walk_116 (Nat.le_of_ble_eq_true rfl) (Nat.le_of_ble_eq_true rfl) ht
                · have ht := ht.2 c17
                  refine ab_iconst (v := (-1)) dX11_walk_100 (by decide) ?_
                  refine ab_goto (tgt := 116) dX11_walk_101 (by decide) ?_
                  exact ab_iret rfl dX11_walk_116 (Nat.le_of_ble_eq_true rfl) (Nat.le_of_ble_eq_true rfl) ht
              · have ht := ht.2 c16
                refine ab_iload (i := 6) dX11_walk_88 rfl ?_
                exact ab_iret rfl dX11_walk_90 (Nat.le_of_ble_eq_true rfl) (Nat.le_of_ble_eq_true rfl) ht
          · have ht := ht.2 c5
            refine ab_iconst (v := (-1)) dX11_walk_42 (by decide) ?_
            exact ab_iret rfl dX11_walk_43 (Nat.le_of_ble_eq_true rfl) (Nat.le_of_ble_eq_true rfl) ht
theorem dX11_worst_0 : decode cX11_worst 0 = .ok (.iload_n 1, 1) := by decide +kernel
theorem dX11_worst_1 : decode cX11_worst 1 = .ok (.bipush 6, 2) := by decide +kernel
theorem dX11_worst_3 : decode cX11_worst 3 = .ok (.invokestatic 119, 3) := by decide +kernel
theorem dX11_worst_6 : decode cX11_worst 6 = .ok (.ifCond .eq 43, 3) := by decide +kernel
theorem dX11_worst_9 : decode cX11_worst 9 = .ok (.iload_n 2, 1) := by decide +kernel
theorem dX11_worst_10 : decode cX11_worst 10 = .ok (.bipush 120, 2) := by decide +kernel
theorem dX11_worst_12 : decode cX11_worst 12 = .ok (.invokestatic 119, 3) := by decide +kernel
theorem dX11_worst_15 : decode cX11_worst 15 = .ok (.ifCond .eq 34, 3) := by decide +kernel
theorem dX11_worst_18 : decode cX11_worst 18 = .ok (.iload_n 3, 1) := by decide +kernel
theorem dX11_worst_19 : decode cX11_worst 19 = .ok (.bipush 12, 2) := by decide +kernel
theorem dX11_worst_21 : decode cX11_worst 21 = .ok (.invokestatic 119, 3) := by decide +kernel
theorem dX11_worst_24 : decode cX11_worst 24 = .ok (.ifCond .eq 25, 3) := by decide +kernel
theorem dX11_worst_27 : decode cX11_worst 27 = .ok (.iload 4, 2) := by decide +kernel
theorem dX11_worst_29 : decode cX11_worst 29 = .ok (.iconst 4, 1) := by decide +kernel
theorem dX11_worst_30 : decode cX11_worst 30 = .ok (.invokestatic 119, 3) := by decide +kernel
theorem dX11_worst_33 : decode cX11_worst 33 = .ok (.ifCond .eq 16, 3) := by decide +kernel
theorem dX11_worst_36 : decode cX11_worst 36 = .ok (.iload 5, 2) := by decide +kernel
theorem dX11_worst_38 : decode cX11_worst 38 = .ok (.iconst (-1), 1) := by decide +kernel
theorem dX11_worst_39 : decode cX11_worst 39 = .ok (.if_icmp .lt 10, 3) := by decide +kernel
theorem dX11_worst_42 : decode cX11_worst 42 = .ok (.iload 5, 2) := by decide +kernel
theorem dX11_worst_44 : decode cX11_worst 44 = .ok (.iload 4, 2) := by decide +kernel
theorem dX11_worst_46 : decode cX11_worst 46 = .ok (.if_icmp .lt 5, 3) := by decide +kernel
theorem dX11_worst_49 : decode cX11_worst 49 = .ok (.iconst (-1), 1) := by decide +kernel
theorem dX11_worst_50 : decode cX11_worst 50 = .ok (.ireturn, 1) := by decide +kernel
theorem dX11_worst_51 : decode cX11_worst 51 = .ok (.aload_n 0, 1) := by decide +kernel
theorem dX11_worst_52 : decode cX11_worst 52 = .ok (.invokevirtual 166, 3) := by decide +kernel
theorem dX11_worst_55 : decode cX11_worst 55 = .ok (.aload_n 0, 1) := by decide +kernel
theorem dX11_worst_56 : decode cX11_worst 56 = .ok (.getfield 85, 3) := by decide +kernel
theorem dX11_worst_59 : decode cX11_worst 59 = .ok (.iload_n 1, 1) := by decide +kernel
theorem dX11_worst_60 : decode cX11_worst 60 = .ok (.iload_n 2, 1) := by decide +kernel
theorem dX11_worst_61 : decode cX11_worst 61 = .ok (.iload_n 3, 1) := by decide +kernel
theorem dX11_worst_62 : decode cX11_worst 62 = .ok (.iload 4, 2) := by decide +kernel
theorem dX11_worst_64 : decode cX11_worst 64 = .ok (.invokevirtual 279, 3) := by decide +kernel
theorem dX11_worst_67 : decode cX11_worst 67 = .ok (.iload 5, 2) := by decide +kernel
theorem dX11_worst_69 : decode cX11_worst 69 = .ok (.iconst (-1), 1) := by decide +kernel
theorem dX11_worst_70 : decode cX11_worst 70 = .ok (.if_icmp .ne 13, 3) := by decide +kernel
theorem dX11_worst_73 : decode cX11_worst 73 = .ok (.aload_n 0, 1) := by decide +kernel
theorem dX11_worst_74 : decode cX11_worst 74 = .ok (.getfield 85, 3) := by decide +kernel
theorem dX11_worst_77 : decode cX11_worst 77 = .ok (.getfield 282, 3) := by decide +kernel
theorem dX11_worst_80 : decode cX11_worst 80 = .ok (.goto 13, 3) := by decide +kernel
theorem dX11_worst_83 : decode cX11_worst 83 = .ok (.aload_n 0, 1) := by decide +kernel
theorem dX11_worst_84 : decode cX11_worst 84 = .ok (.getfield 85, 3) := by decide +kernel
theorem dX11_worst_87 : decode cX11_worst 87 = .ok (.getfield 285, 3) := by decide +kernel
theorem dX11_worst_90 : decode cX11_worst 90 = .ok (.iload 5, 2) := by decide +kernel
theorem dX11_worst_92 : decode cX11_worst 92 = .ok (.iaload, 1) := by decide +kernel
theorem dX11_worst_93 : decode cX11_worst 93 = .ok (.ireturn, 1) := by decide +kernel
set_option maxRecDepth 20000 in
theorem T_X11_worst {Q : Option Value → ah_T → Prop} {h : ah_T} (hs : Sh h) (x1 : Int32) (x2 : Int32) (x3 : Int32) (x4 : Int32) (x5 : Int32) (ht : (((f_X11_isIn x1 6) = 0 → Q (some (.int (-1))) h) ∧ (¬ (f_X11_isIn x1 6) = 0 → (((f_X11_isIn x2 120) = 0 → Q (some (.int (-1))) h) ∧ (¬ (f_X11_isIn x2 120) = 0 → (((f_X11_isIn x3 12) = 0 → Q (some (.int (-1))) h) ∧ (¬ (f_X11_isIn x3 12) = 0 → (((f_X11_isIn x4 4) = 0 → Q (some (.int (-1))) h) ∧ (¬ (f_X11_isIn x4 4) = 0 → ((x5 < (-1) → Q (some (.int (-1))) h) ∧ (¬ x5 < (-1) → ((x5 < x4 → (Mt mX11_look [.ref 0] h (ab_qv fun h7 => Sh h7 ∧ (Mt mX1_findWorst [.ref 62, .int x1, .int x2, .int x3, .int x4] h7 (ab_qv fun h10 => Sh h10 ∧ ((¬ x5 = (-1) → (vp_in x5 (ah_n h10 69)) ∧ Q (some (.int (ah_i h10 69 (Int32.toNatClampNeg x5)))) h10) ∧ (x5 = (-1) → Q (some (.int (ah_i h10 62 4))) h10))))))) ∧ (¬ x5 < x4 → Q (some (.int (-1))) h))))))))))))) : Mt mX11_worst [.ref 0, .int x1, .int x2, .int x3, .int x4, .int x5] h Q := by
  refine Mt.ofWp rfl (by exact (Nat.le_of_ble_eq_true rfl)) (Wp.fewer (L' := [some (.ref 0), some (.int x1), some (.int x2), some (.int x3), some (.int x4), some (.int x5)]) (show ab_leL _ _ from ⟨rfl, ⟨rfl, ⟨rfl, ⟨rfl, ⟨rfl, ⟨rfl, trivial⟩⟩⟩⟩⟩⟩) ?_)
  refine ab_iload_n (i := 1) dX11_worst_0 rfl rfl ?_
  refine ab_bipush (v := 6) dX11_worst_1 (by decide) ?_
  refine ab_callS (Q' := fun r h' => r = some (.int (f_X11_isIn x1 6)) ∧ h = h') (As := [.int x1, .int 6]) (c_X11_isIn hs x1 6 ⟨rfl, rfl⟩) (Y_X11_isIn) l_X11_119 st_X11_isIn rfl ⟨(Nat.le_of_ble_eq_true rfl), (Nat.le_of_ble_eq_true rfl), (Nat.le_of_ble_eq_true rfl), (Nat.le_of_ble_eq_true rfl)⟩ dX11_worst_3 ?_
  rintro _ _ ⟨rfl, rfl⟩
  refine ab_if_eq (tgt := 49) dX11_worst_6 (by decide) (fun c1 => ?_) (fun c1 => ?_)
  · have ht := ht.1 c1
    refine ab_iconst (v := (-1)) dX11_worst_49 (by decide) ?_
    exact ab_iret rfl dX11_worst_50 (Nat.le_of_ble_eq_true rfl) (Nat.le_of_ble_eq_true rfl) ht
  · have ht := ht.2 c1
    refine ab_iload_n (i := 2) dX11_worst_9 rfl rfl ?_
    refine ab_bipush (v := 120) dX11_worst_10 (by decide) ?_
    refine ab_callS (Q' := fun r h' => r = some (.int (f_X11_isIn x2 120)) ∧ h = h') (As := [.int x2, .int 120]) (c_X11_isIn hs x2 120 ⟨rfl, rfl⟩) (Y_X11_isIn) l_X11_119 st_X11_isIn rfl ⟨(Nat.le_of_ble_eq_true rfl), (Nat.le_of_ble_eq_true rfl), (Nat.le_of_ble_eq_true rfl), (Nat.le_of_ble_eq_true rfl)⟩ dX11_worst_12 ?_
    rintro _ _ ⟨rfl, rfl⟩
    refine ab_if_eq (tgt := 49) dX11_worst_15 (by decide) (fun c2 => ?_) (fun c2 => ?_)
    · have ht := ht.1 c2
      refine ab_iconst (v := (-1)) dX11_worst_49 (by decide) ?_
      exact ab_iret rfl dX11_worst_50 (Nat.le_of_ble_eq_true rfl) (Nat.le_of_ble_eq_true rfl) ht
    · have ht := ht.2 c2
      refine ab_iload_n (i := 3) dX11_worst_18 rfl rfl ?_
      refine ab_bipush (v := 12) dX11_worst_19 (by decide) ?_
      refine ab_callS (Q' := fun r h' => r = some (.int (f_X11_isIn x3 12)) ∧ h = h') (As := [.int x3, .int 12]) (c_X11_isIn hs x3 12 ⟨rfl, rfl⟩) (Y_X11_isIn) l_X11_119 st_X11_isIn rfl ⟨(Nat.le_of_ble_eq_true rfl), (Nat.le_of_ble_eq_true rfl), (Nat.le_of_ble_eq_true rfl), (Nat.le_of_ble_eq_true rfl)⟩ dX11_worst_21 ?_
      rintro _ _ ⟨rfl, rfl⟩
      refine ab_if_eq (tgt := 49) dX11_worst_24 (by decide) (fun c3 => ?_) (fun c3 => ?_)
      · have ht := ht.1 c3
        refine ab_iconst (v := (-1)) dX11_worst_49 (by decide) ?_
        exact ab_iret rfl dX11_worst_50 (Nat.le_of_ble_eq_true rfl) (Nat.le_of_ble_eq_true rfl) ht
      · have ht := ht.2 c3
        refine ab_iload (i := 4) dX11_worst_27 rfl ?_
        refine ab_iconst (v := 4) dX11_worst_29 (by decide) ?_
        refine ab_callS (Q' := fun r h' => r = some (.int (f_X11_isIn x4 4)) ∧ h = h') (As := [.int x4, .int 4]) (c_X11_isIn hs x4 4 ⟨rfl, rfl⟩) (Y_X11_isIn) l_X11_119 st_X11_isIn rfl ⟨(Nat.le_of_ble_eq_true rfl), (Nat.le_of_ble_eq_true rfl), (Nat.le_of_ble_eq_true rfl), (Nat.le_of_ble_eq_true rfl)⟩ dX11_worst_30 ?_
        rintro _ _ ⟨rfl, rfl⟩
        refine ab_if_eq (tgt := 49) dX11_worst_33 (by decide) (fun c4 => ?_) (fun c4 => ?_)
        · have ht := ht.1 c4
          refine ab_iconst (v := (-1)) dX11_worst_49 (by decide) ?_
          exact ab_iret rfl dX11_worst_50 (Nat.le_of_ble_eq_true rfl) (Nat.le_of_ble_eq_true rfl) ht
        · have ht := ht.2 c4
          refine ab_iload (i := 5) dX11_worst_36 rfl ?_
          refine ab_iconst (v := (-1)) dX11_worst_38 (by decide) ?_
          refine ab_icmp_lt (tgt := 49) dX11_worst_39 (by decide) (fun c5 => ?_) (fun c5 => ?_)
          · have ht := ht.1 c5
            refine ab_iconst (v := (-1)) dX11_worst_49 (by decide) ?_
            exact ab_iret rfl dX11_worst_50 (Nat.le_of_ble_eq_true rfl) (Nat.le_of_ble_eq_true rfl) ht
          · have ht := ht.2 c5
            refine ab_iload (i := 5) dX11_worst_42 rfl ?_
            refine ab_iload (i := 4) dX11_worst_44 rfl ?_
            refine ab_icmp_lt (tgt := 51) dX11_worst_46 (by decide) (fun c6 => ?_) (fun c6 => ?_)
            · have ht := ht.1 c6
              refine ab_aload_n (i := 0) dX11_worst_51 rfl rfl ?_
              refine ab_callV (b := 0) (As := []) ht (Y_X11_look) l_X11_166 in_X11_look se_X11_look (sh_k hs 0 11 (by decide) rfl) (by decide) rfl rfl ⟨(Nat.le_of_ble_eq_true rfl), (Nat.le_of_ble_eq_true rfl), (Nat.le_of_ble_eq_true rfl), (Nat.le_of_ble_eq_true rfl)⟩ dX11_worst_52 ?_
              rintro _ h7 ⟨rfl, hs8, ht⟩
              refine ab_aload_n (i := 0) dX11_worst_55 rfl rfl ?_
              refine ab_getR (b := 62) f_X11_85 rfl (sh_k hs8 0 11 (by decide) rfl) (sh_r hs8 11 rfl) dX11_worst_56 ?_
              refine ab_iload_n (i := 1) dX11_worst_59 rfl rfl ?_
              refine ab_iload_n (i := 2) dX11_worst_60 rfl rfl ?_
              refine ab_iload_n (i := 3) dX11_worst_61 rfl rfl ?_
              refine ab_iload (i := 4) dX11_worst_62 rfl ?_
              refine ab_callV (b := 62) (As := [.int x1, .int x2, .int x3, .int x4]) ht (Y_X1_findWorst) l_X11_279 in_X1_findWorst se_X1_findWorst (sh_k hs8 62 1 (by decide) rfl) (by decide) rfl rfl ⟨(Nat.le_of_ble_eq_true rfl), (Nat.le_of_ble_eq_true rfl), (Nat.le_of_ble_eq_true rfl), (Nat.le_of_ble_eq_true rfl)⟩ dX11_worst_64 ?_
              rintro _ h10 ⟨rfl, hs11, ht⟩
              refine ab_iload (i := 5) dX11_worst_67 rfl ?_
              refine ab_iconst (v := (-1)) dX11_worst_69 (by decide) ?_
              refine ab_icmp_ne (tgt := 83) dX11_worst_70 (by decide) (fun c13 => ?_) (fun c13 => ?_)
              · have ht := ht.1 c13
                refine ab_aload_n (i := 0) dX11_worst_83 rfl rfl ?_
                refine ab_getR (b := 62) f_X11_85 rfl (sh_k hs11 0 11 (by decide) rfl) (sh_r hs11 11 rfl) dX11_worst_84 ?_
                refine ab_getR (b := 69) f_X11_285 rfl (sh_k hs11 62 1 (by decide) rfl) (sh_r hs11 78 rfl) dX11_worst_87 ?_
                refine ab_iload (i := 5) dX11_worst_90 rfl ?_
                obtain ⟨hc14, ht⟩ := ht
                refine ab_iald (sh_k hs11 69 14 (by decide) rfl) hc14 dX11_worst_92 ?_
                exact ab_iret rfl dX11_worst_93 (Nat.le_of_ble_eq_true rfl) (Nat.le_of_ble_eq_true rfl) ht
              · have ht := ht.2 c13
                refine ab_aload_n (i := 0) dX11_worst_73 rfl rfl ?_
                refine ab_getR (b := 62) f_X11_85 rfl (sh_k hs11 0 11 (by decide) rfl) (sh_r hs11 11 rfl) dX11_worst_74 ?_
                refine ab_getI f_X11_282 rfl (sh_k hs11 62 1 (by decide) rfl) dX11_worst_77 ?_
                refine ab_goto (tgt := 93) dX11_worst_80 (by decide) ?_
                exact ab_iret rfl dX11_worst_93 (Nat.le_of_ble_eq_true rfl) (Nat.le_of_ble_eq_true rfl) ht
            · have ht := ht.2 c6
              refine ab_iconst (v := (-1)) dX11_worst_49 (by decide) ?_
              exact ab_iret rfl dX11_worst_50 (Nat.le_of_ble_eq_true rfl) (Nat.le_of_ble_eq_true rfl) ht
theorem dX11_hang_0 : decode cX11_hang 0 = .ok (.iload_n 1, 1) := by decide +kernel
theorem dX11_hang_1 : decode cX11_hang 1 = .ok (.bipush 12, 2) := by decide +kernel
theorem dX11_hang_3 : decode cX11_hang 3 = .ok (.bipush 6, 2) := by decide +kernel
theorem dX11_hang_5 : decode cX11_hang 5 = .ok (.invokestatic 288, 3) := by decide +kernel
theorem dX11_hang_8 : decode cX11_hang 8 = .ok (.ifCond .eq 48, 3) := by decide +kernel
theorem dX11_hang_11 : decode cX11_hang 11 = .ok (.iload_n 2, 1) := by decide +kernel
theorem dX11_hang_12 : decode cX11_hang 12 = .ok (.bipush 6, 2) := by decide +kernel
theorem dX11_hang_14 : decode cX11_hang 14 = .ok (.iconst 3, 1) := by decide +kernel
theorem dX11_hang_15 : decode cX11_hang 15 = .ok (.invokestatic 288, 3) := by decide +kernel
theorem dX11_hang_18 : decode cX11_hang 18 = .ok (.ifCond .eq 38, 3) := by decide +kernel
theorem dX11_hang_21 : decode cX11_hang 21 = .ok (.iload_n 3, 1) := by decide +kernel
theorem dX11_hang_22 : decode cX11_hang 22 = .ok (.bipush 12, 2) := by decide +kernel
theorem dX11_hang_24 : decode cX11_hang 24 = .ok (.bipush 12, 2) := by decide +kernel
theorem dX11_hang_26 : decode cX11_hang 26 = .ok (.invokestatic 288, 3) := by decide +kernel
theorem dX11_hang_29 : decode cX11_hang 29 = .ok (.ifCond .eq 27, 3) := by decide +kernel
theorem dX11_hang_32 : decode cX11_hang 32 = .ok (.iload 4, 2) := by decide +kernel
theorem dX11_hang_34 : decode cX11_hang 34 = .ok (.bipush 120, 2) := by decide +kernel
theorem dX11_hang_36 : decode cX11_hang 36 = .ok (.invokestatic 119, 3) := by decide +kernel
theorem dX11_hang_39 : decode cX11_hang 39 = .ok (.ifCond .eq 17, 3) := by decide +kernel
theorem dX11_hang_42 : decode cX11_hang 42 = .ok (.iload 5, 2) := by decide +kernel
theorem dX11_hang_44 : decode cX11_hang 44 = .ok (.iconst 2, 1) := by decide +kernel
theorem dX11_hang_45 : decode cX11_hang 45 = .ok (.iload_n 1, 1) := by decide +kernel
theorem dX11_hang_46 : decode cX11_hang 46 = .ok (.invokestatic 292, 3) := by decide +kernel
theorem dX11_hang_49 : decode cX11_hang 49 = .ok (.iadd, 1) := by decide +kernel
theorem dX11_hang_50 : decode cX11_hang 50 = .ok (.invokestatic 119, 3) := by decide +kernel
theorem dX11_hang_53 : decode cX11_hang 53 = .ok (.ifCond .ne 5, 3) := by decide +kernel
theorem dX11_hang_56 : decode cX11_hang 56 = .ok (.iconst (-1), 1) := by decide +kernel
theorem dX11_hang_57 : decode cX11_hang 57 = .ok (.ireturn, 1) := by decide +kernel
theorem dX11_hang_58 : decode cX11_hang 58 = .ok (.aload_n 0, 1) := by decide +kernel
theorem dX11_hang_59 : decode cX11_hang 59 = .ok (.invokevirtual 166, 3) := by decide +kernel
theorem dX11_hang_62 : decode cX11_hang 62 = .ok (.aload_n 0, 1) := by decide +kernel
theorem dX11_hang_63 : decode cX11_hang 63 = .ok (.getfield 92, 3) := by decide +kernel
theorem dX11_hang_66 : decode cX11_hang 66 = .ok (.iload_n 1, 1) := by decide +kernel
theorem dX11_hang_67 : decode cX11_hang 67 = .ok (.iload_n 2, 1) := by decide +kernel
theorem dX11_hang_68 : decode cX11_hang 68 = .ok (.iload_n 3, 1) := by decide +kernel
theorem dX11_hang_69 : decode cX11_hang 69 = .ok (.iload 4, 2) := by decide +kernel
theorem dX11_hang_71 : decode cX11_hang 71 = .ok (.invokevirtual 297, 3) := by decide +kernel
theorem dX11_hang_74 : decode cX11_hang 74 = .ok (.iload 5, 2) := by decide +kernel
theorem dX11_hang_76 : decode cX11_hang 76 = .ok (.iconst 1, 1) := by decide +kernel
theorem dX11_hang_77 : decode cX11_hang 77 = .ok (.if_icmp .ne 11, 3) := by decide +kernel
theorem dX11_hang_80 : decode cX11_hang 80 = .ok (.aload_n 0, 1) := by decide +kernel
theorem dX11_hang_81 : decode cX11_hang 81 = .ok (.getfield 92, 3) := by decide +kernel
theorem dX11_hang_84 : decode cX11_hang 84 = .ok (.getfield 300, 3) := by decide +kernel
theorem dX11_hang_87 : decode cX11_hang 87 = .ok (.ireturn, 1) := by decide +kernel
theorem dX11_hang_88 : decode cX11_hang 88 = .ok (.aload_n 0, 1) := by decide +kernel
theorem dX11_hang_89 : decode cX11_hang 89 = .ok (.getfield 92, 3) := by decide +kernel
theorem dX11_hang_92 : decode cX11_hang 92 = .ok (.getfield 300, 3) := by decide +kernel
theorem dX11_hang_95 : decode cX11_hang 95 = .ok (.ifCond .ne 5, 3) := by decide +kernel
theorem dX11_hang_98 : decode cX11_hang 98 = .ok (.iconst (-1), 1) := by decide +kernel
theorem dX11_hang_99 : decode cX11_hang 99 = .ok (.ireturn, 1) := by decide +kernel
theorem dX11_hang_100 : decode cX11_hang 100 = .ok (.iload 5, 2) := by decide +kernel
theorem dX11_hang_102 : decode cX11_hang 102 = .ok (.ifCond .ne 13, 3) := by decide +kernel
theorem dX11_hang_105 : decode cX11_hang 105 = .ok (.aload_n 0, 1) := by decide +kernel
theorem dX11_hang_106 : decode cX11_hang 106 = .ok (.getfield 92, 3) := by decide +kernel
theorem dX11_hang_109 : decode cX11_hang 109 = .ok (.getfield 303, 3) := by decide +kernel
theorem dX11_hang_112 : decode cX11_hang 112 = .ok (.goto 15, 3) := by decide +kernel
theorem dX11_hang_115 : decode cX11_hang 115 = .ok (.aload_n 0, 1) := by decide +kernel
theorem dX11_hang_116 : decode cX11_hang 116 = .ok (.getfield 92, 3) := by decide +kernel
theorem dX11_hang_119 : decode cX11_hang 119 = .ok (.getfield 306, 3) := by decide +kernel
theorem dX11_hang_122 : decode cX11_hang 122 = .ok (.iload 5, 2) := by decide +kernel
theorem dX11_hang_124 : decode cX11_hang 124 = .ok (.iconst 2, 1) := by decide +kernel
theorem dX11_hang_125 : decode cX11_hang 125 = .ok (.isub, 1) := by decide +kernel
theorem dX11_hang_126 : decode cX11_hang 126 = .ok (.iaload, 1) := by decide +kernel
theorem dX11_hang_127 : decode cX11_hang 127 = .ok (.ireturn, 1) := by decide +kernel
set_option maxRecDepth 20000 in
theorem T_X11_hang {Q : Option Value → ah_T → Prop} {h : ah_T} (hs : Sh h) (x1 : Int32) (x2 : Int32) (x3 : Int32) (x4 : Int32) (x5 : Int32) (ht : (((f_X11_areBits x1 12 6) = 0 → Q (some (.int (-1))) h) ∧ (¬ (f_X11_areBits x1 12 6) = 0 → (((f_X11_areBits x2 6 3) = 0 → Q (some (.int (-1))) h) ∧ (¬ (f_X11_areBits x2 6 3) = 0 → (((f_X11_areBits x3 12 12) = 0 → Q (some (.int (-1))) h) ∧ (¬ (f_X11_areBits x3 12 12) = 0 → (((f_X11_isIn x4 120) = 0 → Q (some (.int (-1))) h) ∧ (¬ (f_X11_isIn x4 120) = 0 → ((¬ (f_X11_isIn x5 (2 + (f_J6_bitCount_0f7a4 x1))) = 0 → (Mt mX11_look [.ref 0] h (ab_qv fun h6 => Sh h6 ∧ (Mt mX4_findHanging [.ref 74, .int x1, .int x2, .int x3, .int x4] h6 (ab_qv fun h9 => Sh h9 ∧ ((¬ x5 = 1 → ((¬ (ah_i h9 74 1) = 0 → ((¬ x5 = 0 → (vp_in (x5 - 2) (ah_n h9 75)) ∧ Q (some (.int (ah_i h9 75 (Int32.toNatClampNeg (x5 - 2))))) h9) ∧ (x5 = 0 → Q (some (.int (ah_i h9 74 0))) h9))) ∧ ((ah_i h9 74 1) = 0 → Q (some (.int (-1))) h9))) ∧ (x5 = 1 → Q (some (.int (ah_i h9 74 1))) h9))))))) ∧ ((f_X11_isIn x5 (2 + (f_J6_bitCount_0f7a4 x1))) = 0 → Q (some (.int (-1))) h))))))))))) : Mt mX11_hang [.ref 0, .int x1, .int x2, .int x3, .int x4, .int x5] h Q := by
  refine Mt.ofWp rfl (by exact (Nat.le_of_ble_eq_true rfl)) (Wp.fewer (L' := [some (.ref 0), some (.int x1), some (.int x2), some (.int x3), some (.int x4), some (.int x5)]) (show ab_leL _ _ from ⟨rfl, ⟨rfl, ⟨rfl, ⟨rfl, ⟨rfl, ⟨rfl, trivial⟩⟩⟩⟩⟩⟩) ?_)
  refine ab_iload_n (i := 1) dX11_hang_0 rfl rfl ?_
  refine ab_bipush (v := 12) dX11_hang_1 (by decide) ?_
  refine ab_bipush (v := 6) dX11_hang_3 (by decide) ?_
  refine ab_callS (Q' := fun r h' => r = some (.int (f_X11_areBits x1 12 6)) ∧ h = h') (As := [.int x1, .int 12, .int 6]) (c_X11_areBits hs x1 12 6 ⟨rfl, rfl⟩) (Y_X11_areBits) l_X11_288 st_X11_areBits rfl ⟨(Nat.le_of_ble_eq_true rfl), (Nat.le_of_ble_eq_true rfl), (Nat.le_of_ble_eq_true rfl), (Nat.le_of_ble_eq_true rfl)⟩ dX11_hang_5 ?_
  rintro _ _ ⟨rfl, rfl⟩
  refine ab_if_eq (tgt := 56) dX11_hang_8 (by decide) (fun c1 => ?_) (fun c1 => ?_)
  · have ht := ht.1 c1
    refine ab_iconst (v := (-1)) dX11_hang_56 (by decide) ?_
    exact ab_iret rfl dX11_hang_57 (Nat.le_of_ble_eq_true rfl) (Nat.le_of_ble_eq_true rfl) ht
  · have ht := ht.2 c1
    refine ab_iload_n (i := 2) dX11_hang_11 rfl rfl ?_
    refine ab_bipush (v := 6) dX11_hang_12 (by decide) ?_
    refine ab_iconst (v := 3) dX11_hang_14 (by decide) ?_
    refine ab_callS (Q' := fun r h' => r = some (.int (f_X11_areBits x2 6 3)) ∧ h = h') (As := [.int x2, .int 6, .int 3]) (c_X11_areBits hs x2 6 3 ⟨rfl, rfl⟩) (Y_X11_areBits) l_X11_288 st_X11_areBits rfl ⟨(Nat.le_of_ble_eq_true rfl), (Nat.le_of_ble_eq_true rfl), (Nat.le_of_ble_eq_true rfl), (Nat.le_of_ble_eq_true rfl)⟩ dX11_hang_15 ?_
    rintro _ _ ⟨rfl, rfl⟩
    refine ab_if_eq (tgt := 56) dX11_hang_18 (by decide) (fun c2 => ?_) (fun c2 => ?_)
    · have ht := ht.1 c2
      refine ab_iconst (v := (-1)) dX11_hang_56 (by decide) ?_
      exact ab_iret rfl dX11_hang_57 (Nat.le_of_ble_eq_true rfl) (Nat.le_of_ble_eq_true rfl) ht
    · have ht := ht.2 c2
      refine ab_iload_n (i := 3) dX11_hang_21 rfl rfl ?_
      refine ab_bipush (v := 12) dX11_hang_22 (by decide) ?_
      refine ab_bipush (v := 12) dX11_hang_24 (by decide) ?_
      refine ab_callS (Q' := fun r h' => r = some (.int (f_X11_areBits x3 12 12)) ∧ h = h') (As := [.int x3, .int 12, .int 12]) (c_X11_areBits hs x3 12 12 ⟨rfl, rfl⟩) (Y_X11_areBits) l_X11_288 st_X11_areBits rfl ⟨(Nat.le_of_ble_eq_true rfl), (Nat.le_of_ble_eq_true rfl), (Nat.le_of_ble_eq_true rfl), (Nat.le_of_ble_eq_true rfl)⟩ dX11_hang_26 ?_
      rintro _ _ ⟨rfl, rfl⟩
      refine ab_if_eq (tgt := 56) dX11_hang_29 (by decide) (fun c3 => ?_) (fun c3 => ?_)
      · have ht := ht.1 c3
        refine ab_iconst (v := (-1)) dX11_hang_56 (by decide) ?_
        exact ab_iret rfl dX11_hang_57 (Nat.le_of_ble_eq_true rfl) (Nat.le_of_ble_eq_true rfl) ht
      · have ht := ht.2 c3
        refine ab_iload (i := 4) dX11_hang_32 rfl ?_
        refine ab_bipush (v := 120) dX11_hang_34 (by decide) ?_
        refine ab_callS (Q' := fun r h' => r = some (.int (f_X11_isIn x4 120)) ∧ h = h') (As := [.int x4, .int 120]) (c_X11_isIn hs x4 120 ⟨rfl, rfl⟩) (Y_X11_isIn) l_X11_119 st_X11_isIn rfl ⟨(Nat.le_of_ble_eq_true rfl), (Nat.le_of_ble_eq_true rfl), (Nat.le_of_ble_eq_true rfl), (Nat.le_of_ble_eq_true rfl)⟩ dX11_hang_36 ?_
        rintro _ _ ⟨rfl, rfl⟩
        refine ab_if_eq (tgt := 56) dX11_hang_39 (by decide) (fun c4 => ?_) (fun c4 => ?_)
        · have ht := ht.1 c4
          refine ab_iconst (v := (-1)) dX11_hang_56 (by decide) ?_
          exact ab_iret rfl dX11_hang_57 (Nat.le_of_ble_eq_true rfl) (Nat.le_of_ble_eq_true rfl) ht
        · have ht := ht.2 c4
          refine ab_iload (i := 5) dX11_hang_42 rfl ?_
          refine ab_iconst (v := 2) dX11_hang_44 (by decide) ?_
          refine ab_iload_n (i := 1) dX11_hang_45 rfl rfl ?_
          refine ab_callS (Q' := fun r h' => r = some (.int (f_J6_bitCount_0f7a4 x1)) ∧ h = h') (As := [.int x1]) (c_J6_bitCount_0f7a4 hs x1 ⟨rfl, rfl⟩) (Y_J6_bitCount_0f7a4) l_X11_292 st_J6_bitCount_0f7a4 rfl ⟨(Nat.le_of_ble_eq_true rfl), (Nat.le_of_ble_eq_true rfl), (Nat.le_of_ble_eq_true rfl), (Nat.le_of_ble_eq_true rfl)⟩ dX11_hang_46 ?_
          rintro _ _ ⟨rfl, rfl⟩
          refine ab_iadd dX11_hang_49 ?_
          refine ab_callS (Q' := fun r h' => r = some (.int (f_X11_isIn x5 (2 + (f_J6_bitCount_0f7a4 x1)))) ∧ h = h') (As := [.int x5, .int (2 + (f_J6_bitCount_0f7a4 x1))]) (c_X11_isIn hs x5 (2 + (f_J6_bitCount_0f7a4 x1)) ⟨rfl, rfl⟩) (Y_X11_isIn) l_X11_119 st_X11_isIn rfl ⟨(Nat.le_of_ble_eq_true rfl), (Nat.le_of_ble_eq_true rfl), (Nat.le_of_ble_eq_true rfl), (Nat.le_of_ble_eq_true rfl)⟩ dX11_hang_50 ?_
          rintro _ _ ⟨rfl, rfl⟩
          refine ab_if_ne (tgt := 58) dX11_hang_53 (by decide) (fun c5 => ?_) (fun c5 => ?_)
          · have ht := ht.1 c5
            refine ab_aload_n (i := 0) dX11_hang_58 rfl rfl ?_
            refine ab_callV (b := 0) (As := []) ht (Y_X11_look) l_X11_166 in_X11_look se_X11_look (sh_k hs 0 11 (by decide) rfl) (by decide) rfl rfl ⟨(Nat.le_of_ble_eq_true rfl), (Nat.le_of_ble_eq_true rfl), (Nat.le_of_ble_eq_true rfl), (Nat.le_of_ble_eq_true rfl)⟩ dX11_hang_59 ?_
            rintro _ h6 ⟨rfl, hs7, ht⟩
            refine ab_aload_n (i := 0) dX11_hang_62 rfl rfl ?_
            refine ab_getR (b := 74) f_X11_92 rfl (sh_k hs7 0 11 (by decide) rfl) (sh_r hs7 12 rfl) dX11_hang_63 ?_
            refine ab_iload_n (i := 1) dX11_hang_66 rfl rfl ?_
            refine ab_iload_n (i := 2) dX11_hang_67 rfl rfl ?_
            refine ab_iload_n (i := 3) dX11_hang_68 rfl rfl ?_
            refine ab_iload (i := 4) dX11_hang_69 rfl ?_
            refine ab_callV (b := 74) (As := [.int x1, .int x2, .int x3, .int x4]) ht (Y_X4_findHanging) l_X11_297 in_X4_findHanging se_X4_findHanging (sh_k hs7 74 4 (by decide) rfl) (by decide) rfl rfl ⟨(Nat.le_of_ble_eq_true rfl), (Nat.le_of_ble_eq_true rfl), (Nat.le_of_ble_eq_true rfl), (Nat.le_of_ble_eq_true rfl)⟩ dX11_hang_71 ?_
            rintro _ h9 ⟨rfl, hs10, ht⟩
            refine ab_iload (i := 5) dX11_hang_74 rfl ?_
            refine ab_iconst (v := 1) dX11_hang_76 (by decide) ?_
            refine ab_icmp_ne (tgt := 88) dX11_hang_77 (by decide) (fun c12 => ?_) (fun c12 => ?_)
            · have ht := ht.1 c12
              refine ab_aload_n (i := 0) dX11_hang_88 rfl rfl ?_
              refine ab_getR (b := 74) f_X11_92 rfl (sh_k hs10 0 11 (by decide) rfl) (sh_r hs10 12 rfl) dX11_hang_89 ?_
              refine ab_getI f_X11_300 rfl (sh_k hs10 74 4 (by decide) rfl) dX11_hang_92 ?_
              refine ab_if_ne (tgt := 100) dX11_hang_95 (by decide) (fun c13 => ?_) (fun c13 => ?_)
              · have ht := ht.1 c13
                refine ab_iload (i := 5) dX11_hang_100 rfl ?_
                refine ab_if_ne (tgt := 115) dX11_hang_102 (by decide) (fun c14 => ?_) (fun c14 => ?_)
                · have ht := ht.1 c14
                  refine ab_aload_n (i := 0) dX11_hang_115 rfl rfl ?_
                  refine ab_getR (b := 74) f_X11_92 rfl (sh_k hs10 0 11 (by decide) rfl) (sh_r hs10 12 rfl) dX11_hang_116 ?_
                  refine ab_getR (b := 75) f_X11_306 rfl (sh_k hs10 74 4 (by decide) rfl) (sh_r hs10 88 rfl) dX11_hang_119 ?_
                  refine ab_iload (i := 5) dX11_hang_122 rfl ?_
                  refine ab_iconst (v := 2) dX11_hang_124 (by decide) ?_
                  refine ab_isub dX11_hang_125 ?_
                  obtain ⟨hc15, ht⟩ := ht
                  refine ab_iald (sh_k hs10 75 14 (by decide) rfl) hc15 dX11_hang_126 ?_
                  exact ab_iret rfl dX11_hang_127 (Nat.le_of_ble_eq_true rfl) (Nat.le_of_ble_eq_true rfl) ht
                · have ht := ht.2 c14
                  refine ab_aload_n (i := 0) dX11_hang_105 rfl rfl ?_
                  refine ab_getR (b := 74) f_X11_92 rfl (sh_k hs10 0 11 (by decide) rfl) (sh_r hs10 12 rfl) dX11_hang_106 ?_
                  refine ab_getI f_X11_303 rfl (sh_k hs10 74 4 (by decide) rfl) dX11_hang_109 ?_
                  refine ab_goto (tgt := 127) dX11_hang_112 (by decide) ?_
                  exact ab_iret rfl dX11_hang_127 (Nat.le_of_ble_eq_true rfl) (Nat.le_of_ble_eq_true rfl) ht
              · have ht := ht.2 c13
                refine ab_iconst (v := (-1)) dX11_hang_98 (by decide) ?_
                exact ab_iret rfl dX11_hang_99 (Nat.le_of_ble_eq_true rfl) (Nat.le_of_ble_eq_true rfl) ht
            · have ht := ht.2 c12
              refine ab_aload_n (i := 0) dX11_hang_80 rfl rfl ?_
              refine ab_getR (b := 74) f_X11_92 rfl (sh_k hs10 0 11 (by decide) rfl) (sh_r hs10 12 rfl) dX11_hang_81 ?_
              refine ab_getI f_X11_300 rfl (sh_k hs10 74 4 (by decide) rfl) dX11_hang_84 ?_
              exact ab_iret rfl dX11_hang_87 (Nat.le_of_ble_eq_true rfl) (Nat.le_of_ble_eq_true rfl) ht
          · have ht := ht.2 c5
            refine ab_iconst (v := (-1)) dX11_hang_56 (by decide) ?_
            exact ab_iret rfl dX11_hang_57 (Nat.le_of_ble_eq_true rfl) (Nat.le_of_ble_eq_true rfl) ht
theorem dX11_shutters_0 : decode cX11_shutters 0 = .ok (.iload_n 1, 1) := by decide +kernel
theorem dX11_shutters_1 : decode cX11_shutters 1 = .ok (.iconst 3, 1) := by decide +kernel
theorem dX11_shutters_2 : decode cX11_shutters 2 = .ok (.invokestatic 119, 3) := by decide +kernel
theorem dX11_shutters_5 : decode cX11_shutters 5 = .ok (.ifCond .ne 5, 3) := by decide +kernel
theorem dX11_shutters_8 : decode cX11_shutters 8 = .ok (.iconst (-1), 1) := by decide +kernel
theorem dX11_shutters_9 : decode cX11_shutters 9 = .ok (.ireturn, 1) := by decide +kernel
theorem dX11_shutters_10 : decode cX11_shutters 10 = .ok (.aload_n 0, 1) := by decide +kernel
theorem dX11_shutters_11 : decode cX11_shutters 11 = .ok (.invokevirtual 166, 3) := by decide +kernel
theorem dX11_shutters_14 : decode cX11_shutters 14 = .ok (.aload_n 0, 1) := by decide +kernel
theorem dX11_shutters_15 : decode cX11_shutters 15 = .ok (.getfield 92, 3) := by decide +kernel
theorem dX11_shutters_18 : decode cX11_shutters 18 = .ok (.invokevirtual 309, 3) := by decide +kernel
theorem dX11_shutters_21 : decode cX11_shutters 21 = .ok (.iload_n 1, 1) := by decide +kernel
theorem dX11_shutters_22 : decode cX11_shutters 22 = .ok (.iconst 2, 1) := by decide +kernel
theorem dX11_shutters_23 : decode cX11_shutters 23 = .ok (.if_icmp .ne 11, 3) := by decide +kernel
theorem dX11_shutters_26 : decode cX11_shutters 26 = .ok (.aload_n 0, 1) := by decide +kernel
theorem dX11_shutters_27 : decode cX11_shutters 27 = .ok (.getfield 92, 3) := by decide +kernel
theorem dX11_shutters_30 : decode cX11_shutters 30 = .ok (.getfield 312, 3) := by decide +kernel
theorem dX11_shutters_33 : decode cX11_shutters 33 = .ok (.ireturn, 1) := by decide +kernel
theorem dX11_shutters_34 : decode cX11_shutters 34 = .ok (.aload_n 0, 1) := by decide +kernel
theorem dX11_shutters_35 : decode cX11_shutters 35 = .ok (.getfield 92, 3) := by decide +kernel
theorem dX11_shutters_38 : decode cX11_shutters 38 = .ok (.getfield 312, 3) := by decide +kernel
theorem dX11_shutters_41 : decode cX11_shutters 41 = .ok (.ifCond .ne 5, 3) := by decide +kernel
theorem dX11_shutters_44 : decode cX11_shutters 44 = .ok (.iconst (-1), 1) := by decide +kernel
theorem dX11_shutters_45 : decode cX11_shutters 45 = .ok (.ireturn, 1) := by decide +kernel
theorem dX11_shutters_46 : decode cX11_shutters 46 = .ok (.iload_n 1, 1) := by decide +kernel
theorem dX11_shutters_47 : decode cX11_shutters 47 = .ok (.ifCond .ne 16, 3) := by decide +kernel
theorem dX11_shutters_50 : decode cX11_shutters 50 = .ok (.aload_n 0, 1) := by decide +kernel
theorem dX11_shutters_51 : decode cX11_shutters 51 = .ok (.getfield 92, 3) := by decide +kernel
theorem dX11_shutters_54 : decode cX11_shutters 54 = .ok (.getfield 315, 3) := by decide +kernel
theorem dX11_shutters_57 : decode cX11_shutters 57 = .ok (.invokestatic 292, 3) := by decide +kernel
theorem dX11_shutters_60 : decode cX11_shutters 60 = .ok (.goto 10, 3) := by decide +kernel
theorem dX11_shutters_63 : decode cX11_shutters 63 = .ok (.aload_n 0, 1) := by decide +kernel
theorem dX11_shutters_64 : decode cX11_shutters 64 = .ok (.getfield 92, 3) := by decide +kernel
theorem dX11_shutters_67 : decode cX11_shutters 67 = .ok (.getfield 315, 3) := by decide +kernel
theorem dX11_shutters_70 : decode cX11_shutters 70 = .ok (.ireturn, 1) := by decide +kernel
set_option maxRecDepth 20000 in
theorem T_X11_shutters {Q : Option Value → ah_T → Prop} {h : ah_T} (hs : Sh h) (x1 : Int32) (ht : ((¬ (f_X11_isIn x1 3) = 0 → (Mt mX11_look [.ref 0] h (ab_qv fun h2 => Sh h2 ∧ (Mt mX4_findPeace [.ref 74] h2 (ab_qv fun h5 => Sh h5 ∧ ((¬ x1 = 2 → ((¬ (ah_i h5 74 4) = 0 → ((¬ x1 = 0 → Q (some (.int (ah_i h5 74 3))) h5) ∧ (x1 = 0 → Q (some (.int (f_J6_bitCount_0f7a4 (ah_i h5 74 3)))) h5))) ∧ ((ah_i h5 74 4) = 0 → Q (some (.int (-1))) h5))) ∧ (x1 = 2 → Q (some (.int (ah_i h5 74 4))) h5))))))) ∧ ((f_X11_isIn x1 3) = 0 → Q (some (.int (-1))) h))) : Mt mX11_shutters [.ref 0, .int x1] h Q := by
  refine Mt.ofWp rfl (by exact (Nat.le_of_ble_eq_true rfl)) (Wp.fewer (L' := [some (.ref 0), some (.int x1)]) (show ab_leL _ _ from ⟨rfl, ⟨rfl, trivial⟩⟩) ?_)
  refine ab_iload_n (i := 1) dX11_shutters_0 rfl rfl ?_
  refine ab_iconst (v := 3) dX11_shutters_1 (by decide) ?_
  refine ab_callS (Q' := fun r h' => r = some (.int (f_X11_isIn x1 3)) ∧ h = h') (As := [.int x1, .int 3]) (c_X11_isIn hs x1 3 ⟨rfl, rfl⟩) (Y_X11_isIn) l_X11_119 st_X11_isIn rfl ⟨(Nat.le_of_ble_eq_true rfl), (Nat.le_of_ble_eq_true rfl), (Nat.le_of_ble_eq_true rfl), (Nat.le_of_ble_eq_true rfl)⟩ dX11_shutters_2 ?_
  rintro _ _ ⟨rfl, rfl⟩
  refine ab_if_ne (tgt := 10) dX11_shutters_5 (by decide) (fun c1 => ?_) (fun c1 => ?_)
  · have ht := ht.1 c1
    refine ab_aload_n (i := 0) dX11_shutters_10 rfl rfl ?_
    refine ab_callV (b := 0) (As := []) ht (Y_X11_look) l_X11_166 in_X11_look se_X11_look (sh_k hs 0 11 (by decide) rfl) (by decide) rfl rfl ⟨(Nat.le_of_ble_eq_true rfl), (Nat.le_of_ble_eq_true rfl), (Nat.le_of_ble_eq_true rfl), (Nat.le_of_ble_eq_true rfl)⟩ dX11_shutters_11 ?_
    rintro _ h2 ⟨rfl, hs3, ht⟩
    refine ab_aload_n (i := 0) dX11_shutters_14 rfl rfl ?_
    refine ab_getR (b := 74) f_X11_92 rfl (sh_k hs3 0 11 (by decide) rfl) (sh_r hs3 12 rfl) dX11_shutters_15 ?_
    refine ab_callV (b := 74) (As := []) ht (Y_X4_findPeace) l_X11_309 in_X4_findPeace se_X4_findPeace (sh_k hs3 74 4 (by decide) rfl) (by decide) rfl rfl ⟨(Nat.le_of_ble_eq_true rfl), (Nat.le_of_ble_eq_true rfl), (Nat.le_of_ble_eq_true rfl), (Nat.le_of_ble_eq_true rfl)⟩ dX11_shutters_18 ?_
    rintro _ h5 ⟨rfl, hs6, ht⟩
    refine ab_iload_n (i := 1) dX11_shutters_21 rfl rfl ?_
    refine ab_iconst (v := 2) dX11_shutters_22 (by decide) ?_
    refine ab_icmp_ne (tgt := 34) dX11_shutters_23 (by decide) (fun c8 => ?_) (fun c8 => ?_)
    · have ht := ht.1 c8
      refine ab_aload_n (i := 0) dX11_shutters_34 rfl rfl ?_
      refine ab_getR (b := 74) f_X11_92 rfl (sh_k hs6 0 11 (by decide) rfl) (sh_r hs6 12 rfl) dX11_shutters_35 ?_
      refine ab_getI f_X11_312 rfl (sh_k hs6 74 4 (by decide) rfl) dX11_shutters_38 ?_
      refine ab_if_ne (tgt := 46) dX11_shutters_41 (by decide) (fun c9 => ?_) (fun c9 => ?_)
      · have ht := ht.1 c9
        refine ab_iload_n (i := 1) dX11_shutters_46 rfl rfl ?_
        refine ab_if_ne (tgt := 63) dX11_shutters_47 (by decide) (fun c10 => ?_) (fun c10 => ?_)
        · have ht := ht.1 c10
          refine ab_aload_n (i := 0) dX11_shutters_63 rfl rfl ?_
          refine ab_getR (b := 74) f_X11_92 rfl (sh_k hs6 0 11 (by decide) rfl) (sh_r hs6 12 rfl) dX11_shutters_64 ?_
          refine ab_getI f_X11_315 rfl (sh_k hs6 74 4 (by decide) rfl) dX11_shutters_67 ?_
          exact ab_iret rfl dX11_shutters_70 (Nat.le_of_ble_eq_true rfl) (Nat.le_of_ble_eq_true rfl) ht
        · have ht := ht.2 c10
          refine ab_aload_n (i := 0) dX11_shutters_50 rfl rfl ?_
          refine ab_getR (b := 74) f_X11_92 rfl (sh_k hs6 0 11 (by decide) rfl) (sh_r hs6 12 rfl) dX11_shutters_51 ?_
          refine ab_getI f_X11_315 rfl (sh_k hs6 74 4 (by decide) rfl) dX11_shutters_54 ?_
          refine ab_callS (Q' := fun r h' => r = some (.int (f_J6_bitCount_0f7a4 (ah_i h5 74 3))) ∧ h5 = h') (As := [.int (ah_i h5 74 3)]) (c_J6_bitCount_0f7a4 hs6 (ah_i h5 74 3) ⟨rfl, rfl⟩) (Y_J6_bitCount_0f7a4) l_X11_292 st_J6_bitCount_0f7a4 rfl ⟨(Nat.le_of_ble_eq_true rfl), (Nat.le_of_ble_eq_true rfl), (Nat.le_of_ble_eq_true rfl), (Nat.le_of_ble_eq_true rfl)⟩ dX11_shutters_57 ?_
          rintro _ _ ⟨rfl, rfl⟩
          refine ab_goto (tgt := 70) dX11_shutters_60 (by decide) ?_
          exact ab_iret rfl dX11_shutters_70 (Nat.le_of_ble_eq_true rfl) (Nat.le_of_ble_eq_true rfl) ht
      · have ht := ht.2 c9
        refine ab_iconst (v := (-1)) dX11_shutters_44 (by decide) ?_
        exact ab_iret rfl dX11_shutters_45 (Nat.le_of_ble_eq_true rfl) (Nat.le_of_ble_eq_true rfl) ht
    · have ht := ht.2 c8
      refine ab_aload_n (i := 0) dX11_shutters_26 rfl rfl ?_
      refine ab_getR (b := 74) f_X11_92 rfl (sh_k hs6 0 11 (by decide) rfl) (sh_r hs6 12 rfl) dX11_shutters_27 ?_
      refine ab_getI f_X11_312 rfl (sh_k hs6 74 4 (by decide) rfl) dX11_shutters_30 ?_
      exact ab_iret rfl dX11_shutters_33 (Nat.le_of_ble_eq_true rfl) (Nat.le_of_ble_eq_true rfl) ht
  · have ht := ht.2 c1
    refine ab_iconst (v := (-1)) dX11_shutters_8 (by decide) ?_
    exact ab_iret rfl dX11_shutters_9 (Nat.le_of_ble_eq_true rfl) (Nat.le_of_ble_eq_true rfl) ht
theorem dX11_would_0 : decode cX11_would 0 = .ok (.iload_n 1, 1) := by decide +kernel
theorem dX11_would_1 : decode cX11_would 1 = .ok (.iconst (-1), 1) := by decide +kernel
theorem dX11_would_2 : decode cX11_would 2 = .ok (.if_icmp .eq 17, 3) := by decide +kernel
theorem dX11_would_5 : decode cX11_would 5 = .ok (.aload_n 0, 1) := by decide +kernel
theorem dX11_would_6 : decode cX11_would 6 = .ok (.getfield 10, 3) := by decide +kernel
theorem dX11_would_9 : decode cX11_would 9 = .ok (.getfield 175, 3) := by decide +kernel
theorem dX11_would_12 : decode cX11_would 12 = .ok (.iload_n 1, 1) := by decide +kernel
theorem dX11_would_13 : decode cX11_would 13 = .ok (.invokevirtual 156, 3) := by decide +kernel
theorem dX11_would_16 : decode cX11_would 16 = .ok (.ifCond .eq 11, 3) := by decide +kernel
theorem dX11_would_19 : decode cX11_would 19 = .ok (.iload_n 2, 1) := by decide +kernel
theorem dX11_would_20 : decode cX11_would 20 = .ok (.iconst 2, 1) := by decide +kernel
theorem dX11_would_21 : decode cX11_would 21 = .ok (.invokestatic 119, 3) := by decide +kernel
theorem dX11_would_24 : decode cX11_would 24 = .ok (.ifCond .ne 5, 3) := by decide +kernel
theorem dX11_would_27 : decode cX11_would 27 = .ok (.iconst (-1), 1) := by decide +kernel
theorem dX11_would_28 : decode cX11_would 28 = .ok (.ireturn, 1) := by decide +kernel
theorem dX11_would_29 : decode cX11_would 29 = .ok (.aload_n 0, 1) := by decide +kernel
theorem dX11_would_30 : decode cX11_would 30 = .ok (.invokevirtual 166, 3) := by decide +kernel
theorem dX11_would_33 : decode cX11_would 33 = .ok (.iload_n 1, 1) := by decide +kernel
theorem dX11_would_34 : decode cX11_would 34 = .ok (.iconst (-1), 1) := by decide +kernel
theorem dX11_would_35 : decode cX11_would 35 = .ok (.if_icmp .ne 11, 3) := by decide +kernel
theorem dX11_would_38 : decode cX11_would 38 = .ok (.aload_n 0, 1) := by decide +kernel
theorem dX11_would_39 : decode cX11_would 39 = .ok (.getfield 85, 3) := by decide +kernel
theorem dX11_would_42 : decode cX11_would 42 = .ok (.invokevirtual 318, 3) := by decide +kernel
theorem dX11_would_45 : decode cX11_would 45 = .ok (.ireturn, 1) := by decide +kernel
theorem dX11_would_46 : decode cX11_would 46 = .ok (.aload_n 0, 1) := by decide +kernel
theorem dX11_would_47 : decode cX11_would 47 = .ok (.getfield 85, 3) := by decide +kernel
theorem dX11_would_50 : decode cX11_would 50 = .ok (.iload_n 1, 1) := by decide +kernel
theorem dX11_would_51 : decode cX11_would 51 = .ok (.invokevirtual 321, 3) := by decide +kernel
theorem dX11_would_54 : decode cX11_would 54 = .ok (.iload_n 2, 1) := by decide +kernel
theorem dX11_would_55 : decode cX11_would 55 = .ok (.ifCond .ne 15, 3) := by decide +kernel
theorem dX11_would_58 : decode cX11_would 58 = .ok (.aload_n 0, 1) := by decide +kernel
theorem dX11_would_59 : decode cX11_would 59 = .ok (.getfield 85, 3) := by decide +kernel
theorem dX11_would_62 : decode cX11_would 62 = .ok (.getfield 324, 3) := by decide +kernel
theorem dX11_would_65 : decode cX11_would 65 = .ok (.iload_n 1, 1) := by decide +kernel
theorem dX11_would_66 : decode cX11_would 66 = .ok (.iaload, 1) := by decide +kernel
theorem dX11_would_67 : decode cX11_would 67 = .ok (.goto 12, 3) := by decide +kernel
theorem dX11_would_70 : decode cX11_would 70 = .ok (.aload_n 0, 1) := by decide +kernel
theorem dX11_would_71 : decode cX11_would 71 = .ok (.getfield 85, 3) := by decide +kernel
theorem dX11_would_74 : decode cX11_would 74 = .ok (.getfield 327, 3) := by decide +kernel
theorem dX11_would_77 : decode cX11_would 77 = .ok (.iload_n 1, 1) := by decide +kernel
theorem dX11_would_78 : decode cX11_would 78 = .ok (.iaload, 1) := by decide +kernel
theorem dX11_would_79 : decode cX11_would 79 = .ok (.ireturn, 1) := by decide +kernel
set_option maxRecDepth 20000 in
theorem T_X11_would {Q : Option Value → ah_T → Prop} {h : ah_T} (hs : Sh h) (x1 : Int32) (x2 : Int32) (ht : ((x1 = (-1) → ((¬ (f_X11_isIn x2 2) = 0 → (Mt mX11_look [.ref 0] h (ab_qv fun h3 => Sh h3 ∧ ((¬ x1 = (-1) → (Mt mX1_findLiking [.ref 62, .int x1] h3 (ab_qv fun h7 => Sh h7 ∧ ((¬ x2 = 0 → (vp_in x1 (ah_n h7 68)) ∧ Q (some (.int (ah_i h7 68 (Int32.toNatClampNeg x1)))) h7) ∧ (x2 = 0 → (vp_in x1 (ah_n h7 67)) ∧ Q (some (.int (ah_i h7 67 (Int32.toNatClampNeg x1)))) h7))))) ∧ (x1 = (-1) → (Mt mX1_unrest [.ref 62] h3 (ab_qi fun v15 h13 => Sh h13 ∧ Q (some (.int v15)) h13))))))) ∧ ((f_X11_isIn x2 2) = 0 → Q (some (.int (-1))) h))) ∧ (¬ x1 = (-1) → (Mt mX7_has [.ref 4, .int x1] h (ab_qi fun v18 h16 => Sh h16 ∧ ((v18 = 0 → Q (some (.int (-1))) h16) ∧ (¬ v18 = 0 → ((¬ (f_X11_isIn x2 2) = 0 → (Mt mX11_look [.ref 0] h16 (ab_qv fun h21 => Sh h21 ∧ ((¬ x1 = (-1) → (Mt mX1_findLiking [.ref 62, .int x1] h21 (ab_qv fun h25 => Sh h25 ∧ ((¬ x2 = 0 → (vp_in x1 (ah_n h25 68)) ∧ Q (some (.int (ah_i h25 68 (Int32.toNatClampNeg x1)))) h25) ∧ (x2 = 0 → (vp_in x1 (ah_n h25 67)) ∧ Q (some (.int (ah_i h25 67 (Int32.toNatClampNeg x1)))) h25))))) ∧ (x1 = (-1) → (Mt mX1_unrest [.ref 62] h21 (ab_qi fun v33 h31 => Sh h31 ∧ Q (some (.int v33)) h31))))))) ∧ ((f_X11_isIn x2 2) = 0 → Q (some (.int (-1))) h16))))))))) : Mt mX11_would [.ref 0, .int x1, .int x2] h Q := by
  refine Mt.ofWp rfl (by exact (Nat.le_of_ble_eq_true rfl)) (Wp.fewer (L' := [some (.ref 0), some (.int x1), some (.int x2)]) (show ab_leL _ _ from ⟨rfl, ⟨rfl, ⟨rfl, trivial⟩⟩⟩) ?_)
  refine ab_iload_n (i := 1) dX11_would_0 rfl rfl ?_
  refine ab_iconst (v := (-1)) dX11_would_1 (by decide) ?_
  refine ab_icmp_eq (tgt := 19) dX11_would_2 (by decide) (fun c1 => ?_) (fun c1 => ?_)
  · have ht := ht.1 c1
    refine ab_iload_n (i := 2) dX11_would_19 rfl rfl ?_
    refine ab_iconst (v := 2) dX11_would_20 (by decide) ?_
    refine ab_callS (Q' := fun r h' => r = some (.int (f_X11_isIn x2 2)) ∧ h = h') (As := [.int x2, .int 2]) (c_X11_isIn hs x2 2 ⟨rfl, rfl⟩) (Y_X11_isIn) l_X11_119 st_X11_isIn rfl ⟨(Nat.le_of_ble_eq_true rfl), (Nat.le_of_ble_eq_true rfl), (Nat.le_of_ble_eq_true rfl), (Nat.le_of_ble_eq_true rfl)⟩ dX11_would_21 ?_
    rintro _ _ ⟨rfl, rfl⟩
    refine ab_if_ne (tgt := 29) dX11_would_24 (by decide) (fun c2 => ?_) (fun c2 => ?_)
    · have ht := ht.1 c2
      refine ab_aload_n (i := 0) dX11_would_29 rfl rfl ?_
      refine ab_callV (b := 0) (As := []) ht (Y_X11_look) l_X11_166 in_X11_look se_X11_look (sh_k hs 0 11 (by decide) rfl) (by decide) rfl rfl ⟨(Nat.le_of_ble_eq_true rfl), (Nat.le_of_ble_eq_true rfl), (Nat.le_of_ble_eq_true rfl), (Nat.le_of_ble_eq_true rfl)⟩ dX11_would_30 ?_
      rintro _ h3 ⟨rfl, hs4, ht⟩
      refine ab_iload_n (i := 1) dX11_would_33 rfl rfl ?_
      refine ab_iconst (v := (-1)) dX11_would_34 (by decide) ?_
      refine ab_icmp_ne (tgt := 46) dX11_would_35 (by decide) (fun c6 => ?_) (fun c6 => ?_)
      · have ht := ht.1 c6
        refine ab_aload_n (i := 0) dX11_would_46 rfl rfl ?_
        refine ab_getR (b := 62) f_X11_85 rfl (sh_k hs4 0 11 (by decide) rfl) (sh_r hs4 11 rfl) dX11_would_47 ?_
        refine ab_iload_n (i := 1) dX11_would_50 rfl rfl ?_
        refine ab_callV (b := 62) (As := [.int x1]) ht (Y_X1_findLiking) l_X11_321 in_X1_findLiking se_X1_findLiking (sh_k hs4 62 1 (by decide) rfl) (by decide) rfl rfl ⟨(Nat.le_of_ble_eq_true rfl), (Nat.le_of_ble_eq_true rfl), (Nat.le_of_ble_eq_true rfl), (Nat.le_of_ble_eq_true rfl)⟩ dX11_would_51 ?_
        rintro _ h7 ⟨rfl, hs8, ht⟩
        refine ab_iload_n (i := 2) dX11_would_54 rfl rfl ?_
        refine ab_if_ne (tgt := 70) dX11_would_55 (by decide) (fun c10 => ?_) (fun c10 => ?_)
        · have ht := ht.1 c10
          refine ab_aload_n (i := 0) dX11_would_70 rfl rfl ?_
          refine ab_getR (b := 62) f_X11_85 rfl (sh_k hs8 0 11 (by decide) rfl) (sh_r hs8 11 rfl) dX11_would_71 ?_
          refine ab_getR (b := 68) f_X11_327 rfl (sh_k hs8 62 1 (by decide) rfl) (sh_r hs8 77 rfl) dX11_would_74 ?_
          refine ab_iload_n (i := 1) dX11_would_77 rfl rfl ?_
          obtain ⟨hc11, ht⟩ := ht
          refine ab_iald (sh_k hs8 68 14 (by decide) rfl) hc11 dX11_would_78 ?_
          exact ab_iret rfl dX11_would_79 (Nat.le_of_ble_eq_true rfl) (Nat.le_of_ble_eq_true rfl) ht
        · have ht := ht.2 c10
          refine ab_aload_n (i := 0) dX11_would_58 rfl rfl ?_
          refine ab_getR (b := 62) f_X11_85 rfl (sh_k hs8 0 11 (by decide) rfl) (sh_r hs8 11 rfl) dX11_would_59 ?_
          refine ab_getR (b := 67) f_X11_324 rfl (sh_k hs8 62 1 (by decide) rfl) (sh_r hs8 76 rfl) dX11_would_62 ?_
          refine ab_iload_n (i := 1) dX11_would_65 rfl rfl ?_
          obtain ⟨hc12, ht⟩ := ht
          refine ab_iald (sh_k hs8 67 14 (by decide) rfl) hc12 dX11_would_66 ?_
          refine ab_goto (tgt := 79) dX11_would_67 (by decide) ?_
          exact ab_iret rfl dX11_would_79 (Nat.le_of_ble_eq_true rfl) (Nat.le_of_ble_eq_true rfl) ht
      · have ht := ht.2 c6
        refine ab_aload_n (i := 0) dX11_would_38 rfl rfl ?_
        refine ab_getR (b := 62) f_X11_85 rfl (sh_k hs4 0 11 (by decide) rfl) (sh_r hs4 11 rfl) dX11_would_39 ?_
        refine ab_callV (b := 62) (As := []) ht (Y_X1_unrest) l_X11_318 in_X1_unrest se_X1_unrest (sh_k hs4 62 1 (by decide) rfl) (by decide) rfl rfl ⟨(Nat.le_of_ble_eq_true rfl), (Nat.le_of_ble_eq_true rfl), (Nat.le_of_ble_eq_true rfl), (Nat.le_of_ble_eq_true rfl)⟩ dX11_would_42 ?_
        rintro _ h13 ⟨v15, rfl, hs14, ht⟩
        exact ab_iret rfl dX11_would_45 (Nat.le_of_ble_eq_true rfl) (Nat.le_of_ble_eq_true rfl) ht
    · have ht := ht.2 c2
      refine ab_iconst (v := (-1)) dX11_would_27 (by decide) ?_
      exact ab_iret rfl dX11_would_28 (Nat.le_of_ble_eq_true rfl) (Nat.le_of_ble_eq_true rfl) ht
  · have ht := ht.2 c1
    refine ab_aload_n (i := 0) dX11_would_5 rfl rfl ?_
    refine ab_getR (b := 1) f_X11_10 rfl (sh_k hs 0 11 (by decide) rfl) (sh_r hs 0 rfl) dX11_would_6 ?_
    refine ab_getR (b := 4) f_X11_175 rfl (sh_k hs 1 10 (by decide) rfl) (sh_r hs 14 rfl) dX11_would_9 ?_
    refine ab_iload_n (i := 1) dX11_would_12 rfl rfl ?_
    refine ab_callV (b := 4) (As := [.int x1]) ht (Y_X7_has) l_X11_156 in_X7_has se_X7_has (sh_k hs 4 7 (by decide) rfl) (by decide) rfl rfl ⟨(Nat.le_of_ble_eq_true rfl), (Nat.le_of_ble_eq_true rfl), (Nat.le_of_ble_eq_true rfl), (Nat.le_of_ble_eq_true rfl)⟩ dX11_would_13 ?_
    rintro _ h16 ⟨v18, rfl, hs17, ht⟩
    refine ab_if_eq (tgt := 27) dX11_would_16 (by decide) (fun c19 => ?_) (fun c19 => ?_)
    · have ht := ht.1 c19
      refine ab_iconst (v := (-1)) dX11_would_27 (by decide) ?_
      exact ab_iret rfl dX11_would_28 (Nat.le_of_ble_eq_true rfl) (Nat.le_of_ble_eq_true rfl) ht
    · have ht := ht.2 c19
      refine ab_iload_n (i := 2) dX11_would_19 rfl rfl ?_
      refine ab_iconst (v := 2) dX11_would_20 (by decide) ?_
      refine ab_callS (Q' := fun r h' => r = some (.int (f_X11_isIn x2 2)) ∧ h16 = h') (As := [.int x2, .int 2]) (c_X11_isIn hs17 x2 2 ⟨rfl, rfl⟩) (Y_X11_isIn) l_X11_119 st_X11_isIn rfl ⟨(Nat.le_of_ble_eq_true rfl), (Nat.le_of_ble_eq_true rfl), (Nat.le_of_ble_eq_true rfl), (Nat.le_of_ble_eq_true rfl)⟩ dX11_would_21 ?_
      rintro _ _ ⟨rfl, rfl⟩
      refine ab_if_ne (tgt := 29) dX11_would_24 (by decide) (fun c20 => ?_) (fun c20 => ?_)
      · have ht := ht.1 c20
        refine ab_aload_n (i := 0) dX11_would_29 rfl rfl ?_
        refine ab_callV (b := 0) (As := []) ht (Y_X11_look) l_X11_166 in_X11_look se_X11_look (sh_k hs17 0 11 (by decide) rfl) (by decide) rfl rfl ⟨(Nat.le_of_ble_eq_true rfl), (Nat.le_of_ble_eq_true rfl), (Nat.le_of_ble_eq_true rfl), (Nat.le_of_ble_eq_true rfl)⟩ dX11_would_30 ?_
        rintro _ h21 ⟨rfl, hs22, ht⟩
        refine ab_iload_n (i := 1) dX11_would_33 rfl rfl ?_
        refine ab_iconst (v := (-1)) dX11_would_34 (by decide) ?_
        refine ab_icmp_ne (tgt := 46) dX11_would_35 (by decide) (fun c24 => ?_) (fun c24 => ?_)
        · have ht := ht.1 c24
          refine ab_aload_n (i := 0) dX11_would_46 rfl rfl ?_
          refine ab_getR (b := 62) f_X11_85 rfl (sh_k hs22 0 11 (by decide) rfl) (sh_r hs22 11 rfl) dX11_would_47 ?_
          refine ab_iload_n (i := 1) dX11_would_50 rfl rfl ?_
          refine ab_callV (b := 62) (As := [.int x1]) ht (Y_X1_findLiking) l_X11_321 in_X1_findLiking se_X1_findLiking (sh_k hs22 62 1 (by decide) rfl) (by decide) rfl rfl ⟨(Nat.le_of_ble_eq_true rfl), (Nat.le_of_ble_eq_true rfl), (Nat.le_of_ble_eq_true rfl), (Nat.le_of_ble_eq_true rfl)⟩ dX11_would_51 ?_
          rintro _ h25 ⟨rfl, hs26, ht⟩
          refine ab_iload_n (i := 2) dX11_would_54 rfl rfl ?_
          refine ab_if_ne (tgt := 70) dX11_would_55 (by decide) (fun c28 => ?_) (fun c28 => ?_)
          · have ht := ht.1 c28
            refine ab_aload_n (i := 0) dX11_would_70 rfl rfl ?_
            refine ab_getR (b := 62) f_X11_85 rfl (sh_k hs26 0 11 (by decide) rfl) (sh_r hs26 11 rfl) dX11_would_71 ?_
            refine ab_getR (b := 68) f_X11_327 rfl (sh_k hs26 62 1 (by decide) rfl) (sh_r hs26 77 rfl) dX11_would_74 ?_
            refine ab_iload_n (i := 1) dX11_would_77 rfl rfl ?_
            obtain ⟨hc29, ht⟩ := ht
            refine ab_iald (sh_k hs26 68 14 (by decide) rfl) hc29 dX11_would_78 ?_
            exact ab_iret rfl dX11_would_79 (Nat.le_of_ble_eq_true rfl) (Nat.le_of_ble_eq_true rfl) ht
          · have ht := ht.2 c28
            refine ab_aload_n (i := 0) dX11_would_58 rfl rfl ?_
            refine ab_getR (b := 62) f_X11_85 rfl (sh_k hs26 0 11 (by decide) rfl) (sh_r hs26 11 rfl) dX11_would_59 ?_
            refine ab_getR (b := 67) f_X11_324 rfl (sh_k hs26 62 1 (by decide) rfl) (sh_r hs26 76 rfl) dX11_would_62 ?_
            refine ab_iload_n (i := 1) dX11_would_65 rfl rfl ?_
            obtain ⟨hc30, ht⟩ := ht
            refine ab_iald (sh_k hs26 67 14 (by decide) rfl) hc30 dX11_would_66 ?_
            refine ab_goto (tgt := 79) dX11_would_67 (by decide) ?_
            exact ab_iret rfl dX11_would_79 (Nat.le_of_ble_eq_true rfl) (Nat.le_of_ble_eq_true rfl) ht
        · have ht := ht.2 c24
          refine ab_aload_n (i := 0) dX11_would_38 rfl rfl ?_
          refine ab_getR (b := 62) f_X11_85 rfl (sh_k hs22 0 11 (by decide) rfl) (sh_r hs22 11 rfl) dX11_would_39 ?_
          refine ab_callV (b := 62) (As := []) ht (Y_X1_unrest) l_X11_318 in_X1_unrest se_X1_unrest (sh_k hs22 62 1 (by decide) rfl) (by decide) rfl rfl ⟨(Nat.le_of_ble_eq_true rfl), (Nat.le_of_ble_eq_true rfl), (Nat.le_of_ble_eq_true rfl), (Nat.le_of_ble_eq_true rfl)⟩ dX11_would_42 ?_
          rintro _ h31 ⟨v33, rfl, hs32, ht⟩
          exact ab_iret rfl dX11_would_45 (Nat.le_of_ble_eq_true rfl) (Nat.le_of_ble_eq_true rfl) ht
      · have ht := ht.2 c20
        refine ab_iconst (v := (-1)) dX11_would_27 (by decide) ?_
        exact ab_iret rfl dX11_would_28 (Nat.le_of_ble_eq_true rfl) (Nat.le_of_ble_eq_true rfl) ht
theorem dX11_soot_0 : decode cX11_soot 0 = .ok (.iload_n 2, 1) := by decide +kernel
theorem dX11_soot_1 : decode cX11_soot 1 = .ok (.bipush 120, 2) := by decide +kernel
theorem dX11_soot_3 : decode cX11_soot 3 = .ok (.invokestatic 119, 3) := by decide +kernel
theorem dX11_soot_6 : decode cX11_soot 6 = .ok (.ifCond .eq 11, 3) := by decide +kernel
theorem dX11_soot_9 : decode cX11_soot 9 = .ok (.iload_n 3, 1) := by decide +kernel
theorem dX11_soot_10 : decode cX11_soot 10 = .ok (.iconst 2, 1) := by decide +kernel
theorem dX11_soot_11 : decode cX11_soot 11 = .ok (.invokestatic 119, 3) := by decide +kernel
theorem dX11_soot_14 : decode cX11_soot 14 = .ok (.ifCond .ne 9, 3) := by decide +kernel
theorem dX11_soot_17 : decode cX11_soot 17 = .ok (.aload_n 0, 1) := by decide +kernel
theorem dX11_soot_18 : decode cX11_soot 18 = .ok (.iconst (-1), 1) := by decide +kernel
theorem dX11_soot_19 : decode cX11_soot 19 = .ok (.invokevirtual 123, 3) := by decide +kernel
theorem dX11_soot_22 : decode cX11_soot 22 = .ok (.ireturn, 1) := by decide +kernel
theorem dX11_soot_23 : decode cX11_soot 23 = .ok (.aload_n 0, 1) := by decide +kernel
theorem dX11_soot_24 : decode cX11_soot 24 = .ok (.getfield 10, 3) := by decide +kernel
theorem dX11_soot_27 : decode cX11_soot 27 = .ok (.getfield 175, 3) := by decide +kernel
theorem dX11_soot_30 : decode cX11_soot 30 = .ok (.iload_n 1, 1) := by decide +kernel
theorem dX11_soot_31 : decode cX11_soot 31 = .ok (.invokevirtual 156, 3) := by decide +kernel
theorem dX11_soot_34 : decode cX11_soot 34 = .ok (.ifCond .ne 10, 3) := by decide +kernel
theorem dX11_soot_37 : decode cX11_soot 37 = .ok (.aload_n 0, 1) := by decide +kernel
theorem dX11_soot_38 : decode cX11_soot 38 = .ok (.bipush (-2), 2) := by decide +kernel
theorem dX11_soot_40 : decode cX11_soot 40 = .ok (.invokevirtual 123, 3) := by decide +kernel
theorem dX11_soot_43 : decode cX11_soot 43 = .ok (.ireturn, 1) := by decide +kernel
theorem dX11_soot_44 : decode cX11_soot 44 = .ok (.aload_n 0, 1) := by decide +kernel
theorem dX11_soot_45 : decode cX11_soot 45 = .ok (.getfield 10, 3) := by decide +kernel
theorem dX11_soot_48 : decode cX11_soot 48 = .ok (.getfield 330, 3) := by decide +kernel
theorem dX11_soot_51 : decode cX11_soot 51 = .ok (.invokevirtual 134, 3) := by decide +kernel
theorem dX11_soot_54 : decode cX11_soot 54 = .ok (.ifCond .eq 10, 3) := by decide +kernel
theorem dX11_soot_57 : decode cX11_soot 57 = .ok (.aload_n 0, 1) := by decide +kernel
theorem dX11_soot_58 : decode cX11_soot 58 = .ok (.bipush (-5), 2) := by decide +kernel
theorem dX11_soot_60 : decode cX11_soot 60 = .ok (.invokevirtual 123, 3) := by decide +kernel
theorem dX11_soot_63 : decode cX11_soot 63 = .ok (.ireturn, 1) := by decide +kernel
theorem dX11_soot_64 : decode cX11_soot 64 = .ok (.aload_n 0, 1) := by decide +kernel
theorem dX11_soot_65 : decode cX11_soot 65 = .ok (.aload_n 0, 1) := by decide +kernel
theorem dX11_soot_66 : decode cX11_soot 66 = .ok (.getfield 10, 3) := by decide +kernel
theorem dX11_soot_69 : decode cX11_soot 69 = .ok (.getfield 330, 3) := by decide +kernel
theorem dX11_soot_72 : decode cX11_soot 72 = .ok (.iload_n 1, 1) := by decide +kernel
theorem dX11_soot_73 : decode cX11_soot 73 = .ok (.iload_n 2, 1) := by decide +kernel
theorem dX11_soot_74 : decode cX11_soot 74 = .ok (.iload_n 3, 1) := by decide +kernel
theorem dX11_soot_75 : decode cX11_soot 75 = .ok (.invokevirtual 149, 3) := by decide +kernel
theorem dX11_soot_78 : decode cX11_soot 78 = .ok (.iconst 1, 1) := by decide +kernel
theorem dX11_soot_79 : decode cX11_soot 79 = .ok (.iadd, 1) := by decide +kernel
theorem dX11_soot_80 : decode cX11_soot 80 = .ok (.invokevirtual 153, 3) := by decide +kernel
theorem dX11_soot_83 : decode cX11_soot 83 = .ok (.ireturn, 1) := by decide +kernel
set_option maxRecDepth 20000 in
theorem T_X11_soot {Q : Option Value → ah_T → Prop} {h : ah_T} (hs : Sh h) (x1 : Int32) (x2 : Int32) (x3 : Int32) (ht : (((f_X11_isIn x2 120) = 0 → (Mt mX11_refuse [.ref 0, .int (-1)] h (ab_qi fun v4 h2 => Sh h2 ∧ Q (some (.int v4)) h2))) ∧ (¬ (f_X11_isIn x2 120) = 0 → ((¬ (f_X11_isIn x3 2) = 0 → (Mt mX7_has [.ref 4, .int x1] h (ab_qi fun v8 h6 => Sh h6 ∧ ((¬ v8 = 0 → (Mt mX7_isFull [.ref 12] h6 (ab_qi fun v12 h10 => Sh h10 ∧ ((v12 = 0 → (Mt mX7_add [.ref 12, .int x1, .int x2, .int x3] h10 (ab_qi fun v16 h14 => Sh h14 ∧ (Mt mX11_change [.ref 0, .int (v16 + 1)] h14 (ab_qi fun v19 h17 => Sh h17 ∧ Q (some (.int v19)) h17))))) ∧ (¬ v12 = 0 → (Mt mX11_refuse [.ref 0, .int (-5)] h10 (ab_qi fun v22 h20 => Sh h20 ∧ Q (some (.int v22)) h20))))))) ∧ (v8 = 0 → (Mt mX11_refuse [.ref 0, .int (-2)] h6 (ab_qi fun v25 h23 => Sh h23 ∧ Q (some (.int v25)) h23))))))) ∧ ((f_X11_isIn x3 2) = 0 → (Mt mX11_refuse [.ref 0, .int (-1)] h (ab_qi fun v28 h26 => Sh h26 ∧ Q (some (.int v28)) h26))))))) : Mt mX11_soot [.ref 0, .int x1, .int x2, .int x3] h Q := by
  refine Mt.ofWp rfl (by exact (Nat.le_of_ble_eq_true rfl)) (Wp.fewer (L' := [some (.ref 0), some (.int x1), some (.int x2), some (.int x3)]) (show ab_leL _ _ from ⟨rfl, ⟨rfl, ⟨rfl, ⟨rfl, trivial⟩⟩⟩⟩) ?_)
  refine ab_iload_n (i := 2) dX11_soot_0 rfl rfl ?_
  refine ab_bipush (v := 120) dX11_soot_1 (by decide) ?_
  refine ab_callS (Q' := fun r h' => r = some (.int (f_X11_isIn x2 120)) ∧ h = h') (As := [.int x2, .int 120]) (c_X11_isIn hs x2 120 ⟨rfl, rfl⟩) (Y_X11_isIn) l_X11_119 st_X11_isIn rfl ⟨(Nat.le_of_ble_eq_true rfl), (Nat.le_of_ble_eq_true rfl), (Nat.le_of_ble_eq_true rfl), (Nat.le_of_ble_eq_true rfl)⟩ dX11_soot_3 ?_
  rintro _ _ ⟨rfl, rfl⟩
  refine ab_if_eq (tgt := 17) dX11_soot_6 (by decide) (fun c1 => ?_) (fun c1 => ?_)
  · have ht := ht.1 c1
    refine ab_aload_n (i := 0) dX11_soot_17 rfl rfl ?_
    refine ab_iconst (v := (-1)) dX11_soot_18 (by decide) ?_
    refine ab_callV (b := 0) (As := [.int (-1)]) ht (Y_X11_refuse) l_X11_123 in_X11_refuse se_X11_refuse (sh_k hs 0 11 (by decide) rfl) (by decide) rfl rfl ⟨(Nat.le_of_ble_eq_true rfl), (Nat.le_of_ble_eq_true rfl), (Nat.le_of_ble_eq_true rfl), (Nat.le_of_ble_eq_true rfl)⟩ dX11_soot_19 ?_
    rintro _ h2 ⟨v4, rfl, hs3, ht⟩
    exact ab_iret rfl dX11_soot_22 (Nat.le_of_ble_eq_true rfl) (Nat.le_of_ble_eq_true rfl) ht
  · have ht := ht.2 c1
    refine ab_iload_n (i := 3) dX11_soot_9 rfl rfl ?_
    refine ab_iconst (v := 2) dX11_soot_10 (by decide) ?_
    refine ab_callS (Q' := fun r h' => r = some (.int (f_X11_isIn x3 2)) ∧ h = h') (As := [.int x3, .int 2]) (c_X11_isIn hs x3 2 ⟨rfl, rfl⟩) (Y_X11_isIn) l_X11_119 st_X11_isIn rfl ⟨(Nat.le_of_ble_eq_true rfl), (Nat.le_of_ble_eq_true rfl), (Nat.le_of_ble_eq_true rfl), (Nat.le_of_ble_eq_true rfl)⟩ dX11_soot_11 ?_
    rintro _ _ ⟨rfl, rfl⟩
    refine ab_if_ne (tgt := 23) dX11_soot_14 (by decide) (fun c5 => ?_) (fun c5 => ?_)
    · have ht := ht.1 c5
      refine ab_aload_n (i := 0) dX11_soot_23 rfl rfl ?_
      refine ab_getR (b := 1) f_X11_10 rfl (sh_k hs 0 11 (by decide) rfl) (sh_r hs 0 rfl) dX11_soot_24 ?_
      refine ab_getR (b := 4) f_X11_175 rfl (sh_k hs 1 10 (by decide) rfl) (sh_r hs 14 rfl) dX11_soot_27 ?_
      refine ab_iload_n (i := 1) dX11_soot_30 rfl rfl ?_
      refine ab_callV (b := 4) (As := [.int x1]) ht (Y_X7_has) l_X11_156 in_X7_has se_X7_has (sh_k hs 4 7 (by decide) rfl) (by decide) rfl rfl ⟨(Nat.le_of_ble_eq_true rfl), (Nat.le_of_ble_eq_true rfl), (Nat.le_of_ble_eq_true rfl), (Nat.le_of_ble_eq_true rfl)⟩ dX11_soot_31 ?_
      rintro _ h6 ⟨v8, rfl, hs7, ht⟩
      refine ab_if_ne (tgt := 44) dX11_soot_34 (by decide) (fun c9 => ?_) (fun c9 => ?_)
      · have ht := ht.1 c9
        refine ab_aload_n (i := 0) dX11_soot_44 rfl rfl ?_
        refine ab_getR (b := 1) f_X11_10 rfl (sh_k hs7 0 11 (by decide) rfl) (sh_r hs7 0 rfl) dX11_soot_45 ?_
        refine ab_getR (b := 12) f_X11_330 rfl (sh_k hs7 1 10 (by decide) rfl) (sh_r hs7 18 rfl) dX11_soot_48 ?_
        refine ab_callV (b := 12) (As := []) ht (Y_X7_isFull) l_X11_134 in_X7_isFull se_X7_isFull (sh_k hs7 12 7 (by decide) rfl) (by decide) rfl rfl ⟨(Nat.le_of_ble_eq_true rfl), (Nat.le_of_ble_eq_true rfl), (Nat.le_of_ble_eq_true rfl), (Nat.le_of_ble_eq_true rfl)⟩ dX11_soot_51 ?_
        rintro _ h10 ⟨v12, rfl, hs11, ht⟩
        refine ab_if_eq (tgt := 64) dX11_soot_54 (by decide) (fun c13 => ?_) (fun c13 => ?_)
        · have ht := ht.1 c13
          refine ab_aload_n (i := 0) dX11_soot_64 rfl rfl ?_
          refine ab_aload_n (i := 0) dX11_soot_65 rfl rfl ?_
          refine ab_getR (b := 1) f_X11_10 rfl (sh_k hs11 0 11 (by decide) rfl) (sh_r hs11 0 rfl) dX11_soot_66 ?_
          refine ab_getR (b := 12) f_X11_330 rfl (sh_k hs11 1 10 (by decide) rfl) (sh_r hs11 18 rfl) dX11_soot_69 ?_
          refine ab_iload_n (i := 1) dX11_soot_72 rfl rfl ?_
          refine ab_iload_n (i := 2) dX11_soot_73 rfl rfl ?_
          refine ab_iload_n (i := 3) dX11_soot_74 rfl rfl ?_
          refine ab_callV (b := 12) (As := [.int x1, .int x2, .int x3]) ht (Y_X7_add) l_X11_149 in_X7_add se_X7_add (sh_k hs11 12 7 (by decide) rfl) (by decide) rfl rfl ⟨(Nat.le_of_ble_eq_true rfl), (Nat.le_of_ble_eq_true rfl), (Nat.le_of_ble_eq_true rfl), (Nat.le_of_ble_eq_true rfl)⟩ dX11_soot_75 ?_
          rintro _ h14 ⟨v16, rfl, hs15, ht⟩
          refine ab_iconst (v := 1) dX11_soot_78 (by decide) ?_
          refine ab_iadd dX11_soot_79 ?_
          refine ab_callV (b := 0) (As := [.int (v16 + 1)]) ht (Y_X11_change) l_X11_153 in_X11_change se_X11_change (sh_k hs15 0 11 (by decide) rfl) (by decide) rfl rfl ⟨(Nat.le_of_ble_eq_true rfl), (Nat.le_of_ble_eq_true rfl), (Nat.le_of_ble_eq_true rfl), (Nat.le_of_ble_eq_true rfl)⟩ dX11_soot_80 ?_
          rintro _ h17 ⟨v19, rfl, hs18, ht⟩
          exact ab_iret rfl dX11_soot_83 (Nat.le_of_ble_eq_true rfl) (Nat.le_of_ble_eq_true rfl) ht
        · have ht := ht.2 c13
          refine ab_aload_n (i := 0) dX11_soot_57 rfl rfl ?_
          refine ab_bipush (v := (-5)) dX11_soot_58 (by decide) ?_
          refine ab_callV (b := 0) (As := [.int (-5)]) ht (Y_X11_refuse) l_X11_123 in_X11_refuse se_X11_refuse (sh_k hs11 0 11 (by decide) rfl) (by decide) rfl rfl ⟨(Nat.le_of_ble_eq_true rfl), (Nat.le_of_ble_eq_true rfl), (Nat.le_of_ble_eq_true rfl), (Nat.le_of_ble_eq_true rfl)⟩ dX11_soot_60 ?_
          rintro _ h20 ⟨v22, rfl, hs21, ht⟩
          exact ab_iret rfl dX11_soot_63 (Nat.le_of_ble_eq_true rfl) (Nat.le_of_ble_eq_true rfl) ht
      · have ht := ht.2 c9
        refine ab_aload_n (i := 0) dX11_soot_37 rfl rfl ?_
        refine ab_bipush (v := (-2)) dX11_soot_38 (by decide) ?_
        refine ab_callV (b := 0) (As := [.int (-2)]) ht (Y_X11_refuse) l_X11_123 in_X11_refuse se_X11_refuse (sh_k hs7 0 11 (by decide) rfl) (by decide) rfl rfl ⟨(Nat.le_of_ble_eq_true rfl), (Nat.le_of_ble_eq_true rfl), (Nat.le_of_ble_eq_true rfl), (Nat.le_of_ble_eq_true rfl)⟩ dX11_soot_40 ?_
        rintro _ h23 ⟨v25, rfl, hs24, ht⟩
        exact ab_iret rfl dX11_soot_43 (Nat.le_of_ble_eq_true rfl) (Nat.le_of_ble_eq_true rfl) ht
    · have ht := ht.2 c5
      refine ab_aload_n (i := 0) dX11_soot_17 rfl rfl ?_
      refine ab_iconst (v := (-1)) dX11_soot_18 (by decide) ?_
      refine ab_callV (b := 0) (As := [.int (-1)]) ht (Y_X11_refuse) l_X11_123 in_X11_refuse se_X11_refuse (sh_k hs 0 11 (by decide) rfl) (by decide) rfl rfl ⟨(Nat.le_of_ble_eq_true rfl), (Nat.le_of_ble_eq_true rfl), (Nat.le_of_ble_eq_true rfl), (Nat.le_of_ble_eq_true rfl)⟩ dX11_soot_19 ?_
      rintro _ h26 ⟨v28, rfl, hs27, ht⟩
      exact ab_iret rfl dX11_soot_22 (Nat.le_of_ble_eq_true rfl) (Nat.le_of_ble_eq_true rfl) ht
theorem dX11_sweep_0 : decode cX11_sweep 0 = .ok (.aload_n 0, 1) := by decide +kernel
theorem dX11_sweep_1 : decode cX11_sweep 1 = .ok (.getfield 10, 3) := by decide +kernel
theorem dX11_sweep_4 : decode cX11_sweep 4 = .ok (.getfield 330, 3) := by decide +kernel
theorem dX11_sweep_7 : decode cX11_sweep 7 = .ok (.getfield 187, 3) := by decide +kernel
theorem dX11_sweep_10 : decode cX11_sweep 10 = .ok (.istore_n 1, 1) := by decide +kernel
theorem dX11_sweep_11 : decode cX11_sweep 11 = .ok (.aload_n 0, 1) := by decide +kernel
theorem dX11_sweep_12 : decode cX11_sweep 12 = .ok (.getfield 10, 3) := by decide +kernel
theorem dX11_sweep_15 : decode cX11_sweep 15 = .ok (.getfield 330, 3) := by decide +kernel
theorem dX11_sweep_18 : decode cX11_sweep 18 = .ok (.iconst 0, 1) := by decide +kernel
theorem dX11_sweep_19 : decode cX11_sweep 19 = .ok (.putfield 187, 3) := by decide +kernel
theorem dX11_sweep_22 : decode cX11_sweep 22 = .ok (.aload_n 0, 1) := by decide +kernel
theorem dX11_sweep_23 : decode cX11_sweep 23 = .ok (.iconst 1, 1) := by decide +kernel
theorem dX11_sweep_24 : decode cX11_sweep 24 = .ok (.putfield 116, 3) := by decide +kernel
theorem dX11_sweep_27 : decode cX11_sweep 27 = .ok (.iload_n 1, 1) := by decide +kernel
theorem dX11_sweep_28 : decode cX11_sweep 28 = .ok (.ireturn, 1) := by decide +kernel
set_option maxRecDepth 20000 in
theorem T_X11_sweep {Q : Option Value → ah_T → Prop} {h : ah_T} (hs : Sh h)  (ht : (∀ h1, h1 = ah_si h 12 3 0 → (∀ h4, h4 = ah_si h1 0 19 1 → Q (some (.int (ah_i h 12 3))) h4))) : Mt mX11_sweep [.ref 0] h Q := by
  refine Mt.ofWp rfl (by exact (Nat.le_of_ble_eq_true rfl)) (Wp.fewer (L' := [some (.ref 0), none]) (show ab_leL _ _ from ⟨rfl, trivial⟩) ?_)
  refine ab_aload_n (i := 0) dX11_sweep_0 rfl rfl ?_
  refine ab_getR (b := 1) f_X11_10 rfl (sh_k hs 0 11 (by decide) rfl) (sh_r hs 0 rfl) dX11_sweep_1 ?_
  refine ab_getR (b := 12) f_X11_330 rfl (sh_k hs 1 10 (by decide) rfl) (sh_r hs 18 rfl) dX11_sweep_4 ?_
  refine ab_getI f_X11_187 rfl (sh_k hs 12 7 (by decide) rfl) dX11_sweep_7 ?_
  refine ab_istore_n (i := 1) (L' := [some (.ref 0), some (.int (ah_i h 12 3))]) dX11_sweep_10 rfl (by exact (Nat.le_of_ble_eq_true rfl)) rfl rfl ?_
  refine ab_aload_n (i := 0) dX11_sweep_11 rfl rfl ?_
  refine ab_getR (b := 1) f_X11_10 rfl (sh_k hs 0 11 (by decide) rfl) (sh_r hs 0 rfl) dX11_sweep_12 ?_
  refine ab_getR (b := 12) f_X11_330 rfl (sh_k hs 1 10 (by decide) rfl) (sh_r hs 18 rfl) dX11_sweep_15 ?_
  refine ab_iconst (v := 0) dX11_sweep_18 (by decide) ?_
  refine ab_putI f_X11_187 (Or.inl rfl) rfl (sh_k hs 12 7 (by decide) rfl) rfl rfl dX11_sweep_19 ?_
  refine Wp.nm fun h1 e2 => ?_
  have ht := ht h1 e2
  have hs3 : Sh h1 := by rw [e2]; exact sh_si hs
  refine ab_aload_n (i := 0) dX11_sweep_22 rfl rfl ?_
  refine ab_iconst (v := 1) dX11_sweep_23 (by decide) ?_
  refine ab_putI f_X11_116 (Or.inl rfl) rfl (sh_k hs3 0 11 (by decide) rfl) rfl rfl dX11_sweep_24 ?_
  refine Wp.nm fun h4 e5 => ?_
  have ht := ht h4 e5
  have hs6 : Sh h4 := by rw [e5]; exact sh_si hs3
  refine ab_iload_n (i := 1) dX11_sweep_27 rfl rfl ?_
  exact ab_iret rfl dX11_sweep_28 (Nat.le_of_ble_eq_true rfl) (Nat.le_of_ble_eq_true rfl) ht
theorem dX11_stranger_0 : decode cX11_stranger 0 = .ok (.aload_n 0, 1) := by decide +kernel
theorem dX11_stranger_1 : decode cX11_stranger 1 = .ok (.getfield 10, 3) := by decide +kernel
theorem dX11_stranger_4 : decode cX11_stranger 4 = .ok (.getfield 175, 3) := by decide +kernel
theorem dX11_stranger_7 : decode cX11_stranger 7 = .ok (.invokevirtual 134, 3) := by decide +kernel
theorem dX11_stranger_10 : decode cX11_stranger 10 = .ok (.ifCond .ne 8, 3) := by decide +kernel
theorem dX11_stranger_13 : decode cX11_stranger 13 = .ok (.iload_n 1, 1) := by decide +kernel
theorem dX11_stranger_14 : decode cX11_stranger 14 = .ok (.iconst (-1), 1) := by decide +kernel
theorem dX11_stranger_15 : decode cX11_stranger 15 = .ok (.if_icmp .ge 5, 3) := by decide +kernel
theorem dX11_stranger_18 : decode cX11_stranger 18 = .ok (.iconst (-1), 1) := by decide +kernel
theorem dX11_stranger_19 : decode cX11_stranger 19 = .ok (.ireturn, 1) := by decide +kernel
theorem dX11_stranger_20 : decode cX11_stranger 20 = .ok (.aload_n 0, 1) := by decide +kernel
theorem dX11_stranger_21 : decode cX11_stranger 21 = .ok (.invokevirtual 166, 3) := by decide +kernel
theorem dX11_stranger_24 : decode cX11_stranger 24 = .ok (.aload_n 0, 1) := by decide +kernel
theorem dX11_stranger_25 : decode cX11_stranger 25 = .ok (.getfield 85, 3) := by decide +kernel
theorem dX11_stranger_28 : decode cX11_stranger 28 = .ok (.invokevirtual 333, 3) := by decide +kernel
theorem dX11_stranger_31 : decode cX11_stranger 31 = .ok (.aload_n 0, 1) := by decide +kernel
theorem dX11_stranger_32 : decode cX11_stranger 32 = .ok (.getfield 85, 3) := by decide +kernel
theorem dX11_stranger_35 : decode cX11_stranger 35 = .ok (.getfield 336, 3) := by decide +kernel
theorem dX11_stranger_38 : decode cX11_stranger 38 = .ok (.iload_n 1, 1) := by decide +kernel
theorem dX11_stranger_39 : decode cX11_stranger 39 = .ok (.invokevirtual 339, 3) := by decide +kernel
theorem dX11_stranger_42 : decode cX11_stranger 42 = .ok (.ireturn, 1) := by decide +kernel
set_option maxRecDepth 20000 in
theorem T_X11_stranger {Q : Option Value → ah_T → Prop} {h : ah_T} (hs : Sh h) (x1 : Int32) (ht : (Mt mX7_isFull [.ref 4] h (ab_qi fun v3 h1 => Sh h1 ∧ ((¬ v3 = 0 → Q (some (.int (-1))) h1) ∧ (v3 = 0 → (((-1) ≤ x1 → (Mt mX11_look [.ref 0] h1 (ab_qv fun h6 => Sh h6 ∧ (Mt mX1_findStrangers [.ref 62] h6 (ab_qv fun h9 => Sh h9 ∧ (Mt mX7_pick [.ref 63, .int x1] h9 (ab_qi fun v14 h12 => Sh h12 ∧ Q (some (.int v14)) h12))))))) ∧ (¬ (-1) ≤ x1 → Q (some (.int (-1))) h1))))))) : Mt mX11_stranger [.ref 0, .int x1] h Q := by
  refine Mt.ofWp rfl (by exact (Nat.le_of_ble_eq_true rfl)) (Wp.fewer (L' := [some (.ref 0), some (.int x1)]) (show ab_leL _ _ from ⟨rfl, ⟨rfl, trivial⟩⟩) ?_)
  refine ab_aload_n (i := 0) dX11_stranger_0 rfl rfl ?_
  refine ab_getR (b := 1) f_X11_10 rfl (sh_k hs 0 11 (by decide) rfl) (sh_r hs 0 rfl) dX11_stranger_1 ?_
  refine ab_getR (b := 4) f_X11_175 rfl (sh_k hs 1 10 (by decide) rfl) (sh_r hs 14 rfl) dX11_stranger_4 ?_
  refine ab_callV (b := 4) (As := []) ht (Y_X7_isFull) l_X11_134 in_X7_isFull se_X7_isFull (sh_k hs 4 7 (by decide) rfl) (by decide) rfl rfl ⟨(Nat.le_of_ble_eq_true rfl), (Nat.le_of_ble_eq_true rfl), (Nat.le_of_ble_eq_true rfl), (Nat.le_of_ble_eq_true rfl)⟩ dX11_stranger_7 ?_
  rintro _ h1 ⟨v3, rfl, hs2, ht⟩
  refine ab_if_ne (tgt := 18) dX11_stranger_10 (by decide) (fun c4 => ?_) (fun c4 => ?_)
  · have ht := ht.1 c4
    refine ab_iconst (v := (-1)) dX11_stranger_18 (by decide) ?_
    exact ab_iret rfl dX11_stranger_19 (Nat.le_of_ble_eq_true rfl) (Nat.le_of_ble_eq_true rfl) ht
  · have ht := ht.2 c4
    refine ab_iload_n (i := 1) dX11_stranger_13 rfl rfl ?_
    refine ab_iconst (v := (-1)) dX11_stranger_14 (by decide) ?_
    refine ab_icmp_ge (tgt := 20) dX11_stranger_15 (by decide) (fun c5 => ?_) (fun c5 => ?_)
    · have ht := ht.1 c5
      refine ab_aload_n (i := 0) dX11_stranger_20 rfl rfl ?_
      refine ab_callV (b := 0) (As := []) ht (Y_X11_look) l_X11_166 in_X11_look se_X11_look (sh_k hs2 0 11 (by decide) rfl) (by decide) rfl rfl ⟨(Nat.le_of_ble_eq_true rfl), (Nat.le_of_ble_eq_true rfl), (Nat.le_of_ble_eq_true rfl), (Nat.le_of_ble_eq_true rfl)⟩ dX11_stranger_21 ?_
      rintro _ h6 ⟨rfl, hs7, ht⟩
      refine ab_aload_n (i := 0) dX11_stranger_24 rfl rfl ?_
      refine ab_getR (b := 62) f_X11_85 rfl (sh_k hs7 0 11 (by decide) rfl) (sh_r hs7 11 rfl) dX11_stranger_25 ?_
      refine ab_callV (b := 62) (As := []) ht (Y_X1_findStrangers) l_X11_333 in_X1_findStrangers se_X1_findStrangers (sh_k hs7 62 1 (by decide) rfl) (by decide) rfl rfl ⟨(Nat.le_of_ble_eq_true rfl), (Nat.le_of_ble_eq_true rfl), (Nat.le_of_ble_eq_true rfl), (Nat.le_of_ble_eq_true rfl)⟩ dX11_stranger_28 ?_
      rintro _ h9 ⟨rfl, hs10, ht⟩
      refine ab_aload_n (i := 0) dX11_stranger_31 rfl rfl ?_
      refine ab_getR (b := 62) f_X11_85 rfl (sh_k hs10 0 11 (by decide) rfl) (sh_r hs10 11 rfl) dX11_stranger_32 ?_
      refine ab_getR (b := 63) f_X11_336 rfl (sh_k hs10 62 1 (by decide) rfl) (sh_r hs10 74 rfl) dX11_stranger_35 ?_
      refine ab_iload_n (i := 1) dX11_stranger_38 rfl rfl ?_
      refine ab_callV (b := 63) (As := [.int x1]) ht (Y_X7_pick) l_X11_339 in_X7_pick se_X7_pick (sh_k hs10 63 7 (by decide) rfl) (by decide) rfl rfl ⟨(Nat.le_of_ble_eq_true rfl), (Nat.le_of_ble_eq_true rfl), (Nat.le_of_ble_eq_true rfl), (Nat.le_of_ble_eq_true rfl)⟩ dX11_stranger_39 ?_
      rintro _ h12 ⟨v14, rfl, hs13, ht⟩
      exact ab_iret rfl dX11_stranger_42 (Nat.le_of_ble_eq_true rfl) (Nat.le_of_ble_eq_true rfl) ht
    · have ht := ht.2 c5
      refine ab_iconst (v := (-1)) dX11_stranger_18 (by decide) ?_
      exact ab_iret rfl dX11_stranger_19 (Nat.le_of_ble_eq_true rfl) (Nat.le_of_ble_eq_true rfl) ht
theorem dX11_changed_0 : decode cX11_changed 0 = .ok (.iload_n 1, 1) := by decide +kernel
theorem dX11_changed_1 : decode cX11_changed 1 = .ok (.iconst (-1), 1) := by decide +kernel
theorem dX11_changed_2 : decode cX11_changed 2 = .ok (.if_icmp .ge 5, 3) := by decide +kernel
theorem dX11_changed_5 : decode cX11_changed 5 = .ok (.iconst (-1), 1) := by decide +kernel
theorem dX11_changed_6 : decode cX11_changed 6 = .ok (.ireturn, 1) := by decide +kernel
theorem dX11_changed_7 : decode cX11_changed 7 = .ok (.aload_n 0, 1) := by decide +kernel
theorem dX11_changed_8 : decode cX11_changed 8 = .ok (.invokevirtual 166, 3) := by decide +kernel
theorem dX11_changed_11 : decode cX11_changed 11 = .ok (.aload_n 0, 1) := by decide +kernel
theorem dX11_changed_12 : decode cX11_changed 12 = .ok (.getfield 85, 3) := by decide +kernel
theorem dX11_changed_15 : decode cX11_changed 15 = .ok (.invokevirtual 342, 3) := by decide +kernel
theorem dX11_changed_18 : decode cX11_changed 18 = .ok (.aload_n 0, 1) := by decide +kernel
theorem dX11_changed_19 : decode cX11_changed 19 = .ok (.getfield 85, 3) := by decide +kernel
theorem dX11_changed_22 : decode cX11_changed 22 = .ok (.getfield 345, 3) := by decide +kernel
theorem dX11_changed_25 : decode cX11_changed 25 = .ok (.iload_n 1, 1) := by decide +kernel
theorem dX11_changed_26 : decode cX11_changed 26 = .ok (.invokevirtual 339, 3) := by decide +kernel
theorem dX11_changed_29 : decode cX11_changed 29 = .ok (.ireturn, 1) := by decide +kernel
set_option maxRecDepth 20000 in
theorem T_X11_changed {Q : Option Value → ah_T → Prop} {h : ah_T} (hs : Sh h) (x1 : Int32) (ht : (((-1) ≤ x1 → (Mt mX11_look [.ref 0] h (ab_qv fun h2 => Sh h2 ∧ (Mt mX1_findChanges [.ref 62] h2 (ab_qv fun h5 => Sh h5 ∧ (Mt mX7_pick [.ref 65, .int x1] h5 (ab_qi fun v10 h8 => Sh h8 ∧ Q (some (.int v10)) h8))))))) ∧ (¬ (-1) ≤ x1 → Q (some (.int (-1))) h))) : Mt mX11_changed [.ref 0, .int x1] h Q := by
  refine Mt.ofWp rfl (by exact (Nat.le_of_ble_eq_true rfl)) (Wp.fewer (L' := [some (.ref 0), some (.int x1)]) (show ab_leL _ _ from ⟨rfl, ⟨rfl, trivial⟩⟩) ?_)
  refine ab_iload_n (i := 1) dX11_changed_0 rfl rfl ?_
  refine ab_iconst (v := (-1)) dX11_changed_1 (by decide) ?_
  refine ab_icmp_ge (tgt := 7) dX11_changed_2 (by decide) (fun c1 => ?_) (fun c1 => ?_)
  · have ht := ht.1 c1
    refine ab_aload_n (i := 0) dX11_changed_7 rfl rfl ?_
    refine ab_callV (b := 0) (As := []) ht (Y_X11_look) l_X11_166 in_X11_look se_X11_look (sh_k hs 0 11 (by decide) rfl) (by decide) rfl rfl ⟨(Nat.le_of_ble_eq_true rfl), (Nat.le_of_ble_eq_true rfl), (Nat.le_of_ble_eq_true rfl), (Nat.le_of_ble_eq_true rfl)⟩ dX11_changed_8 ?_
    rintro _ h2 ⟨rfl, hs3, ht⟩
    refine ab_aload_n (i := 0) dX11_changed_11 rfl rfl ?_
    refine ab_getR (b := 62) f_X11_85 rfl (sh_k hs3 0 11 (by decide) rfl) (sh_r hs3 11 rfl) dX11_changed_12 ?_
    refine ab_callV (b := 62) (As := []) ht (Y_X1_findChanges) l_X11_342 in_X1_findChanges se_X1_findChanges (sh_k hs3 62 1 (by decide) rfl) (by decide) rfl rfl ⟨(Nat.le_of_ble_eq_true rfl), (Nat.le_of_ble_eq_true rfl), (Nat.le_of_ble_eq_true rfl), (Nat.le_of_ble_eq_true rfl)⟩ dX11_changed_15 ?_
    rintro _ h5 ⟨rfl, hs6, ht⟩
    refine ab_aload_n (i := 0) dX11_changed_18 rfl rfl ?_
    refine ab_getR (b := 62) f_X11_85 rfl (sh_k hs6 0 11 (by decide) rfl) (sh_r hs6 11 rfl) dX11_changed_19 ?_
    refine ab_getR (b := 65) f_X11_345 rfl (sh_k hs6 62 1 (by decide) rfl) (sh_r hs6 75 rfl) dX11_changed_22 ?_
    refine ab_iload_n (i := 1) dX11_changed_25 rfl rfl ?_
    refine ab_callV (b := 65) (As := [.int x1]) ht (Y_X7_pick) l_X11_339 in_X7_pick se_X7_pick (sh_k hs6 65 7 (by decide) rfl) (by decide) rfl rfl ⟨(Nat.le_of_ble_eq_true rfl), (Nat.le_of_ble_eq_true rfl), (Nat.le_of_ble_eq_true rfl), (Nat.le_of_ble_eq_true rfl)⟩ dX11_changed_26 ?_
    rintro _ h8 ⟨v10, rfl, hs9, ht⟩
    exact ab_iret rfl dX11_changed_29 (Nat.le_of_ble_eq_true rfl) (Nat.le_of_ble_eq_true rfl) ht
  · have ht := ht.2 c1
    refine ab_iconst (v := (-1)) dX11_changed_5 (by decide) ?_
    exact ab_iret rfl dX11_changed_6 (Nat.le_of_ble_eq_true rfl) (Nat.le_of_ble_eq_true rfl) ht
theorem dX11_drunk_0 : decode cX11_drunk 0 = .ok (.iload_n 1, 1) := by decide +kernel
theorem dX11_drunk_1 : decode cX11_drunk 1 = .ok (.ldc_w 348, 3) := by decide +kernel
theorem dX11_drunk_4 : decode cX11_drunk 4 = .ok (.invokestatic 119, 3) := by decide +kernel
theorem dX11_drunk_7 : decode cX11_drunk 7 = .ok (.ifCond .eq 34, 3) := by decide +kernel
theorem dX11_drunk_10 : decode cX11_drunk 10 = .ok (.iload_n 2, 1) := by decide +kernel
theorem dX11_drunk_11 : decode cX11_drunk 11 = .ok (.bipush 6, 2) := by decide +kernel
theorem dX11_drunk_13 : decode cX11_drunk 13 = .ok (.invokestatic 119, 3) := by decide +kernel
theorem dX11_drunk_16 : decode cX11_drunk 16 = .ok (.ifCond .eq 25, 3) := by decide +kernel
theorem dX11_drunk_19 : decode cX11_drunk 19 = .ok (.iload_n 3, 1) := by decide +kernel
theorem dX11_drunk_20 : decode cX11_drunk 20 = .ok (.bipush 12, 2) := by decide +kernel
theorem dX11_drunk_22 : decode cX11_drunk 22 = .ok (.invokestatic 119, 3) := by decide +kernel
theorem dX11_drunk_25 : decode cX11_drunk 25 = .ok (.ifCond .eq 16, 3) := by decide +kernel
theorem dX11_drunk_28 : decode cX11_drunk 28 = .ok (.iload 4, 2) := by decide +kernel
theorem dX11_drunk_30 : decode cX11_drunk 30 = .ok (.iconst 1, 1) := by decide +kernel
theorem dX11_drunk_31 : decode cX11_drunk 31 = .ok (.if_icmp .lt 10, 3) := by decide +kernel
theorem dX11_drunk_34 : decode cX11_drunk 34 = .ok (.iload 4, 2) := by decide +kernel
theorem dX11_drunk_36 : decode cX11_drunk 36 = .ok (.bipush 60, 2) := by decide +kernel
theorem dX11_drunk_38 : decode cX11_drunk 38 = .ok (.if_icmp .le 9, 3) := by decide +kernel
theorem dX11_drunk_41 : decode cX11_drunk 41 = .ok (.aload_n 0, 1) := by decide +kernel
theorem dX11_drunk_42 : decode cX11_drunk 42 = .ok (.iconst (-1), 1) := by decide +kernel
theorem dX11_drunk_43 : decode cX11_drunk 43 = .ok (.invokevirtual 123, 3) := by decide +kernel
theorem dX11_drunk_46 : decode cX11_drunk 46 = .ok (.ireturn, 1) := by decide +kernel
theorem dX11_drunk_47 : decode cX11_drunk 47 = .ok (.aload_n 0, 1) := by decide +kernel
theorem dX11_drunk_48 : decode cX11_drunk 48 = .ok (.invokevirtual 166, 3) := by decide +kernel
theorem dX11_drunk_51 : decode cX11_drunk 51 = .ok (.aload_n 0, 1) := by decide +kernel
theorem dX11_drunk_52 : decode cX11_drunk 52 = .ok (.getfield 49, 3) := by decide +kernel
theorem dX11_drunk_55 : decode cX11_drunk 55 = .ok (.iload_n 1, 1) := by decide +kernel
theorem dX11_drunk_56 : decode cX11_drunk 56 = .ok (.iload_n 3, 1) := by decide +kernel
theorem dX11_drunk_57 : decode cX11_drunk 57 = .ok (.iload 4, 2) := by decide +kernel
theorem dX11_drunk_59 : decode cX11_drunk 59 = .ok (.aload_n 0, 1) := by decide +kernel
theorem dX11_drunk_60 : decode cX11_drunk 60 = .ok (.getfield 27, 3) := by decide +kernel
theorem dX11_drunk_63 : decode cX11_drunk 63 = .ok (.invokevirtual 349, 3) := by decide +kernel
theorem dX11_drunk_66 : decode cX11_drunk 66 = .ok (.aload_n 0, 1) := by decide +kernel
theorem dX11_drunk_67 : decode cX11_drunk 67 = .ok (.aload_n 0, 1) := by decide +kernel
theorem dX11_drunk_68 : decode cX11_drunk 68 = .ok (.getfield 85, 3) := by decide +kernel
theorem dX11_drunk_71 : decode cX11_drunk 71 = .ok (.iload_n 2, 1) := by decide +kernel
theorem dX11_drunk_72 : decode cX11_drunk 72 = .ok (.aload_n 0, 1) := by decide +kernel
theorem dX11_drunk_73 : decode cX11_drunk 73 = .ok (.getfield 27, 3) := by decide +kernel
theorem dX11_drunk_76 : decode cX11_drunk 76 = .ok (.invokevirtual 353, 3) := by decide +kernel
theorem dX11_drunk_79 : decode cX11_drunk 79 = .ok (.invokevirtual 357, 3) := by decide +kernel
theorem dX11_drunk_82 : decode cX11_drunk 82 = .ok (.ireturn, 1) := by decide +kernel
set_option maxRecDepth 20000 in
theorem T_X11_drunk {Q : Option Value → ah_T → Prop} {h : ah_T} (hs : Sh h) (x1 : Int32) (x2 : Int32) (x3 : Int32) (x4 : Int32) (ht : (((f_X11_isIn x1 1000001) = 0 → (Mt mX11_refuse [.ref 0, .int (-1)] h (ab_qi fun v4 h2 => Sh h2 ∧ Q (some (.int v4)) h2))) ∧ (¬ (f_X11_isIn x1 1000001) = 0 → (((f_X11_isIn x2 6) = 0 → (Mt mX11_refuse [.ref 0, .int (-1)] h (ab_qi fun v8 h6 => Sh h6 ∧ Q (some (.int v8)) h6))) ∧ (¬ (f_X11_isIn x2 6) = 0 → (((f_X11_isIn x3 12) = 0 → (Mt mX11_refuse [.ref 0, .int (-1)] h (ab_qi fun v12 h10 => Sh h10 ∧ Q (some (.int v12)) h10))) ∧ (¬ (f_X11_isIn x3 12) = 0 → ((x4 < 1 → (Mt mX11_refuse [.ref 0, .int (-1)] h (ab_qi fun v16 h14 => Sh h14 ∧ Q (some (.int v16)) h14))) ∧ (¬ x4 < 1 → ((x4 ≤ 60 → (Mt mX11_look [.ref 0] h (ab_qv fun h18 => Sh h18 ∧ (Mt mX6_stagger [.ref 29, .int x1, .int x3, .int x4, .ref 19] h18 (ab_qv fun h21 => Sh h21 ∧ (Mt mX1_litWith [.ref 62, .int x2, .ref 19] h21 (ab_qi fun v26 h24 => Sh h24 ∧ (Mt mX11_grant [.ref 0, .int v26] h24 (ab_qi fun v29 h27 => Sh h27 ∧ Q (some (.int v29)) h27))))))))) ∧ (¬ x4 ≤ 60 → (Mt mX11_refuse [.ref 0, .int (-1)] h (ab_qi fun v32 h30 => Sh h30 ∧ Q (some (.int v32)) h30))))))))))))) : Mt mX11_drunk [.ref 0, .int x1, .int x2, .int x3, .int x4] h Q := by
  refine Mt.ofWp rfl (by exact (Nat.le_of_ble_eq_true rfl)) (Wp.fewer (L' := [some (.ref 0), some (.int x1), some (.int x2), some (.int x3), some (.int x4)]) (show ab_leL _ _ from ⟨rfl, ⟨rfl, ⟨rfl, ⟨rfl, ⟨rfl, trivial⟩⟩⟩⟩⟩) ?_)
  refine ab_iload_n (i := 1) dX11_drunk_0 rfl rfl ?_
  refine ab_ldcw (v := 1000001) (tb_6 (List.mem_of_getElem? (i := 165) (by decide +kernel)) rfl) dX11_drunk_1 ?_
  refine ab_callS (Q' := fun r h' => r = some (.int (f_X11_isIn x1 1000001)) ∧ h = h') (As := [.int x1, .int 1000001]) (c_X11_isIn hs x1 1000001 ⟨rfl, rfl⟩) (Y_X11_isIn) l_X11_119 st_X11_isIn rfl ⟨(Nat.le_of_ble_eq_true rfl), (Nat.le_of_ble_eq_true rfl), (Nat.le_of_ble_eq_true rfl), (Nat.le_of_ble_eq_true rfl)⟩ dX11_drunk_4 ?_
  rintro _ _ ⟨rfl, rfl⟩
  refine ab_if_eq (tgt := 41) dX11_drunk_7 (by decide) (fun c1 => ?_) (fun c1 => ?_)
  · have ht := ht.1 c1
    refine ab_aload_n (i := 0) dX11_drunk_41 rfl rfl ?_
    refine ab_iconst (v := (-1)) dX11_drunk_42 (by decide) ?_
    refine ab_callV (b := 0) (As := [.int (-1)]) ht (Y_X11_refuse) l_X11_123 in_X11_refuse se_X11_refuse (sh_k hs 0 11 (by decide) rfl) (by decide) rfl rfl ⟨(Nat.le_of_ble_eq_true rfl), (Nat.le_of_ble_eq_true rfl), (Nat.le_of_ble_eq_true rfl), (Nat.le_of_ble_eq_true rfl)⟩ dX11_drunk_43 ?_
    rintro _ h2 ⟨v4, rfl, hs3, ht⟩
    exact ab_iret rfl dX11_drunk_46 (Nat.le_of_ble_eq_true rfl) (Nat.le_of_ble_eq_true rfl) ht
  · have ht := ht.2 c1
    refine ab_iload_n (i := 2) dX11_drunk_10 rfl rfl ?_
    refine ab_bipush (v := 6) dX11_drunk_11 (by decide) ?_
    refine ab_callS (Q' := fun r h' => r = some (.int (f_X11_isIn x2 6)) ∧ h = h') (As := [.int x2, .int 6]) (c_X11_isIn hs x2 6 ⟨rfl, rfl⟩) (Y_X11_isIn) l_X11_119 st_X11_isIn rfl ⟨(Nat.le_of_ble_eq_true rfl), (Nat.le_of_ble_eq_true rfl), (Nat.le_of_ble_eq_true rfl), (Nat.le_of_ble_eq_true rfl)⟩ dX11_drunk_13 ?_
    rintro _ _ ⟨rfl, rfl⟩
    refine ab_if_eq (tgt := 41) dX11_drunk_16 (by decide) (fun c5 => ?_) (fun c5 => ?_)
    · have ht := ht.1 c5
      refine ab_aload_n (i := 0) dX11_drunk_41 rfl rfl ?_
      refine ab_iconst (v := (-1)) dX11_drunk_42 (by decide) ?_
      refine ab_callV (b := 0) (As := [.int (-1)]) ht (Y_X11_refuse) l_X11_123 in_X11_refuse se_X11_refuse (sh_k hs 0 11 (by decide) rfl) (by decide) rfl rfl ⟨(Nat.le_of_ble_eq_true rfl), (Nat.le_of_ble_eq_true rfl), (Nat.le_of_ble_eq_true rfl), (Nat.le_of_ble_eq_true rfl)⟩ dX11_drunk_43 ?_
      rintro _ h6 ⟨v8, rfl, hs7, ht⟩
      exact ab_iret rfl dX11_drunk_46 (Nat.le_of_ble_eq_true rfl) (Nat.le_of_ble_eq_true rfl) ht
    · have ht := ht.2 c5
      refine ab_iload_n (i := 3) dX11_drunk_19 rfl rfl ?_
      refine ab_bipush (v := 12) dX11_drunk_20 (by decide) ?_
      refine ab_callS (Q' := fun r h' => r = some (.int (f_X11_isIn x3 12)) ∧ h = h') (As := [.int x3, .int 12]) (c_X11_isIn hs x3 12 ⟨rfl, rfl⟩) (Y_X11_isIn) l_X11_119 st_X11_isIn rfl ⟨(Nat.le_of_ble_eq_true rfl), (Nat.le_of_ble_eq_true rfl), (Nat.le_of_ble_eq_true rfl), (Nat.le_of_ble_eq_true rfl)⟩ dX11_drunk_22 ?_
      rintro _ _ ⟨rfl, rfl⟩
      refine ab_if_eq (tgt := 41) dX11_drunk_25 (by decide) (fun c9 => ?_) (fun c9 => ?_)
      · have ht := ht.1 c9
        refine ab_aload_n (i := 0) dX11_drunk_41 rfl rfl ?_
        refine ab_iconst (v := (-1)) dX11_drunk_42 (by decide) ?_
        refine ab_callV (b := 0) (As := [.int (-1)]) ht (Y_X11_refuse) l_X11_123 in_X11_refuse se_X11_refuse (sh_k hs 0 11 (by decide) rfl) (by decide) rfl rfl ⟨(Nat.le_of_ble_eq_true rfl), (Nat.le_of_ble_eq_true rfl), (Nat.le_of_ble_eq_true rfl), (Nat.le_of_ble_eq_true rfl)⟩ dX11_drunk_43 ?_
        rintro _ h10 ⟨v12, rfl, hs11, ht⟩
        exact ab_iret rfl dX11_drunk_46 (Nat.le_of_ble_eq_true rfl) (Nat.le_of_ble_eq_true rfl) ht
      · have ht := ht.2 c9
        refine ab_iload (i := 4) dX11_drunk_28 rfl ?_
        refine ab_iconst (v := 1) dX11_drunk_30 (by decide) ?_
        refine ab_icmp_lt (tgt := 41) dX11_drunk_31 (by decide) (fun c13 => ?_) (fun c13 => ?_)
        · have ht := ht.1 c13
          refine ab_aload_n (i := 0) dX11_drunk_41 rfl rfl ?_
          refine ab_iconst (v := (-1)) dX11_drunk_42 (by decide) ?_
          refine ab_callV (b := 0) (As := [.int (-1)]) ht (Y_X11_refuse) l_X11_123 in_X11_refuse se_X11_refuse (sh_k hs 0 11 (by decide) rfl) (by decide) rfl rfl ⟨(Nat.le_of_ble_eq_true rfl), (Nat.le_of_ble_eq_true rfl), (Nat.le_of_ble_eq_true rfl), (Nat.le_of_ble_eq_true rfl)⟩ dX11_drunk_43 ?_
          rintro _ h14 ⟨v16, rfl, hs15, ht⟩
          exact ab_iret rfl dX11_drunk_46 (Nat.le_of_ble_eq_true rfl) (Nat.le_of_ble_eq_true rfl) ht
        · have ht := ht.2 c13
          refine ab_iload (i := 4) dX11_drunk_34 rfl ?_
          refine ab_bipush (v := 60) dX11_drunk_36 (by decide) ?_
          refine ab_icmp_le (tgt := 47) dX11_drunk_38 (by decide) (fun c17 => ?_) (fun c17 => ?_)
          · have ht := ht.1 c17
            refine ab_aload_n (i := 0) dX11_drunk_47 rfl rfl ?_
            refine ab_callV (b := 0) (As := []) ht (Y_X11_look) l_X11_166 in_X11_look se_X11_look (sh_k hs 0 11 (by decide) rfl) (by decide) rfl rfl ⟨(Nat.le_of_ble_eq_true rfl), (Nat.le_of_ble_eq_true rfl), (Nat.le_of_ble_eq_true rfl), (Nat.le_of_ble_eq_true rfl)⟩ dX11_drunk_48 ?_
            rintro _ h18 ⟨rfl, hs19, ht⟩
            refine ab_aload_n (i := 0) dX11_drunk_51 rfl rfl ?_
            refine ab_getR (b := 29) f_X11_49 rfl (sh_k hs19 0 11 (by decide) rfl) (sh_r hs19 7 rfl) dX11_drunk_52 ?_
            refine ab_iload_n (i := 1) dX11_drunk_55 rfl rfl ?_
            refine ab_iload_n (i := 3) dX11_drunk_56 rfl rfl ?_
            refine ab_iload (i := 4) dX11_drunk_57 rfl ?_
            refine ab_aload_n (i := 0) dX11_drunk_59 rfl rfl ?_
            refine ab_getR (b := 19) f_X11_27 rfl (sh_k hs19 0 11 (by decide) rfl) (sh_r hs19 4 rfl) dX11_drunk_60 ?_
            refine ab_callV (b := 29) (As := [.int x1, .int x3, .int x4, .ref 19]) ht (Y_X6_stagger) l_X11_349 in_X6_stagger se_X6_stagger (sh_k hs19 29 6 (by decide) rfl) (by decide) rfl rfl ⟨(Nat.le_of_ble_eq_true rfl), (Nat.le_of_ble_eq_true rfl), (Nat.le_of_ble_eq_true rfl), (Nat.le_of_ble_eq_true rfl)⟩ dX11_drunk_63 ?_
            rintro _ h21 ⟨rfl, hs22, ht⟩
            refine ab_aload_n (i := 0) dX11_drunk_66 rfl rfl ?_
            refine ab_aload_n (i := 0) dX11_drunk_67 rfl rfl ?_
            refine ab_getR (b := 62) f_X11_85 rfl (sh_k hs22 0 11 (by decide) rfl) (sh_r hs22 11 rfl) dX11_drunk_68 ?_
            refine ab_iload_n (i := 2) dX11_drunk_71 rfl rfl ?_
            refine ab_aload_n (i := 0) dX11_drunk_72 rfl rfl ?_
            refine ab_getR (b := 19) f_X11_27 rfl (sh_k hs22 0 11 (by decide) rfl) (sh_r hs22 4 rfl) dX11_drunk_73 ?_
            refine ab_callV (b := 62) (As := [.int x2, .ref 19]) ht (Y_X1_litWith) l_X11_353 in_X1_litWith se_X1_litWith (sh_k hs22 62 1 (by decide) rfl) (by decide) rfl rfl ⟨(Nat.le_of_ble_eq_true rfl), (Nat.le_of_ble_eq_true rfl), (Nat.le_of_ble_eq_true rfl), (Nat.le_of_ble_eq_true rfl)⟩ dX11_drunk_76 ?_
            rintro _ h24 ⟨v26, rfl, hs25, ht⟩
            refine ab_callV (b := 0) (As := [.int v26]) ht (Y_X11_grant) l_X11_357 in_X11_grant se_X11_grant (sh_k hs25 0 11 (by decide) rfl) (by decide) rfl rfl ⟨(Nat.le_of_ble_eq_true rfl), (Nat.le_of_ble_eq_true rfl), (Nat.le_of_ble_eq_true rfl), (Nat.le_of_ble_eq_true rfl)⟩ dX11_drunk_79 ?_
            rintro _ h27 ⟨v29, rfl, hs28, ht⟩
            exact ab_iret rfl dX11_drunk_82 (Nat.le_of_ble_eq_true rfl) (Nat.le_of_ble_eq_true rfl) ht
          · have ht := ht.2 c17
            refine ab_aload_n (i := 0) dX11_drunk_41 rfl rfl ?_
            refine ab_iconst (v := (-1)) dX11_drunk_42 (by decide) ?_
            refine ab_callV (b := 0) (As := [.int (-1)]) ht (Y_X11_refuse) l_X11_123 in_X11_refuse se_X11_refuse (sh_k hs 0 11 (by decide) rfl) (by decide) rfl rfl ⟨(Nat.le_of_ble_eq_true rfl), (Nat.le_of_ble_eq_true rfl), (Nat.le_of_ble_eq_true rfl), (Nat.le_of_ble_eq_true rfl)⟩ dX11_drunk_43 ?_
            rintro _ h30 ⟨v32, rfl, hs31, ht⟩
            exact ab_iret rfl dX11_drunk_46 (Nat.le_of_ble_eq_true rfl) (Nat.le_of_ble_eq_true rfl) ht
theorem dX11_back_0 : decode cX11_back 0 = .ok (.iload_n 1, 1) := by decide +kernel
theorem dX11_back_1 : decode cX11_back 1 = .ok (.iconst 2, 1) := by decide +kernel
theorem dX11_back_2 : decode cX11_back 2 = .ok (.invokestatic 119, 3) := by decide +kernel
theorem dX11_back_5 : decode cX11_back 5 = .ok (.ifCond .ne 9, 3) := by decide +kernel
theorem dX11_back_8 : decode cX11_back 8 = .ok (.aload_n 0, 1) := by decide +kernel
theorem dX11_back_9 : decode cX11_back 9 = .ok (.iconst (-1), 1) := by decide +kernel
theorem dX11_back_10 : decode cX11_back 10 = .ok (.invokevirtual 123, 3) := by decide +kernel
theorem dX11_back_13 : decode cX11_back 13 = .ok (.ireturn, 1) := by decide +kernel
theorem dX11_back_14 : decode cX11_back 14 = .ok (.aload_n 0, 1) := by decide +kernel
theorem dX11_back_15 : decode cX11_back 15 = .ok (.getfield 16, 3) := by decide +kernel
theorem dX11_back_18 : decode cX11_back 18 = .ok (.iload_n 1, 1) := by decide +kernel
theorem dX11_back_19 : decode cX11_back 19 = .ok (.aaload, 1) := by decide +kernel
theorem dX11_back_20 : decode cX11_back 20 = .ok (.astore_n 2, 1) := by decide +kernel
theorem dX11_back_21 : decode cX11_back 21 = .ok (.aload_n 2, 1) := by decide +kernel
theorem dX11_back_22 : decode cX11_back 22 = .ok (.ifnonnull 10, 3) := by decide +kernel
theorem dX11_back_25 : decode cX11_back 25 = .ok (.aload_n 0, 1) := by decide +kernel
theorem dX11_back_26 : decode cX11_back 26 = .ok (.bipush (-2), 2) := by decide +kernel
theorem dX11_back_28 : decode cX11_back 28 = .ok (.invokevirtual 123, 3) := by decide +kernel
theorem dX11_back_31 : decode cX11_back 31 = .ok (.ireturn, 1) := by decide +kernel
theorem dX11_back_32 : decode cX11_back 32 = .ok (.aload_n 0, 1) := by decide +kernel
theorem dX11_back_33 : decode cX11_back 33 = .ok (.getfield 10, 3) := by decide +kernel
theorem dX11_back_36 : decode cX11_back 36 = .ok (.aload_n 2, 1) := by decide +kernel
theorem dX11_back_37 : decode cX11_back 37 = .ok (.invokevirtual 360, 3) := by decide +kernel
theorem dX11_back_40 : decode cX11_back 40 = .ok (.aload_n 0, 1) := by decide +kernel
theorem dX11_back_41 : decode cX11_back 41 = .ok (.iconst 1, 1) := by decide +kernel
theorem dX11_back_42 : decode cX11_back 42 = .ok (.putfield 112, 3) := by decide +kernel
theorem dX11_back_45 : decode cX11_back 45 = .ok (.aload_n 0, 1) := by decide +kernel
theorem dX11_back_46 : decode cX11_back 46 = .ok (.iconst 0, 1) := by decide +kernel
theorem dX11_back_47 : decode cX11_back 47 = .ok (.invokevirtual 153, 3) := by decide +kernel
theorem dX11_back_50 : decode cX11_back 50 = .ok (.ireturn, 1) := by decide +kernel
set_option maxRecDepth 20000 in
theorem T_X11_back {Q : Option Value → ah_T → Prop} {h : ah_T} (hs : Sh h) (x1 : Int32) (ht : ((¬ (f_X11_isIn x1 2) = 0 → (vp_in x1 (ah_n h 16)) ∧ ((ah_r h 16 (Int32.toNatClampNeg x1) = none → (Mt mX11_refuse [.ref 0, .int (-2)] h (ab_qi fun v8 h6 => Sh h6 ∧ Q (some (.int v8)) h6))) ∧ (∀ b4, ah_r h 16 (Int32.toNatClampNeg x1) = some b4 → (ah_k h b4 = 10) ∧ (Mt mX10_become [.ref 1, .ref b4] h (ab_qv fun h9 => Sh h9 ∧ ah_k h9 b4 = 10 ∧ (∀ h13, h13 = ah_si h9 0 18 1 → (Mt mX11_change [.ref 0, .int 0] h13 (ab_qi fun v19 h17 => Sh h17 ∧ ah_k h17 b4 = 10 ∧ Q (some (.int v19)) h17)))))))) ∧ ((f_X11_isIn x1 2) = 0 → (Mt mX11_refuse [.ref 0, .int (-1)] h (ab_qi fun v23 h21 => Sh h21 ∧ Q (some (.int v23)) h21))))) : Mt mX11_back [.ref 0, .int x1] h Q := by
  refine Mt.ofWp rfl (by exact (Nat.le_of_ble_eq_true rfl)) (Wp.fewer (L' := [some (.ref 0), some (.int x1), none]) (show ab_leL _ _ from ⟨rfl, ⟨rfl, trivial⟩⟩) ?_)
  refine ab_iload_n (i := 1) dX11_back_0 rfl rfl ?_
  refine ab_iconst (v := 2) dX11_back_1 (by decide) ?_
  refine ab_callS (Q' := fun r h' => r = some (.int (f_X11_isIn x1 2)) ∧ h = h') (As := [.int x1, .int 2]) (c_X11_isIn hs x1 2 ⟨rfl, rfl⟩) (Y_X11_isIn) l_X11_119 st_X11_isIn rfl ⟨(Nat.le_of_ble_eq_true rfl), (Nat.le_of_ble_eq_true rfl), (Nat.le_of_ble_eq_true rfl), (Nat.le_of_ble_eq_true rfl)⟩ dX11_back_2 ?_
  rintro _ _ ⟨rfl, rfl⟩
  refine ab_if_ne (tgt := 14) dX11_back_5 (by decide) (fun c1 => ?_) (fun c1 => ?_)
  · have ht := ht.1 c1
    refine ab_aload_n (i := 0) dX11_back_14 rfl rfl ?_
    refine ab_getR (b := 16) f_X11_16 rfl (sh_k hs 0 11 (by decide) rfl) (sh_r hs 1 rfl) dX11_back_15 ?_
    refine ab_iload_n (i := 1) dX11_back_18 rfl rfl ?_
    obtain ⟨hc2, ht⟩ := ht
    rcases hr3 : ah_r h 16 (Int32.toNatClampNeg x1) with _ | b4
    · have ht := ht.1 hr3
      refine ab_aald (r := none) 18 (by decide) (sh_k hs 16 18 (by decide) rfl) hc2 hr3 dX11_back_19 ?_
      refine ab_astore_nN (i := 2) (L' := [some (.ref 0), some (.int x1), some (.null)]) dX11_back_20 rfl (by exact (Nat.le_of_ble_eq_true rfl)) rfl rfl ?_
      refine ab_aload_nN (i := 2) dX11_back_21 rfl rfl ?_
      refine ab_nonnullN dX11_back_22 ?_
      refine ab_aload_n (i := 0) dX11_back_25 rfl rfl ?_
      refine ab_bipush (v := (-2)) dX11_back_26 (by decide) ?_
      refine ab_callV (b := 0) (As := [.int (-2)]) ht (Y_X11_refuse) l_X11_123 in_X11_refuse se_X11_refuse (sh_k hs 0 11 (by decide) rfl) (by decide) rfl rfl ⟨(Nat.le_of_ble_eq_true rfl), (Nat.le_of_ble_eq_true rfl), (Nat.le_of_ble_eq_true rfl), (Nat.le_of_ble_eq_true rfl)⟩ dX11_back_28 ?_
      rintro _ h6 ⟨v8, rfl, hs7, ht⟩
      exact ab_iret rfl dX11_back_31 (Nat.le_of_ble_eq_true rfl) (Nat.le_of_ble_eq_true rfl) ht
    · obtain ⟨hk5, ht⟩ := ht.2 b4 hr3
      refine ab_aald (r := some b4) 18 (by decide) (sh_k hs 16 18 (by decide) rfl) hc2 hr3 dX11_back_19 ?_
      refine ab_astore_n (i := 2) (L' := [some (.ref 0), some (.int x1), some (.ref b4)]) dX11_back_20 rfl (by exact (Nat.le_of_ble_eq_true rfl)) rfl rfl ?_
      refine ab_aload_n (i := 2) dX11_back_21 rfl rfl ?_
      refine ab_nonnull (tgt := 32) dX11_back_22 (by decide) ?_
      refine ab_aload_n (i := 0) dX11_back_32 rfl rfl ?_
      refine ab_getR (b := 1) f_X11_10 rfl (sh_k hs 0 11 (by decide) rfl) (sh_r hs 0 rfl) dX11_back_33 ?_
      refine ab_aload_n (i := 2) dX11_back_36 rfl rfl ?_
      refine ab_callV (b := 1) (As := [.ref b4]) ht (Y_X10_become) l_X11_360 in_X10_become se_X10_become (sh_k hs 1 10 (by decide) rfl) (by decide) rfl rfl ⟨(Nat.le_of_ble_eq_true rfl), (Nat.le_of_ble_eq_true rfl), (Nat.le_of_ble_eq_true rfl), (Nat.le_of_ble_eq_true rfl)⟩ dX11_back_37 ?_
      rintro _ h9 ⟨rfl, hs10, hk12, ht⟩
      refine ab_aload_n (i := 0) dX11_back_40 rfl rfl ?_
      refine ab_iconst (v := 1) dX11_back_41 (by decide) ?_
      refine ab_putI f_X11_112 (Or.inl rfl) rfl (sh_k hs10 0 11 (by decide) rfl) rfl rfl dX11_back_42 ?_
      refine Wp.nm fun h13 e14 => ?_
      have ht := ht h13 e14
      have hs15 : Sh h13 := by rw [e14]; exact sh_si hs10
      have hk16 : ah_k h13 b4 = 10 := by rw [e14]; exact hk12
      refine ab_aload_n (i := 0) dX11_back_45 rfl rfl ?_
      refine ab_iconst (v := 0) dX11_back_46 (by decide) ?_
      refine ab_callV (b := 0) (As := [.int 0]) ht (Y_X11_change) l_X11_153 in_X11_change se_X11_change (sh_k hs15 0 11 (by decide) rfl) (by decide) rfl rfl ⟨(Nat.le_of_ble_eq_true rfl), (Nat.le_of_ble_eq_true rfl), (Nat.le_of_ble_eq_true rfl), (Nat.le_of_ble_eq_true rfl)⟩ dX11_back_47 ?_
      rintro _ h17 ⟨v19, rfl, hs18, hk20, ht⟩
      exact ab_iret rfl dX11_back_50 (Nat.le_of_ble_eq_true rfl) (Nat.le_of_ble_eq_true rfl) ht
  · have ht := ht.2 c1
    refine ab_aload_n (i := 0) dX11_back_8 rfl rfl ?_
    refine ab_iconst (v := (-1)) dX11_back_9 (by decide) ?_
    refine ab_callV (b := 0) (As := [.int (-1)]) ht (Y_X11_refuse) l_X11_123 in_X11_refuse se_X11_refuse (sh_k hs 0 11 (by decide) rfl) (by decide) rfl rfl ⟨(Nat.le_of_ble_eq_true rfl), (Nat.le_of_ble_eq_true rfl), (Nat.le_of_ble_eq_true rfl), (Nat.le_of_ble_eq_true rfl)⟩ dX11_back_10 ?_
    rintro _ h21 ⟨v23, rfl, hs22, ht⟩
    exact ab_iret rfl dX11_back_13 (Nat.le_of_ble_eq_true rfl) (Nat.le_of_ble_eq_true rfl) ht
theorem dX11_count_0 : decode cX11_count 0 = .ok (.iload_n 1, 1) := by decide +kernel
theorem dX11_count_1 : decode cX11_count 1 = .ok (.tableswitch 193 0 16 #[83, 94, 105, 116, 127, 138, 146, 157, 162, 162, 162, 162, 162, 172, 180, 180, 180], 83) := by decide +kernel
theorem dX11_count_84 : decode cX11_count 84 = .ok (.aload_n 0, 1) := by decide +kernel
theorem dX11_count_85 : decode cX11_count 85 = .ok (.getfield 10, 3) := by decide +kernel
theorem dX11_count_88 : decode cX11_count 88 = .ok (.getfield 130, 3) := by decide +kernel
theorem dX11_count_91 : decode cX11_count 91 = .ok (.getfield 187, 3) := by decide +kernel
theorem dX11_count_94 : decode cX11_count 94 = .ok (.ireturn, 1) := by decide +kernel
theorem dX11_count_95 : decode cX11_count 95 = .ok (.aload_n 0, 1) := by decide +kernel
theorem dX11_count_96 : decode cX11_count 96 = .ok (.getfield 10, 3) := by decide +kernel
theorem dX11_count_99 : decode cX11_count 99 = .ok (.getfield 175, 3) := by decide +kernel
theorem dX11_count_102 : decode cX11_count 102 = .ok (.getfield 187, 3) := by decide +kernel
theorem dX11_count_105 : decode cX11_count 105 = .ok (.ireturn, 1) := by decide +kernel
theorem dX11_count_106 : decode cX11_count 106 = .ok (.aload_n 0, 1) := by decide +kernel
theorem dX11_count_107 : decode cX11_count 107 = .ok (.getfield 10, 3) := by decide +kernel
theorem dX11_count_110 : decode cX11_count 110 = .ok (.getfield 184, 3) := by decide +kernel
theorem dX11_count_113 : decode cX11_count 113 = .ok (.getfield 187, 3) := by decide +kernel
theorem dX11_count_116 : decode cX11_count 116 = .ok (.ireturn, 1) := by decide +kernel
theorem dX11_count_117 : decode cX11_count 117 = .ok (.aload_n 0, 1) := by decide +kernel
theorem dX11_count_118 : decode cX11_count 118 = .ok (.getfield 10, 3) := by decide +kernel
theorem dX11_count_121 : decode cX11_count 121 = .ok (.getfield 190, 3) := by decide +kernel
theorem dX11_count_124 : decode cX11_count 124 = .ok (.getfield 187, 3) := by decide +kernel
theorem dX11_count_127 : decode cX11_count 127 = .ok (.ireturn, 1) := by decide +kernel
theorem dX11_count_128 : decode cX11_count 128 = .ok (.aload_n 0, 1) := by decide +kernel
theorem dX11_count_129 : decode cX11_count 129 = .ok (.getfield 10, 3) := by decide +kernel
theorem dX11_count_132 : decode cX11_count 132 = .ok (.getfield 193, 3) := by decide +kernel
theorem dX11_count_135 : decode cX11_count 135 = .ok (.getfield 187, 3) := by decide +kernel
theorem dX11_count_138 : decode cX11_count 138 = .ok (.ireturn, 1) := by decide +kernel
theorem dX11_count_139 : decode cX11_count 139 = .ok (.aload_n 0, 1) := by decide +kernel
theorem dX11_count_140 : decode cX11_count 140 = .ok (.getfield 10, 3) := by decide +kernel
theorem dX11_count_143 : decode cX11_count 143 = .ok (.getfield 207, 3) := by decide +kernel
theorem dX11_count_146 : decode cX11_count 146 = .ok (.ireturn, 1) := by decide +kernel
theorem dX11_count_147 : decode cX11_count 147 = .ok (.aload_n 0, 1) := by decide +kernel
theorem dX11_count_148 : decode cX11_count 148 = .ok (.getfield 10, 3) := by decide +kernel
theorem dX11_count_151 : decode cX11_count 151 = .ok (.getfield 330, 3) := by decide +kernel
theorem dX11_count_154 : decode cX11_count 154 = .ok (.getfield 187, 3) := by decide +kernel
theorem dX11_count_157 : decode cX11_count 157 = .ok (.ireturn, 1) := by decide +kernel
theorem dX11_count_158 : decode cX11_count 158 = .ok (.aload_n 0, 1) := by decide +kernel
theorem dX11_count_159 : decode cX11_count 159 = .ok (.getfield 96, 3) := by decide +kernel
theorem dX11_count_162 : decode cX11_count 162 = .ok (.ireturn, 1) := by decide +kernel
theorem dX11_count_163 : decode cX11_count 163 = .ok (.aload_n 0, 1) := by decide +kernel
theorem dX11_count_164 : decode cX11_count 164 = .ok (.getfield 24, 3) := by decide +kernel
theorem dX11_count_167 : decode cX11_count 167 = .ok (.iload_n 1, 1) := by decide +kernel
theorem dX11_count_168 : decode cX11_count 168 = .ok (.bipush 8, 2) := by decide +kernel
theorem dX11_count_170 : decode cX11_count 170 = .ok (.isub, 1) := by decide +kernel
theorem dX11_count_171 : decode cX11_count 171 = .ok (.iaload, 1) := by decide +kernel
theorem dX11_count_172 : decode cX11_count 172 = .ok (.ireturn, 1) := by decide +kernel
theorem dX11_count_173 : decode cX11_count 173 = .ok (.aload_n 0, 1) := by decide +kernel
theorem dX11_count_174 : decode cX11_count 174 = .ok (.getfield 10, 3) := by decide +kernel
theorem dX11_count_177 : decode cX11_count 177 = .ok (.getfield 228, 3) := by decide +kernel
theorem dX11_count_180 : decode cX11_count 180 = .ok (.ireturn, 1) := by decide +kernel
theorem dX11_count_181 : decode cX11_count 181 = .ok (.aload_n 0, 1) := by decide +kernel
theorem dX11_count_182 : decode cX11_count 182 = .ok (.getfield 10, 3) := by decide +kernel
theorem dX11_count_185 : decode cX11_count 185 = .ok (.getfield 196, 3) := by decide +kernel
theorem dX11_count_188 : decode cX11_count 188 = .ok (.iload_n 1, 1) := by decide +kernel
theorem dX11_count_189 : decode cX11_count 189 = .ok (.bipush 14, 2) := by decide +kernel
theorem dX11_count_191 : decode cX11_count 191 = .ok (.isub, 1) := by decide +kernel
theorem dX11_count_192 : decode cX11_count 192 = .ok (.iaload, 1) := by decide +kernel
theorem dX11_count_193 : decode cX11_count 193 = .ok (.ireturn, 1) := by decide +kernel
theorem dX11_count_194 : decode cX11_count 194 = .ok (.iconst (-1), 1) := by decide +kernel
theorem dX11_count_195 : decode cX11_count 195 = .ok (.ireturn, 1) := by decide +kernel
set_option maxRecDepth 20000 in
theorem T_X11_count {Q : Option Value → ah_T → Prop} {h : ah_T} (hs : Sh h) (x1 : Int32) (ht : ((x1 = 0 → Q (some (.int (ah_i h 2 3))) h) ∧ (x1 = 1 → Q (some (.int (ah_i h 4 3))) h) ∧ (x1 = 2 → Q (some (.int (ah_i h 6 3))) h) ∧ (x1 = 3 → Q (some (.int (ah_i h 8 3))) h) ∧ (x1 = 4 → Q (some (.int (ah_i h 10 3))) h) ∧ (x1 = 5 → Q (some (.int (ah_i h 1 8))) h) ∧ (x1 = 6 → Q (some (.int (ah_i h 12 3))) h) ∧ (x1 = 7 → Q (some (.int (ah_i h 0 13))) h) ∧ (x1 = 8 → (vp_in (x1 - 8) (ah_n h 18)) ∧ Q (some (.int (ah_i h 18 (Int32.toNatClampNeg (x1 - 8))))) h) ∧ (x1 = 9 → (vp_in (x1 - 8) (ah_n h 18)) ∧ Q (some (.int (ah_i h 18 (Int32.toNatClampNeg (x1 - 8))))) h) ∧ (x1 = 10 → (vp_in (x1 - 8) (ah_n h 18)) ∧ Q (some (.int (ah_i h 18 (Int32.toNatClampNeg (x1 - 8))))) h) ∧ (x1 = 11 → (vp_in (x1 - 8) (ah_n h 18)) ∧ Q (some (.int (ah_i h 18 (Int32.toNatClampNeg (x1 - 8))))) h) ∧ (x1 = 12 → (vp_in (x1 - 8) (ah_n h 18)) ∧ Q (some (.int (ah_i h 18 (Int32.toNatClampNeg (x1 - 8))))) h) ∧ (x1 = 13 → Q (some (.int (ah_i h 1 9))) h) ∧ (x1 = 14 → (vp_in (x1 - 14) (ah_n h 14)) ∧ Q (some (.int (ah_i h 14 (Int32.toNatClampNeg (x1 - 14))))) h) ∧ (x1 = 15 → (vp_in (x1 - 14) (ah_n h 14)) ∧ Q (some (.int (ah_i h 14 (Int32.toNatClampNeg (x1 - 14))))) h) ∧ (x1 = 16 → (vp_in (x1 - 14) (ah_n h 14)) ∧ Q (some (.int (ah_i h 14 (Int32.toNatClampNeg (x1 - 14))))) h) ∧ (¬ x1 = 0 → ¬ x1 = 1 → ¬ x1 = 2 → ¬ x1 = 3 → ¬ x1 = 4 → ¬ x1 = 5 → ¬ x1 = 6 → ¬ x1 = 7 → ¬ x1 = 8 → ¬ x1 = 9 → ¬ x1 = 10 → ¬ x1 = 11 → ¬ x1 = 12 → ¬ x1 = 13 → ¬ x1 = 14 → ¬ x1 = 15 → ¬ x1 = 16 → Q (some (.int (-1))) h))) : Mt mX11_count [.ref 0, .int x1] h Q := by
  refine Mt.ofWp rfl (by exact (Nat.le_of_ble_eq_true rfl)) (Wp.fewer (L' := [some (.ref 0), some (.int x1)]) (show ab_leL _ _ from ⟨rfl, ⟨rfl, trivial⟩⟩) ?_)
  refine ab_iload_n (i := 1) dX11_count_0 rfl rfl ?_
  have ht0 := ht
  by_cases c1 : x1 = 0
  · have ht := (ht0.1) c1
    refine ab_tableIn (off := 83) (tgt := 84) dX11_count_1 (by rw [c1]; decide) (by rw [c1]; decide) (by rw [c1]; rfl) (by decide) ?_
    refine ab_aload_n (i := 0) dX11_count_84 rfl rfl ?_
    refine ab_getR (b := 1) f_X11_10 rfl (sh_k hs 0 11 (by decide) rfl) (sh_r hs 0 rfl) dX11_count_85 ?_
    refine ab_getR (b := 2) f_X11_130 rfl (sh_k hs 1 10 (by decide) rfl) (sh_r hs 13 rfl) dX11_count_88 ?_
    refine ab_getI f_X11_187 rfl (sh_k hs 2 7 (by decide) rfl) dX11_count_91 ?_
    exact ab_iret rfl dX11_count_94 (Nat.le_of_ble_eq_true rfl) (Nat.le_of_ble_eq_true rfl) ht
  by_cases c2 : x1 = 1
  · have ht := (ht0.2.1) c2
    refine ab_tableIn (off := 94) (tgt := 95) dX11_count_1 (by rw [c2]; decide) (by rw [c2]; decide) (by rw [c2]; rfl) (by decide) ?_
    refine ab_aload_n (i := 0) dX11_count_95 rfl rfl ?_
    refine ab_getR (b := 1) f_X11_10 rfl (sh_k hs 0 11 (by decide) rfl) (sh_r hs 0 rfl) dX11_count_96 ?_
    refine ab_getR (b := 4) f_X11_175 rfl (sh_k hs 1 10 (by decide) rfl) (sh_r hs 14 rfl) dX11_count_99 ?_
    refine ab_getI f_X11_187 rfl (sh_k hs 4 7 (by decide) rfl) dX11_count_102 ?_
    exact ab_iret rfl dX11_count_105 (Nat.le_of_ble_eq_true rfl) (Nat.le_of_ble_eq_true rfl) ht
  by_cases c3 : x1 = 2
  · have ht := (ht0.2.2.1) c3
    refine ab_tableIn (off := 105) (tgt := 106) dX11_count_1 (by rw [c3]; decide) (by rw [c3]; decide) (by rw [c3]; rfl) (by decide) ?_
    refine ab_aload_n (i := 0) dX11_count_106 rfl rfl ?_
    refine ab_getR (b := 1) f_X11_10 rfl (sh_k hs 0 11 (by decide) rfl) (sh_r hs 0 rfl) dX11_count_107 ?_
    refine ab_getR (b := 6) f_X11_184 rfl (sh_k hs 1 10 (by decide) rfl) (sh_r hs 15 rfl) dX11_count_110 ?_
    refine ab_getI f_X11_187 rfl (sh_k hs 6 7 (by decide) rfl) dX11_count_113 ?_
    exact ab_iret rfl dX11_count_116 (Nat.le_of_ble_eq_true rfl) (Nat.le_of_ble_eq_true rfl) ht
  by_cases c4 : x1 = 3
  · have ht := (ht0.2.2.2.1) c4
    refine ab_tableIn (off := 116) (tgt := 117) dX11_count_1 (by rw [c4]; decide) (by rw [c4]; decide) (by rw [c4]; rfl) (by decide) ?_
    refine ab_aload_n (i := 0) dX11_count_117 rfl rfl ?_
    refine ab_getR (b := 1) f_X11_10 rfl (sh_k hs 0 11 (by decide) rfl) (sh_r hs 0 rfl) dX11_count_118 ?_
    refine ab_getR (b := 8) f_X11_190 rfl (sh_k hs 1 10 (by decide) rfl) (sh_r hs 16 rfl) dX11_count_121 ?_
    refine ab_getI f_X11_187 rfl (sh_k hs 8 7 (by decide) rfl) dX11_count_124 ?_
    exact ab_iret rfl dX11_count_127 (Nat.le_of_ble_eq_true rfl) (Nat.le_of_ble_eq_true rfl) ht
  by_cases c5 : x1 = 4
  · have ht := (ht0.2.2.2.2.1) c5
    refine ab_tableIn (off := 127) (tgt := 128) dX11_count_1 (by rw [c5]; decide) (by rw [c5]; decide) (by rw [c5]; rfl) (by decide) ?_
    refine ab_aload_n (i := 0) dX11_count_128 rfl rfl ?_
    refine ab_getR (b := 1) f_X11_10 rfl (sh_k hs 0 11 (by decide) rfl) (sh_r hs 0 rfl) dX11_count_129 ?_
    refine ab_getR (b := 10) f_X11_193 rfl (sh_k hs 1 10 (by decide) rfl) (sh_r hs 17 rfl) dX11_count_132 ?_
    refine ab_getI f_X11_187 rfl (sh_k hs 10 7 (by decide) rfl) dX11_count_135 ?_
    exact ab_iret rfl dX11_count_138 (Nat.le_of_ble_eq_true rfl) (Nat.le_of_ble_eq_true rfl) ht
  by_cases c6 : x1 = 5
  · have ht := (ht0.2.2.2.2.2.1) c6
    refine ab_tableIn (off := 138) (tgt := 139) dX11_count_1 (by rw [c6]; decide) (by rw [c6]; decide) (by rw [c6]; rfl) (by decide) ?_
    refine ab_aload_n (i := 0) dX11_count_139 rfl rfl ?_
    refine ab_getR (b := 1) f_X11_10 rfl (sh_k hs 0 11 (by decide) rfl) (sh_r hs 0 rfl) dX11_count_140 ?_
    refine ab_getI f_X11_207 rfl (sh_k hs 1 10 (by decide) rfl) dX11_count_143 ?_
    exact ab_iret rfl dX11_count_146 (Nat.le_of_ble_eq_true rfl) (Nat.le_of_ble_eq_true rfl) ht
  by_cases c7 : x1 = 6
  · have ht := (ht0.2.2.2.2.2.2.1) c7
    refine ab_tableIn (off := 146) (tgt := 147) dX11_count_1 (by rw [c7]; decide) (by rw [c7]; decide) (by rw [c7]; rfl) (by decide) ?_
    refine ab_aload_n (i := 0) dX11_count_147 rfl rfl ?_
    refine ab_getR (b := 1) f_X11_10 rfl (sh_k hs 0 11 (by decide) rfl) (sh_r hs 0 rfl) dX11_count_148 ?_
    refine ab_getR (b := 12) f_X11_330 rfl (sh_k hs 1 10 (by decide) rfl) (sh_r hs 18 rfl) dX11_count_151 ?_
    refine ab_getI f_X11_187 rfl (sh_k hs 12 7 (by decide) rfl) dX11_count_154 ?_
    exact ab_iret rfl dX11_count_157 (Nat.le_of_ble_eq_true rfl) (Nat.le_of_ble_eq_true rfl) ht
  by_cases c8 : x1 = 7
  · have ht := (ht0.2.2.2.2.2.2.2.1) c8
    refine ab_tableIn (off := 157) (tgt := 158) dX11_count_1 (by rw [c8]; decide) (by rw [c8]; decide) (by rw [c8]; rfl) (by decide) ?_
    refine ab_aload_n (i := 0) dX11_count_158 rfl rfl ?_
    refine ab_getI f_X11_96 rfl (sh_k hs 0 11 (by decide) rfl) dX11_count_159 ?_
    exact ab_iret rfl dX11_count_162 (Nat.le_of_ble_eq_true rfl) (Nat.le_of_ble_eq_true rfl) ht
  by_cases c9 : x1 = 8
  · have ht := (ht0.2.2.2.2.2.2.2.2.1) c9
    refine ab_tableIn (off := 162) (tgt := 163) dX11_count_1 (by rw [c9]; decide) (by rw [c9]; decide) (by rw [c9]; rfl) (by decide) ?_
    refine ab_aload_n (i := 0) dX11_count_163 rfl rfl ?_
    refine ab_getR (b := 18) f_X11_24 rfl (sh_k hs 0 11 (by decide) rfl) (sh_r hs 3 rfl) dX11_count_164 ?_
    refine ab_iload_n (i := 1) dX11_count_167 rfl rfl ?_
    refine ab_bipush (v := 8) dX11_count_168 (by decide) ?_
    refine ab_isub dX11_count_170 ?_
    obtain ⟨hc10, ht⟩ := ht
    refine ab_iald (sh_k hs 18 14 (by decide) rfl) hc10 dX11_count_171 ?_
    exact ab_iret rfl dX11_count_172 (Nat.le_of_ble_eq_true rfl) (Nat.le_of_ble_eq_true rfl) ht
  by_cases c11 : x1 = 9
  · have ht := (ht0.2.2.2.2.2.2.2.2.2.1) c11
    refine ab_tableIn (off := 162) (tgt := 163) dX11_count_1 (by rw [c11]; decide) (by rw [c11]; decide) (by rw [c11]; rfl) (by decide) ?_
    refine ab_aload_n (i := 0) dX11_count_163 rfl rfl ?_
    refine ab_getR (b := 18) f_X11_24 rfl (sh_k hs 0 11 (by decide) rfl) (sh_r hs 3 rfl) dX11_count_164 ?_
    refine ab_iload_n (i := 1) dX11_count_167 rfl rfl ?_
    refine ab_bipush (v := 8) dX11_count_168 (by decide) ?_
    refine ab_isub dX11_count_170 ?_
    obtain ⟨hc12, ht⟩ := ht
    refine ab_iald (sh_k hs 18 14 (by decide) rfl) hc12 dX11_count_171 ?_
    exact ab_iret rfl dX11_count_172 (Nat.le_of_ble_eq_true rfl) (Nat.le_of_ble_eq_true rfl) ht
  by_cases c13 : x1 = 10
  · have ht := (ht0.2.2.2.2.2.2.2.2.2.2.1) c13
    refine ab_tableIn (off := 162) (tgt := 163) dX11_count_1 (by rw [c13]; decide) (by rw [c13]; decide) (by rw [c13]; rfl) (by decide) ?_
    refine ab_aload_n (i := 0) dX11_count_163 rfl rfl ?_
    refine ab_getR (b := 18) f_X11_24 rfl (sh_k hs 0 11 (by decide) rfl) (sh_r hs 3 rfl) dX11_count_164 ?_
    refine ab_iload_n (i := 1) dX11_count_167 rfl rfl ?_
    refine ab_bipush (v := 8) dX11_count_168 (by decide) ?_
    refine ab_isub dX11_count_170 ?_
    obtain ⟨hc14, ht⟩ := ht
    refine ab_iald (sh_k hs 18 14 (by decide) rfl) hc14 dX11_count_171 ?_
    exact ab_iret rfl dX11_count_172 (Nat.le_of_ble_eq_true rfl) (Nat.le_of_ble_eq_true rfl) ht
  by_cases c15 : x1 = 11
  · have ht := (ht0.2.2.2.2.2.2.2.2.2.2.2.1) c15
    refine ab_tableIn (off := 162) (tgt := 163) dX11_count_1 (by rw [c15]; decide) (by rw [c15]; decide) (by rw [c15]; rfl) (by decide) ?_
    refine ab_aload_n (i := 0) dX11_count_163 rfl rfl ?_
    refine ab_getR (b := 18) f_X11_24 rfl (sh_k hs 0 11 (by decide) rfl) (sh_r hs 3 rfl) dX11_count_164 ?_
    refine ab_iload_n (i := 1) dX11_count_167 rfl rfl ?_
    refine ab_bipush (v := 8) dX11_count_168 (by decide) ?_
    refine ab_isub dX11_count_170 ?_
    obtain ⟨hc16, ht⟩ := ht
    refine ab_iald (sh_k hs 18 14 (by decide) rfl) hc16 dX11_count_171 ?_
    exact ab_iret rfl dX11_count_172 (Nat.le_of_ble_eq_true rfl) (Nat.le_of_ble_eq_true rfl) ht
  by_cases c17 : x1 = 12
  · have ht := (ht0.2.2.2.2.2.2.2.2.2.2.2.2.1) c17
    refine ab_tableIn (off := 162) (tgt := 163) dX11_count_1 (by rw [c17]; decide) (by rw [c17]; decide) (by rw [c17]; rfl) (by decide) ?_
    refine ab_aload_n (i := 0) dX11_count_163 rfl rfl ?_
    refine ab_getR (b := 18) f_X11_24 rfl (sh_k hs 0 11 (by decide) rfl) (sh_r hs 3 rfl) dX11_count_164 ?_
    refine ab_iload_n (i := 1) dX11_count_167 rfl rfl ?_
    refine ab_bipush (v := 8) dX11_count_168 (by decide) ?_
    refine ab_isub dX11_count_170 ?_
    obtain ⟨hc18, ht⟩ := ht
    refine ab_iald (sh_k hs 18 14 (by decide) rfl) hc18 dX11_count_171 ?_
    exact ab_iret rfl dX11_count_172 (Nat.le_of_ble_eq_true rfl) (Nat.le_of_ble_eq_true rfl) ht
  by_cases c19 : x1 = 13
  · have ht := (ht0.2.2.2.2.2.2.2.2.2.2.2.2.2.1) c19
    refine ab_tableIn (off := 172) (tgt := 173) dX11_count_1 (by rw [c19]; decide) (by rw [c19]; decide) (by rw [c19]; rfl) (by decide) ?_
    refine ab_aload_n (i := 0) dX11_count_173 rfl rfl ?_
    refine ab_getR (b := 1) f_X11_10 rfl (sh_k hs 0 11 (by decide) rfl) (sh_r hs 0 rfl) dX11_count_174 ?_
    refine ab_getI f_X11_228 rfl (sh_k hs 1 10 (by decide) rfl) dX11_count_177 ?_
    exact ab_iret rfl dX11_count_180 (Nat.le_of_ble_eq_true rfl) (Nat.le_of_ble_eq_true rfl) ht
  by_cases c20 : x1 = 14
  · have ht := (ht0.2.2.2.2.2.2.2.2.2.2.2.2.2.2.1) c20
    refine ab_tableIn (off := 180) (tgt := 181) dX11_count_1 (by rw [c20]; decide) (by rw [c20]; decide) (by rw [c20]; rfl) (by decide) ?_
    refine ab_aload_n (i := 0) dX11_count_181 rfl rfl ?_
    refine ab_getR (b := 1) f_X11_10 rfl (sh_k hs 0 11 (by decide) rfl) (sh_r hs 0 rfl) dX11_count_182 ?_
    refine ab_getR (b := 14) f_X11_196 rfl (sh_k hs 1 10 (by decide) rfl) (sh_r hs 19 rfl) dX11_count_185 ?_
    refine ab_iload_n (i := 1) dX11_count_188 rfl rfl ?_
    refine ab_bipush (v := 14) dX11_count_189 (by decide) ?_
    refine ab_isub dX11_count_191 ?_
    obtain ⟨hc21, ht⟩ := ht
    refine ab_iald (sh_k hs 14 14 (by decide) rfl) hc21 dX11_count_192 ?_
    exact ab_iret rfl dX11_count_193 (Nat.le_of_ble_eq_true rfl) (Nat.le_of_ble_eq_true rfl) ht
  by_cases c22 : x1 = 15
  · have ht := (ht0.2.2.2.2.2.2.2.2.2.2.2.2.2.2.2.1) c22
    refine ab_tableIn (off := 180) (tgt := 181) dX11_count_1 (by rw [c22]; decide) (by rw [c22]; decide) (by rw [c22]; rfl) (by decide) ?_
    refine ab_aload_n (i := 0) dX11_count_181 rfl rfl ?_
    refine ab_getR (b := 1) f_X11_10 rfl (sh_k hs 0 11 (by decide) rfl) (sh_r hs 0 rfl) dX11_count_182 ?_
    refine ab_getR (b := 14) f_X11_196 rfl (sh_k hs 1 10 (by decide) rfl) (sh_r hs 19 rfl) dX11_count_185 ?_
    refine ab_iload_n (i := 1) dX11_count_188 rfl rfl ?_
    refine ab_bipush (v := 14) dX11_count_189 (by decide) ?_
    refine ab_isub dX11_count_191 ?_
    obtain ⟨hc23, ht⟩ := ht
    refine ab_iald (sh_k hs 14 14 (by decide) rfl) hc23 dX11_count_192 ?_
    exact ab_iret rfl dX11_count_193 (Nat.le_of_ble_eq_true rfl) (Nat.le_of_ble_eq_true rfl) ht
  by_cases c24 : x1 = 16
  · have ht := (ht0.2.2.2.2.2.2.2.2.2.2.2.2.2.2.2.2.1) c24
    refine ab_tableIn (off := 180) (tgt := 181) dX11_count_1 (by rw [c24]; decide) (by rw [c24]; decide) (by rw [c24]; rfl) (by decide) ?_
    refine ab_aload_n (i := 0) dX11_count_181 rfl rfl ?_
    refine ab_getR (b := 1) f_X11_10 rfl (sh_k hs 0 11 (by decide) rfl) (sh_r hs 0 rfl) dX11_count_182 ?_
    refine ab_getR (b := 14) f_X11_196 rfl (sh_k hs 1 10 (by decide) rfl) (sh_r hs 19 rfl) dX11_count_185 ?_
    refine ab_iload_n (i := 1) dX11_count_188 rfl rfl ?_
    refine ab_bipush (v := 14) dX11_count_189 (by decide) ?_
    refine ab_isub dX11_count_191 ?_
    obtain ⟨hc25, ht⟩ := ht
    refine ab_iald (sh_k hs 14 14 (by decide) rfl) hc25 dX11_count_192 ?_
    exact ab_iret rfl dX11_count_193 (Nat.le_of_ble_eq_true rfl) (Nat.le_of_ble_eq_true rfl) ht
  have ht := (ht0.2.2.2.2.2.2.2.2.2.2.2.2.2.2.2.2.2) c1 c2 c3 c4 c5 c6 c7 c8 c9 c11 c13 c15 c17 c19 c20 c22 c24
  refine ab_tableOut (tgt := 194) dX11_count_1 (by
      have zc1 := lv_neT (a := 0) c1 (by decide)
      have zc2 := lv_neT (a := 1) c2 (by decide)
      have zc3 := lv_neT (a := 2) c3 (by decide)
      have zc4 := lv_neT (a := 3) c4 (by decide)
      have zc5 := lv_neT (a := 4) c5 (by decide)
      have zc6 := lv_neT (a := 5) c6 (by decide)
      have zc7 := lv_neT (a := 6) c7 (by decide)
      have zc8 := lv_neT (a := 7) c8 (by decide)
      have zc9 := lv_neT (a := 8) c9 (by decide)
      have zc11 := lv_neT (a := 9) c11 (by decide)
      have zc13 := lv_neT (a := 10) c13 (by decide)
      have zc15 := lv_neT (a := 11) c15 (by decide)
      have zc17 := lv_neT (a := 12) c17 (by decide)
      have zc19 := lv_neT (a := 13) c19 (by decide)
      have zc20 := lv_neT (a := 14) c20 (by decide)
      have zc22 := lv_neT (a := 15) c22 (by decide)
      have zc24 := lv_neT (a := 16) c24 (by decide)
      omega) (by decide) ?_
  refine ab_iconst (v := (-1)) dX11_count_194 (by decide) ?_
  exact ab_iret rfl dX11_count_195 (Nat.le_of_ble_eq_true rfl) (Nat.le_of_ble_eq_true rfl) ht
theorem dX11_isFact_0 : decode cX11_isFact 0 = .ok (.iload_n 0, 1) := by decide +kernel
theorem dX11_isFact_1 : decode cX11_isFact 1 = .ok (.tableswitch 59 0 2 #[27, 34, 41], 27) := by decide +kernel
theorem dX11_isFact_28 : decode cX11_isFact 28 = .ok (.iload_n 1, 1) := by decide +kernel
theorem dX11_isFact_29 : decode cX11_isFact 29 = .ok (.bipush 12, 2) := by decide +kernel
theorem dX11_isFact_31 : decode cX11_isFact 31 = .ok (.invokestatic 119, 3) := by decide +kernel
theorem dX11_isFact_34 : decode cX11_isFact 34 = .ok (.ireturn, 1) := by decide +kernel
theorem dX11_isFact_35 : decode cX11_isFact 35 = .ok (.iload_n 1, 1) := by decide +kernel
theorem dX11_isFact_36 : decode cX11_isFact 36 = .ok (.bipush 6, 2) := by decide +kernel
theorem dX11_isFact_38 : decode cX11_isFact 38 = .ok (.invokestatic 119, 3) := by decide +kernel
theorem dX11_isFact_41 : decode cX11_isFact 41 = .ok (.ireturn, 1) := by decide +kernel
theorem dX11_isFact_42 : decode cX11_isFact 42 = .ok (.iload_n 1, 1) := by decide +kernel
theorem dX11_isFact_43 : decode cX11_isFact 43 = .ok (.iconst 1, 1) := by decide +kernel
theorem dX11_isFact_44 : decode cX11_isFact 44 = .ok (.if_icmp .lt 14, 3) := by decide +kernel
theorem dX11_isFact_47 : decode cX11_isFact 47 = .ok (.iload_n 1, 1) := by decide +kernel
theorem dX11_isFact_48 : decode cX11_isFact 48 = .ok (.sipush 240, 3) := by decide +kernel
theorem dX11_isFact_51 : decode cX11_isFact 51 = .ok (.if_icmp .gt 7, 3) := by decide +kernel
theorem dX11_isFact_54 : decode cX11_isFact 54 = .ok (.iconst 1, 1) := by decide +kernel
theorem dX11_isFact_55 : decode cX11_isFact 55 = .ok (.goto 4, 3) := by decide +kernel
theorem dX11_isFact_58 : decode cX11_isFact 58 = .ok (.iconst 0, 1) := by decide +kernel
theorem dX11_isFact_59 : decode cX11_isFact 59 = .ok (.ireturn, 1) := by decide +kernel
theorem dX11_isFact_60 : decode cX11_isFact 60 = .ok (.iconst 0, 1) := by decide +kernel
theorem dX11_isFact_61 : decode cX11_isFact 61 = .ok (.ireturn, 1) := by decide +kernel
set_option maxRecDepth 20000 in
theorem T_X11_isFact {Q : Option Value → ah_T → Prop} {h : ah_T} (hs : Sh h) (x0 : Int32) (x1 : Int32) (ht : ((x0 = 0 → Q (some (.int (f_X11_isIn x1 12))) h) ∧ (x0 = 1 → Q (some (.int (f_X11_isIn x1 6))) h) ∧ (x0 = 2 → ((x1 < 1 → Q (some (.int 0)) h) ∧ (¬ x1 < 1 → ((240 < x1 → Q (some (.int 0)) h) ∧ (¬ 240 < x1 → Q (some (.int 1)) h))))) ∧ (¬ x0 = 0 → ¬ x0 = 1 → ¬ x0 = 2 → Q (some (.int 0)) h))) : Mt mX11_isFact [.int x0, .int x1] h Q := by
  refine Mt.ofWp rfl (by exact (Nat.le_of_ble_eq_true rfl)) (Wp.fewer (L' := [some (.int x0), some (.int x1)]) (show ab_leL _ _ from ⟨rfl, ⟨rfl, trivial⟩⟩) ?_)
  refine ab_iload_n (i := 0) dX11_isFact_0 rfl rfl ?_
  have ht0 := ht
  by_cases c1 : x0 = 0
  · have ht := (ht0.1) c1
    refine ab_tableIn (off := 27) (tgt := 28) dX11_isFact_1 (by rw [c1]; decide) (by rw [c1]; decide) (by rw [c1]; rfl) (by decide) ?_
    refine ab_iload_n (i := 1) dX11_isFact_28 rfl rfl ?_
    refine ab_bipush (v := 12) dX11_isFact_29 (by decide) ?_
    refine ab_callS (Q' := fun r h' => r = some (.int (f_X11_isIn x1 12)) ∧ h = h') (As := [.int x1, .int 12]) (c_X11_isIn hs x1 12 ⟨rfl, rfl⟩) (Y_X11_isIn) l_X11_119 st_X11_isIn rfl ⟨(Nat.le_of_ble_eq_true rfl), (Nat.le_of_ble_eq_true rfl), (Nat.le_of_ble_eq_true rfl), (Nat.le_of_ble_eq_true rfl)⟩ dX11_isFact_31 ?_
    rintro _ _ ⟨rfl, rfl⟩
    exact ab_zret rfl (ab_b_nar (b_X11_isIn ..)) dX11_isFact_34 (Nat.le_of_ble_eq_true rfl) (Nat.le_of_ble_eq_true rfl) ht
  by_cases c2 : x0 = 1
  · have ht := (ht0.2.1) c2
    refine ab_tableIn (off := 34) (tgt := 35) dX11_isFact_1 (by rw [c2]; decide) (by rw [c2]; decide) (by rw [c2]; rfl) (by decide) ?_
    refine ab_iload_n (i := 1) dX11_isFact_35 rfl rfl ?_
    refine ab_bipush (v := 6) dX11_isFact_36 (by decide) ?_
    refine ab_callS (Q' := fun r h' => r = some (.int (f_X11_isIn x1 6)) ∧ h = h') (As := [.int x1, .int 6]) (c_X11_isIn hs x1 6 ⟨rfl, rfl⟩) (Y_X11_isIn) l_X11_119 st_X11_isIn rfl ⟨(Nat.le_of_ble_eq_true rfl), (Nat.le_of_ble_eq_true rfl), (Nat.le_of_ble_eq_true rfl), (Nat.le_of_ble_eq_true rfl)⟩ dX11_isFact_38 ?_
    rintro _ _ ⟨rfl, rfl⟩
    exact ab_zret rfl (ab_b_nar (b_X11_isIn ..)) dX11_isFact_41 (Nat.le_of_ble_eq_true rfl) (Nat.le_of_ble_eq_true rfl) ht
  by_cases c3 : x0 = 2
  · have ht := (ht0.2.2.1) c3
    refine ab_tableIn (off := 41) (tgt := 42) dX11_isFact_1 (by rw [c3]; decide) (by rw [c3]; decide) (by rw [c3]; rfl) (by decide) ?_
    refine ab_iload_n (i := 1) dX11_isFact_42 rfl rfl ?_
    refine ab_iconst (v := 1) dX11_isFact_43 (by decide) ?_
    refine ab_icmp_lt (tgt := 58) dX11_isFact_44 (by decide) (fun c4 => ?_) (fun c4 => ?_)
    · have ht := ht.1 c4
      refine ab_iconst (v := 0) dX11_isFact_58 (by decide) ?_
      exact ab_zret rfl rfl dX11_isFact_59 (Nat.le_of_ble_eq_true rfl) (Nat.le_of_ble_eq_true rfl) ht
    · have ht := ht.2 c4
      refine ab_iload_n (i := 1) dX11_isFact_47 rfl rfl ?_
      refine ab_sipush (v := 240) dX11_isFact_48 (by decide) ?_
      refine ab_icmp_gt (tgt := 58) dX11_isFact_51 (by decide) (fun c5 => ?_) (fun c5 => ?_)
      · have ht := ht.1 c5
        refine ab_iconst (v := 0) dX11_isFact_58 (by decide) ?_
        exact ab_zret rfl rfl dX11_isFact_59 (Nat.le_of_ble_eq_true rfl) (Nat.le_of_ble_eq_true rfl) ht
      · have ht := ht.2 c5
        refine ab_iconst (v := 1) dX11_isFact_54 (by decide) ?_
        refine ab_goto (tgt := 59) dX11_isFact_55 (by decide) ?_
        exact ab_zret rfl rfl dX11_isFact_59 (Nat.le_of_ble_eq_true rfl) (Nat.le_of_ble_eq_true rfl) ht
  have ht := (ht0.2.2.2) c1 c2 c3
  refine ab_tableOut (tgt := 60) dX11_isFact_1 (by
      have zc1 := lv_neT (a := 0) c1 (by decide)
      have zc2 := lv_neT (a := 1) c2 (by decide)
      have zc3 := lv_neT (a := 2) c3 (by decide)
      omega) (by decide) ?_
  refine ab_iconst (v := 0) dX11_isFact_60 (by decide) ?_
  exact ab_zret rfl rfl dX11_isFact_61 (Nat.le_of_ble_eq_true rfl) (Nat.le_of_ble_eq_true rfl) ht
theorem dX11_countBit_0 : decode cX11_countBit 0 = .ok (.iconst 0, 1) := by decide +kernel
theorem dX11_countBit_1 : decode cX11_countBit 1 = .ok (.istore_n 3, 1) := by decide +kernel
theorem dX11_countBit_2 : decode cX11_countBit 2 = .ok (.iconst 0, 1) := by decide +kernel
theorem dX11_countBit_3 : decode cX11_countBit 3 = .ok (.istore 4, 2) := by decide +kernel
theorem dX11_countBit_5 : decode cX11_countBit 5 = .ok (.iload 4, 2) := by decide +kernel
theorem dX11_countBit_7 : decode cX11_countBit 7 = .ok (.iload_n 2, 1) := by decide +kernel
theorem dX11_countBit_8 : decode cX11_countBit 8 = .ok (.if_icmp .gt 27, 3) := by decide +kernel
theorem dX11_countBit_11 : decode cX11_countBit 11 = .ok (.iload 4, 2) := by decide +kernel
theorem dX11_countBit_13 : decode cX11_countBit 13 = .ok (.aload_n 0, 1) := by decide +kernel
theorem dX11_countBit_14 : decode cX11_countBit 14 = .ok (.arraylength, 1) := by decide +kernel
theorem dX11_countBit_15 : decode cX11_countBit 15 = .ok (.if_icmp .ge 20, 3) := by decide +kernel
theorem dX11_countBit_18 : decode cX11_countBit 18 = .ok (.iload_n 3, 1) := by decide +kernel
theorem dX11_countBit_19 : decode cX11_countBit 19 = .ok (.aload_n 0, 1) := by decide +kernel
theorem dX11_countBit_20 : decode cX11_countBit 20 = .ok (.iload 4, 2) := by decide +kernel
theorem dX11_countBit_22 : decode cX11_countBit 22 = .ok (.iaload, 1) := by decide +kernel
theorem dX11_countBit_23 : decode cX11_countBit 23 = .ok (.iload_n 1, 1) := by decide +kernel
theorem dX11_countBit_24 : decode cX11_countBit 24 = .ok (.ishr, 1) := by decide +kernel
theorem dX11_countBit_25 : decode cX11_countBit 25 = .ok (.iconst 1, 1) := by decide +kernel
theorem dX11_countBit_26 : decode cX11_countBit 26 = .ok (.iand, 1) := by decide +kernel
theorem dX11_countBit_27 : decode cX11_countBit 27 = .ok (.iadd, 1) := by decide +kernel
theorem dX11_countBit_28 : decode cX11_countBit 28 = .ok (.istore_n 3, 1) := by decide +kernel
theorem dX11_countBit_29 : decode cX11_countBit 29 = .ok (.iinc 4 1, 3) := by decide +kernel
theorem dX11_countBit_32 : decode cX11_countBit 32 = .ok (.goto (-27), 3) := by decide +kernel
theorem dX11_countBit_35 : decode cX11_countBit 35 = .ok (.iload_n 3, 1) := by decide +kernel
theorem dX11_countBit_36 : decode cX11_countBit 36 = .ok (.ireturn, 1) := by decide +kernel
set_option maxRecDepth 20000 in
theorem T_X11_countBit_5 {Q : Option Value → ah_T → Prop} {h : ah_T} (hs : Sh h) (a0 : Nat) (x1 : Int32) (x2 : Int32) (x3 : Int32) (x4 : Int32) (hk_a0 : ah_k h a0 = 14) (ht : ((x2 < x4 → Q (some (.int x3)) h) ∧ (¬ x2 < x4 → (((Int32.ofNat (ah_n h a0)) ≤ x4 → Q (some (.int x3)) h) ∧ (¬ (Int32.ofNat (ah_n h a0)) ≤ x4 → (vp_in x4 (ah_n h a0)) ∧ Wp mX11_countBit Q 0 0 5 [some (.ref a0), some (.int x1), some (.int x2), some (.int (x3 + (((ah_i h a0 (Int32.toNatClampNeg x4)) >>> (x1 &&& 31)) &&& 1))), some (.int (x4 + 1))] [] h))))) : Wp mX11_countBit Q 0 0 5 [some (.ref a0), some (.int x1), some (.int x2), some (.int x3), some (.int x4)] [] h := by
  refine ab_iload (i := 4) dX11_countBit_5 rfl ?_
  refine ab_iload_n (i := 2) dX11_countBit_7 rfl rfl ?_
  refine ab_icmp_gt (tgt := 35) dX11_countBit_8 (by decide) (fun c1 => ?_) (fun c1 => ?_)
  · have ht := ht.1 c1
    refine ab_iload_n (i := 3) dX11_countBit_35 rfl rfl ?_
    exact ab_iret rfl dX11_countBit_36 (Nat.le_of_ble_eq_true rfl) (Nat.le_of_ble_eq_true rfl) ht
  · have ht := ht.2 c1
    refine ab_iload (i := 4) dX11_countBit_11 rfl ?_
    refine ab_aload_n (i := 0) dX11_countBit_13 rfl rfl ?_
    refine ab_alen 14 (by decide) hk_a0 rfl dX11_countBit_14 ?_
    refine ab_icmp_ge (tgt := 35) dX11_countBit_15 (by decide) (fun c2 => ?_) (fun c2 => ?_)
    · have ht := ht.1 c2
      refine ab_iload_n (i := 3) dX11_countBit_35 rfl rfl ?_
      exact ab_iret rfl dX11_countBit_36 (Nat.le_of_ble_eq_true rfl) (Nat.le_of_ble_eq_true rfl) ht
    · have ht := ht.2 c2
      refine ab_iload_n (i := 3) dX11_countBit_18 rfl rfl ?_
      refine ab_aload_n (i := 0) dX11_countBit_19 rfl rfl ?_
      refine ab_iload (i := 4) dX11_countBit_20 rfl ?_
      obtain ⟨hc3, ht⟩ := ht
      refine ab_iald hk_a0 hc3 dX11_countBit_22 ?_
      refine ab_iload_n (i := 1) dX11_countBit_23 rfl rfl ?_
      refine ab_ishr dX11_countBit_24 ?_
      refine ab_iconst (v := 1) dX11_countBit_25 (by decide) ?_
      refine ab_iand dX11_countBit_26 ?_
      refine ab_iadd dX11_countBit_27 ?_
      refine ab_istore_n (i := 3) (L' := [some (.ref a0), some (.int x1), some (.int x2), some (.int (x3 + (((ah_i h a0 (Int32.toNatClampNeg x4)) >>> (x1 &&& 31)) &&& 1))), some (.int x4)]) dX11_countBit_28 rfl (by exact (Nat.le_of_ble_eq_true rfl)) rfl rfl ?_
      refine ab_iinc (i := 4) (x := x4) (v := (x4 + 1)) (L' := [some (.ref a0), some (.int x1), some (.int x2), some (.int (x3 + (((ah_i h a0 (Int32.toNatClampNeg x4)) >>> (x1 &&& 31)) &&& 1))), some (.int (x4 + 1))]) dX11_countBit_29 rfl rfl (by exact (Nat.le_of_ble_eq_true rfl)) rfl rfl ?_
      refine ab_goto (tgt := 5) dX11_countBit_32 (by decide) ?_
      exact Wp.fewer (L' := [some (.ref a0), some (.int x1), some (.int x2), some (.int (x3 + (((ah_i h a0 (Int32.toNatClampNeg x4)) >>> (x1 &&& 31)) &&& 1))), some (.int (x4 + 1))]) (show ab_leL _ _ from ⟨rfl, ⟨rfl, ⟨rfl, ⟨rfl, ⟨rfl, trivial⟩⟩⟩⟩⟩) ht
set_option maxRecDepth 20000 in
theorem T_X11_countBit {Q : Option Value → ah_T → Prop} {h : ah_T} (hs : Sh h) (a0 : Nat) (x1 : Int32) (x2 : Int32) (hk_a0 : ah_k h a0 = 14) (ht : Wp mX11_countBit Q 0 0 5 [some (.ref a0), some (.int x1), some (.int x2), some (.int 0), some (.int 0)] [] h) : Mt mX11_countBit [.ref a0, .int x1, .int x2] h Q := by
  refine Mt.ofWp rfl (by exact (Nat.le_of_ble_eq_true rfl)) (Wp.fewer (L' := [some (.ref a0), some (.int x1), some (.int x2), none, none]) (show ab_leL _ _ from ⟨rfl, ⟨rfl, ⟨rfl, trivial⟩⟩⟩) ?_)
  refine ab_iconst (v := 0) dX11_countBit_0 (by decide) ?_
  refine ab_istore_n (i := 3) (L' := [some (.ref a0), some (.int x1), some (.int x2), some (.int 0), none]) dX11_countBit_1 rfl (by exact (Nat.le_of_ble_eq_true rfl)) rfl rfl ?_
  refine ab_iconst (v := 0) dX11_countBit_2 (by decide) ?_
  refine ab_istore (i := 4) (L' := [some (.ref a0), some (.int x1), some (.int x2), some (.int 0), some (.int 0)]) dX11_countBit_3 (by exact (Nat.le_of_ble_eq_true rfl)) rfl rfl ?_
  exact Wp.fewer (L' := [some (.ref a0), some (.int x1), some (.int x2), some (.int 0), some (.int 0)]) (show ab_leL _ _ from ⟨rfl, ⟨rfl, ⟨rfl, ⟨rfl, ⟨rfl, trivial⟩⟩⟩⟩⟩) ht
theorem dX11_refuse_0 : decode cX11_refuse 0 = .ok (.aload_n 0, 1) := by decide +kernel
theorem dX11_refuse_1 : decode cX11_refuse 1 = .ok (.iload_n 1, 1) := by decide +kernel
theorem dX11_refuse_2 : decode cX11_refuse 2 = .ok (.putfield 109, 3) := by decide +kernel
theorem dX11_refuse_5 : decode cX11_refuse 5 = .ok (.iload_n 1, 1) := by decide +kernel
theorem dX11_refuse_6 : decode cX11_refuse 6 = .ok (.bipush (-3), 2) := by decide +kernel
theorem dX11_refuse_8 : decode cX11_refuse 8 = .ok (.if_icmp .lt 9, 3) := by decide +kernel
theorem dX11_refuse_11 : decode cX11_refuse 11 = .ok (.iconst (-1), 1) := by decide +kernel
theorem dX11_refuse_12 : decode cX11_refuse 12 = .ok (.iload_n 1, 1) := by decide +kernel
theorem dX11_refuse_13 : decode cX11_refuse 13 = .ok (.isub, 1) := by decide +kernel
theorem dX11_refuse_14 : decode cX11_refuse 14 = .ok (.goto 7, 3) := by decide +kernel
theorem dX11_refuse_17 : decode cX11_refuse 17 = .ok (.bipush (-2), 2) := by decide +kernel
theorem dX11_refuse_19 : decode cX11_refuse 19 = .ok (.iload_n 1, 1) := by decide +kernel
theorem dX11_refuse_20 : decode cX11_refuse 20 = .ok (.isub, 1) := by decide +kernel
theorem dX11_refuse_21 : decode cX11_refuse 21 = .ok (.istore_n 2, 1) := by decide +kernel
theorem dX11_refuse_22 : decode cX11_refuse 22 = .ok (.iload_n 2, 1) := by decide +kernel
theorem dX11_refuse_23 : decode cX11_refuse 23 = .ok (.ifCond .lt 22, 3) := by decide +kernel
theorem dX11_refuse_26 : decode cX11_refuse 26 = .ok (.iload_n 2, 1) := by decide +kernel
theorem dX11_refuse_27 : decode cX11_refuse 27 = .ok (.aload_n 0, 1) := by decide +kernel
theorem dX11_refuse_28 : decode cX11_refuse 28 = .ok (.getfield 24, 3) := by decide +kernel
theorem dX11_refuse_31 : decode cX11_refuse 31 = .ok (.arraylength, 1) := by decide +kernel
theorem dX11_refuse_32 : decode cX11_refuse 32 = .ok (.if_icmp .ge 13, 3) := by decide +kernel
theorem dX11_refuse_35 : decode cX11_refuse 35 = .ok (.aload_n 0, 1) := by decide +kernel
theorem dX11_refuse_36 : decode cX11_refuse 36 = .ok (.getfield 24, 3) := by decide +kernel
theorem dX11_refuse_39 : decode cX11_refuse 39 = .ok (.iload_n 2, 1) := by decide +kernel
theorem dX11_refuse_40 : decode cX11_refuse 40 = .ok (.dup2, 1) := by decide +kernel
theorem dX11_refuse_41 : decode cX11_refuse 41 = .ok (.iaload, 1) := by decide +kernel
theorem dX11_refuse_42 : decode cX11_refuse 42 = .ok (.iconst 1, 1) := by decide +kernel
theorem dX11_refuse_43 : decode cX11_refuse 43 = .ok (.iadd, 1) := by decide +kernel
theorem dX11_refuse_44 : decode cX11_refuse 44 = .ok (.iastore, 1) := by decide +kernel
theorem dX11_refuse_45 : decode cX11_refuse 45 = .ok (.iload_n 1, 1) := by decide +kernel
theorem dX11_refuse_46 : decode cX11_refuse 46 = .ok (.ireturn, 1) := by decide +kernel
set_option maxRecDepth 20000 in
theorem T_X11_refuse {Q : Option Value → ah_T → Prop} {h : ah_T} (hs : Sh h) (x1 : Int32) (ht : (∀ h1, h1 = ah_si h 0 17 x1 → ((x1 < (-3) → ((((-2) - x1) < 0 → Q (some (.int x1)) h1) ∧ (¬ ((-2) - x1) < 0 → (((Int32.ofNat (ah_n h1 18)) ≤ ((-2) - x1) → Q (some (.int x1)) h1) ∧ (¬ (Int32.ofNat (ah_n h1 18)) ≤ ((-2) - x1) → (vp_in ((-2) - x1) (ah_n h1 18)) ∧ (vp_in ((-2) - x1) (ah_n h1 18)) ∧ (∀ h9, h9 = ah_si h1 18 (Int32.toNatClampNeg ((-2) - x1)) ((ah_i h1 18 (Int32.toNatClampNeg ((-2) - x1))) + 1) → Q (some (.int x1)) h9)))))) ∧ (¬ x1 < (-3) → ((((-1) - x1) < 0 → Q (some (.int x1)) h1) ∧ (¬ ((-1) - x1) < 0 → (((Int32.ofNat (ah_n h1 18)) ≤ ((-1) - x1) → Q (some (.int x1)) h1) ∧ (¬ (Int32.ofNat (ah_n h1 18)) ≤ ((-1) - x1) → (vp_in ((-1) - x1) (ah_n h1 18)) ∧ (vp_in ((-1) - x1) (ah_n h1 18)) ∧ (∀ h16, h16 = ah_si h1 18 (Int32.toNatClampNeg ((-1) - x1)) ((ah_i h1 18 (Int32.toNatClampNeg ((-1) - x1))) + 1) → Q (some (.int x1)) h16))))))))) : Mt mX11_refuse [.ref 0, .int x1] h Q := by
  refine Mt.ofWp rfl (by exact (Nat.le_of_ble_eq_true rfl)) (Wp.fewer (L' := [some (.ref 0), some (.int x1), none]) (show ab_leL _ _ from ⟨rfl, ⟨rfl, trivial⟩⟩) ?_)
  refine ab_aload_n (i := 0) dX11_refuse_0 rfl rfl ?_
  refine ab_iload_n (i := 1) dX11_refuse_1 rfl rfl ?_
  refine ab_putI f_X11_109 (Or.inl rfl) rfl (sh_k hs 0 11 (by decide) rfl) rfl rfl dX11_refuse_2 ?_
  refine Wp.nm fun h1 e2 => ?_
  have ht := ht h1 e2
  have hs3 : Sh h1 := by rw [e2]; exact sh_si hs
  refine ab_iload_n (i := 1) dX11_refuse_5 rfl rfl ?_
  refine ab_bipush (v := (-3)) dX11_refuse_6 (by decide) ?_
  refine ab_icmp_lt (tgt := 17) dX11_refuse_8 (by decide) (fun c4 => ?_) (fun c4 => ?_)
  · have ht := ht.1 c4
    refine ab_bipush (v := (-2)) dX11_refuse_17 (by decide) ?_
    refine ab_iload_n (i := 1) dX11_refuse_19 rfl rfl ?_
    refine ab_isub dX11_refuse_20 ?_
    refine ab_istore_n (i := 2) (L' := [some (.ref 0), some (.int x1), some (.int ((-2) - x1))]) dX11_refuse_21 rfl (by exact (Nat.le_of_ble_eq_true rfl)) rfl rfl ?_
    refine ab_iload_n (i := 2) dX11_refuse_22 rfl rfl ?_
    refine ab_if_lt (tgt := 45) dX11_refuse_23 (by decide) (fun c5 => ?_) (fun c5 => ?_)
    · have ht := ht.1 c5
      refine ab_iload_n (i := 1) dX11_refuse_45 rfl rfl ?_
      exact ab_iret rfl dX11_refuse_46 (Nat.le_of_ble_eq_true rfl) (Nat.le_of_ble_eq_true rfl) ht
    · have ht := ht.2 c5
      refine ab_iload_n (i := 2) dX11_refuse_26 rfl rfl ?_
      refine ab_aload_n (i := 0) dX11_refuse_27 rfl rfl ?_
      refine ab_getR (b := 18) f_X11_24 rfl (sh_k hs3 0 11 (by decide) rfl) (sh_r hs3 3 rfl) dX11_refuse_28 ?_
      refine ab_alen 14 (by decide) (sh_k hs3 18 14 (by decide) rfl) rfl dX11_refuse_31 ?_
      refine ab_icmp_ge (tgt := 45) dX11_refuse_32 (by decide) (fun c6 => ?_) (fun c6 => ?_)
      · have ht := ht.1 c6
        refine ab_iload_n (i := 1) dX11_refuse_45 rfl rfl ?_
        exact ab_iret rfl dX11_refuse_46 (Nat.le_of_ble_eq_true rfl) (Nat.le_of_ble_eq_true rfl) ht
      · have ht := ht.2 c6
        refine ab_aload_n (i := 0) dX11_refuse_35 rfl rfl ?_
        refine ab_getR (b := 18) f_X11_24 rfl (sh_k hs3 0 11 (by decide) rfl) (sh_r hs3 3 rfl) dX11_refuse_36 ?_
        refine ab_iload_n (i := 2) dX11_refuse_39 rfl rfl ?_
        refine ab_dup2 dX11_refuse_40 rfl rfl ?_
        obtain ⟨hc7, ht⟩ := ht
        refine ab_iald (sh_k hs3 18 14 (by decide) rfl) hc7 dX11_refuse_41 ?_
        refine ab_iconst (v := 1) dX11_refuse_42 (by decide) ?_
        refine ab_iadd dX11_refuse_43 ?_
        obtain ⟨hc8, ht⟩ := ht
        refine ab_iast (sh_k hs3 18 14 (by decide) rfl) hc8 dX11_refuse_44 ?_
        refine Wp.nm fun h9 e10 => ?_
        have ht := ht h9 e10
        have hs11 : Sh h9 := by rw [e10]; exact sh_si hs3
        refine ab_iload_n (i := 1) dX11_refuse_45 rfl rfl ?_
        exact ab_iret rfl dX11_refuse_46 (Nat.le_of_ble_eq_true rfl) (Nat.le_of_ble_eq_true rfl) ht
  · have ht := ht.2 c4
    refine ab_iconst (v := (-1)) dX11_refuse_11 (by decide) ?_
    refine ab_iload_n (i := 1) dX11_refuse_12 rfl rfl ?_
    refine ab_isub dX11_refuse_13 ?_
    refine ab_goto (tgt := 21) dX11_refuse_14 (by decide) ?_
    refine ab_istore_n (i := 2) (L' := [some (.ref 0), some (.int x1), some (.int ((-1) - x1))]) dX11_refuse_21 rfl (by exact (Nat.le_of_ble_eq_true rfl)) rfl rfl ?_
    refine ab_iload_n (i := 2) dX11_refuse_22 rfl rfl ?_
    refine ab_if_lt (tgt := 45) dX11_refuse_23 (by decide) (fun c12 => ?_) (fun c12 => ?_)
    · have ht := ht.1 c12
      refine ab_iload_n (i := 1) dX11_refuse_45 rfl rfl ?_
      exact ab_iret rfl dX11_refuse_46 (Nat.le_of_ble_eq_true rfl) (Nat.le_of_ble_eq_true rfl) ht
    · have ht := ht.2 c12
      refine ab_iload_n (i := 2) dX11_refuse_26 rfl rfl ?_
      refine ab_aload_n (i := 0) dX11_refuse_27 rfl rfl ?_
      refine ab_getR (b := 18) f_X11_24 rfl (sh_k hs3 0 11 (by decide) rfl) (sh_r hs3 3 rfl) dX11_refuse_28 ?_
      refine ab_alen 14 (by decide) (sh_k hs3 18 14 (by decide) rfl) rfl dX11_refuse_31 ?_
      refine ab_icmp_ge (tgt := 45) dX11_refuse_32 (by decide) (fun c13 => ?_) (fun c13 => ?_)
      · have ht := ht.1 c13
        refine ab_iload_n (i := 1) dX11_refuse_45 rfl rfl ?_
        exact ab_iret rfl dX11_refuse_46 (Nat.le_of_ble_eq_true rfl) (Nat.le_of_ble_eq_true rfl) ht
      · have ht := ht.2 c13
        refine ab_aload_n (i := 0) dX11_refuse_35 rfl rfl ?_
        refine ab_getR (b := 18) f_X11_24 rfl (sh_k hs3 0 11 (by decide) rfl) (sh_r hs3 3 rfl) dX11_refuse_36 ?_
        refine ab_iload_n (i := 2) dX11_refuse_39 rfl rfl ?_
        refine ab_dup2 dX11_refuse_40 rfl rfl ?_
        obtain ⟨hc14, ht⟩ := ht
        refine ab_iald (sh_k hs3 18 14 (by decide) rfl) hc14 dX11_refuse_41 ?_
        refine ab_iconst (v := 1) dX11_refuse_42 (by decide) ?_
        refine ab_iadd dX11_refuse_43 ?_
        obtain ⟨hc15, ht⟩ := ht
        refine ab_iast (sh_k hs3 18 14 (by decide) rfl) hc15 dX11_refuse_44 ?_
        refine Wp.nm fun h16 e17 => ?_
        have ht := ht h16 e17
        have hs18 : Sh h16 := by rw [e17]; exact sh_si hs3
        refine ab_iload_n (i := 1) dX11_refuse_45 rfl rfl ?_
        exact ab_iret rfl dX11_refuse_46 (Nat.le_of_ble_eq_true rfl) (Nat.le_of_ble_eq_true rfl) ht
theorem dX11_grant_0 : decode cX11_grant 0 = .ok (.aload_n 0, 1) := by decide +kernel
theorem dX11_grant_1 : decode cX11_grant 1 = .ok (.iconst 0, 1) := by decide +kernel
theorem dX11_grant_2 : decode cX11_grant 2 = .ok (.putfield 109, 3) := by decide +kernel
theorem dX11_grant_5 : decode cX11_grant 5 = .ok (.iload_n 1, 1) := by decide +kernel
theorem dX11_grant_6 : decode cX11_grant 6 = .ok (.ireturn, 1) := by decide +kernel
set_option maxRecDepth 20000 in
theorem T_X11_grant {Q : Option Value → ah_T → Prop} {h : ah_T} (hs : Sh h) (x1 : Int32) (ht : (∀ h1, h1 = ah_si h 0 17 0 → Q (some (.int x1)) h1)) : Mt mX11_grant [.ref 0, .int x1] h Q := by
  refine Mt.ofWp rfl (by exact (Nat.le_of_ble_eq_true rfl)) (Wp.fewer (L' := [some (.ref 0), some (.int x1)]) (show ab_leL _ _ from ⟨rfl, ⟨rfl, trivial⟩⟩) ?_)
  refine ab_aload_n (i := 0) dX11_grant_0 rfl rfl ?_
  refine ab_iconst (v := 0) dX11_grant_1 (by decide) ?_
  refine ab_putI f_X11_109 (Or.inl rfl) rfl (sh_k hs 0 11 (by decide) rfl) rfl rfl dX11_grant_2 ?_
  refine Wp.nm fun h1 e2 => ?_
  have ht := ht h1 e2
  have hs3 : Sh h1 := by rw [e2]; exact sh_si hs
  refine ab_iload_n (i := 1) dX11_grant_5 rfl rfl ?_
  exact ab_iret rfl dX11_grant_6 (Nat.le_of_ble_eq_true rfl) (Nat.le_of_ble_eq_true rfl) ht
theorem dX11_change_0 : decode cX11_change 0 = .ok (.aload_n 0, 1) := by decide +kernel
theorem dX11_change_1 : decode cX11_change 1 = .ok (.iconst 1, 1) := by decide +kernel
theorem dX11_change_2 : decode cX11_change 2 = .ok (.putfield 116, 3) := by decide +kernel
theorem dX11_change_5 : decode cX11_change 5 = .ok (.aload_n 0, 1) := by decide +kernel
theorem dX11_change_6 : decode cX11_change 6 = .ok (.iload_n 1, 1) := by decide +kernel
theorem dX11_change_7 : decode cX11_change 7 = .ok (.invokevirtual 357, 3) := by decide +kernel
theorem dX11_change_10 : decode cX11_change 10 = .ok (.ireturn, 1) := by decide +kernel
set_option maxRecDepth 20000 in
theorem T_X11_change {Q : Option Value → ah_T → Prop} {h : ah_T} (hs : Sh h) (x1 : Int32) (ht : (∀ h1, h1 = ah_si h 0 19 1 → (Mt mX11_grant [.ref 0, .int x1] h1 (ab_qi fun v6 h4 => Sh h4 ∧ Q (some (.int v6)) h4)))) : Mt mX11_change [.ref 0, .int x1] h Q := by
  refine Mt.ofWp rfl (by exact (Nat.le_of_ble_eq_true rfl)) (Wp.fewer (L' := [some (.ref 0), some (.int x1)]) (show ab_leL _ _ from ⟨rfl, ⟨rfl, trivial⟩⟩) ?_)
  refine ab_aload_n (i := 0) dX11_change_0 rfl rfl ?_
  refine ab_iconst (v := 1) dX11_change_1 (by decide) ?_
  refine ab_putI f_X11_116 (Or.inl rfl) rfl (sh_k hs 0 11 (by decide) rfl) rfl rfl dX11_change_2 ?_
  refine Wp.nm fun h1 e2 => ?_
  have ht := ht h1 e2
  have hs3 : Sh h1 := by rw [e2]; exact sh_si hs
  refine ab_aload_n (i := 0) dX11_change_5 rfl rfl ?_
  refine ab_iload_n (i := 1) dX11_change_6 rfl rfl ?_
  refine ab_callV (b := 0) (As := [.int x1]) ht (Y_X11_grant) l_X11_357 in_X11_grant se_X11_grant (sh_k hs3 0 11 (by decide) rfl) (by decide) rfl rfl ⟨(Nat.le_of_ble_eq_true rfl), (Nat.le_of_ble_eq_true rfl), (Nat.le_of_ble_eq_true rfl), (Nat.le_of_ble_eq_true rfl)⟩ dX11_change_7 ?_
  rintro _ h4 ⟨v6, rfl, hs5, ht⟩
  exact ab_iret rfl dX11_change_10 (Nat.le_of_ble_eq_true rfl) (Nat.le_of_ble_eq_true rfl) ht
theorem dX11_write_0 : decode cX11_write 0 = .ok (.bipush 24, 2) := by decide +kernel
theorem dX11_write_2 : decode cX11_write 2 = .ok (.istore_n 2, 1) := by decide +kernel
theorem dX11_write_3 : decode cX11_write 3 = .ok (.iload_n 2, 1) := by decide +kernel
theorem dX11_write_4 : decode cX11_write 4 = .ok (.ifCond .lt 45, 3) := by decide +kernel
theorem dX11_write_7 : decode cX11_write 7 = .ok (.aload_n 0, 1) := by decide +kernel
theorem dX11_write_8 : decode cX11_write 8 = .ok (.getfield 96, 3) := by decide +kernel
theorem dX11_write_11 : decode cX11_write 11 = .ok (.sipush 400, 3) := by decide +kernel
theorem dX11_write_14 : decode cX11_write 14 = .ok (.if_icmp .ge 35, 3) := by decide +kernel
theorem dX11_write_17 : decode cX11_write 17 = .ok (.aload_n 0, 1) := by decide +kernel
theorem dX11_write_18 : decode cX11_write 18 = .ok (.getfield 20, 3) := by decide +kernel
theorem dX11_write_21 : decode cX11_write 21 = .ok (.aload_n 0, 1) := by decide +kernel
theorem dX11_write_22 : decode cX11_write 22 = .ok (.getfield 96, 3) := by decide +kernel
theorem dX11_write_25 : decode cX11_write 25 = .ok (.iload_n 1, 1) := by decide +kernel
theorem dX11_write_26 : decode cX11_write 26 = .ok (.iload_n 2, 1) := by decide +kernel
theorem dX11_write_27 : decode cX11_write 27 = .ok (.iushr, 1) := by decide +kernel
theorem dX11_write_28 : decode cX11_write 28 = .ok (.sipush 255, 3) := by decide +kernel
theorem dX11_write_31 : decode cX11_write 31 = .ok (.iand, 1) := by decide +kernel
theorem dX11_write_32 : decode cX11_write 32 = .ok (.iastore, 1) := by decide +kernel
theorem dX11_write_33 : decode cX11_write 33 = .ok (.aload_n 0, 1) := by decide +kernel
theorem dX11_write_34 : decode cX11_write 34 = .ok (.dup, 1) := by decide +kernel
theorem dX11_write_35 : decode cX11_write 35 = .ok (.getfield 96, 3) := by decide +kernel
theorem dX11_write_38 : decode cX11_write 38 = .ok (.iconst 1, 1) := by decide +kernel
theorem dX11_write_39 : decode cX11_write 39 = .ok (.iadd, 1) := by decide +kernel
theorem dX11_write_40 : decode cX11_write 40 = .ok (.putfield 96, 3) := by decide +kernel
theorem dX11_write_43 : decode cX11_write 43 = .ok (.iinc 2 (-8), 3) := by decide +kernel
theorem dX11_write_46 : decode cX11_write 46 = .ok (.goto (-43), 3) := by decide +kernel
theorem dX11_write_49 : decode cX11_write 49 = .ok (.return_, 1) := by decide +kernel
set_option maxRecDepth 20000 in
theorem T_X11_write_3 {Q : Option Value → ah_T → Prop} {h : ah_T} (hs : Sh h) (x1 : Int32) (x2 : Int32) (ht : ((x2 < 0 → Q none h) ∧ (¬ x2 < 0 → ((400 ≤ (ah_i h 0 13) → Q none h) ∧ (¬ 400 ≤ (ah_i h 0 13) → (vp_in (ah_i h 0 13) (ah_n h 17)) ∧ (∀ h4, h4 = ah_si h 17 (Int32.toNatClampNeg (ah_i h 0 13)) (((x1.toUInt32 >>> (x2.toUInt32 &&& Int32.toUInt32 31)).toInt32) &&& 255) → (∀ h7, h7 = ah_si h4 0 13 ((ah_i h4 0 13) + 1) → Wp mX11_write Q 0 0 3 [some (.ref 0), some (.int x1), some (.int (x2 + (-8)))] [] h7))))))) : Wp mX11_write Q 0 0 3 [some (.ref 0), some (.int x1), some (.int x2)] [] h := by
  refine ab_iload_n (i := 2) dX11_write_3 rfl rfl ?_
  refine ab_if_lt (tgt := 49) dX11_write_4 (by decide) (fun c1 => ?_) (fun c1 => ?_)
  · have ht := ht.1 c1
    exact ab_vret rfl dX11_write_49 (Nat.le_of_ble_eq_true rfl) (Nat.le_of_ble_eq_true rfl) ht
  · have ht := ht.2 c1
    refine ab_aload_n (i := 0) dX11_write_7 rfl rfl ?_
    refine ab_getI f_X11_96 rfl (sh_k hs 0 11 (by decide) rfl) dX11_write_8 ?_
    refine ab_sipush (v := 400) dX11_write_11 (by decide) ?_
    refine ab_icmp_ge (tgt := 49) dX11_write_14 (by decide) (fun c2 => ?_) (fun c2 => ?_)
    · have ht := ht.1 c2
      exact ab_vret rfl dX11_write_49 (Nat.le_of_ble_eq_true rfl) (Nat.le_of_ble_eq_true rfl) ht
    · have ht := ht.2 c2
      refine ab_aload_n (i := 0) dX11_write_17 rfl rfl ?_
      refine ab_getR (b := 17) f_X11_20 rfl (sh_k hs 0 11 (by decide) rfl) (sh_r hs 2 rfl) dX11_write_18 ?_
      refine ab_aload_n (i := 0) dX11_write_21 rfl rfl ?_
      refine ab_getI f_X11_96 rfl (sh_k hs 0 11 (by decide) rfl) dX11_write_22 ?_
      refine ab_iload_n (i := 1) dX11_write_25 rfl rfl ?_
      refine ab_iload_n (i := 2) dX11_write_26 rfl rfl ?_
      refine ab_iushr dX11_write_27 ?_
      refine ab_sipush (v := 255) dX11_write_28 (by decide) ?_
      refine ab_iand dX11_write_31 ?_
      obtain ⟨hc3, ht⟩ := ht
      refine ab_iast (sh_k hs 17 14 (by decide) rfl) hc3 dX11_write_32 ?_
      refine Wp.nm fun h4 e5 => ?_
      have ht := ht h4 e5
      have hs6 : Sh h4 := by rw [e5]; exact sh_si hs
      refine ab_aload_n (i := 0) dX11_write_33 rfl rfl ?_
      refine ab_dup dX11_write_34 rfl ?_
      refine ab_getI f_X11_96 rfl (sh_k hs6 0 11 (by decide) rfl) dX11_write_35 ?_
      refine ab_iconst (v := 1) dX11_write_38 (by decide) ?_
      refine ab_iadd dX11_write_39 ?_
      refine ab_putI f_X11_96 (Or.inl rfl) rfl (sh_k hs6 0 11 (by decide) rfl) rfl rfl dX11_write_40 ?_
      refine Wp.nm fun h7 e8 => ?_
      have ht := ht h7 e8
      have hs9 : Sh h7 := by rw [e8]; exact sh_si hs6
      refine ab_iinc (i := 2) (x := x2) (v := (x2 + (-8))) (L' := [some (.ref 0), some (.int x1), some (.int (x2 + (-8)))]) dX11_write_43 rfl rfl (by exact (Nat.le_of_ble_eq_true rfl)) rfl rfl ?_
      refine ab_goto (tgt := 3) dX11_write_46 (by decide) ?_
      exact Wp.fewer (L' := [some (.ref 0), some (.int x1), some (.int (x2 + (-8)))]) (show ab_leL _ _ from ⟨rfl, ⟨rfl, ⟨rfl, trivial⟩⟩⟩) ht
set_option maxRecDepth 20000 in
theorem T_X11_write {Q : Option Value → ah_T → Prop} {h : ah_T} (hs : Sh h) (x1 : Int32) (ht : Wp mX11_write Q 0 0 3 [some (.ref 0), some (.int x1), some (.int 24)] [] h) : Mt mX11_write [.ref 0, .int x1] h Q := by
  refine Mt.ofWp rfl (by exact (Nat.le_of_ble_eq_true rfl)) (Wp.fewer (L' := [some (.ref 0), some (.int x1), none]) (show ab_leL _ _ from ⟨rfl, ⟨rfl, trivial⟩⟩) ?_)
  refine ab_bipush (v := 24) dX11_write_0 (by decide) ?_
  refine ab_istore_n (i := 2) (L' := [some (.ref 0), some (.int x1), some (.int 24)]) dX11_write_2 rfl (by exact (Nat.le_of_ble_eq_true rfl)) rfl rfl ?_
  exact Wp.fewer (L' := [some (.ref 0), some (.int x1), some (.int 24)]) (show ab_leL _ _ from ⟨rfl, ⟨rfl, ⟨rfl, trivial⟩⟩⟩) ht
theorem dX11_takeTape_0 : decode cX11_takeTape 0 = .ok (.aload_n 0, 1) := by decide +kernel
theorem dX11_takeTape_1 : decode cX11_takeTape 1 = .ok (.getfield 96, 3) := by decide +kernel
theorem dX11_takeTape_4 : decode cX11_takeTape 4 = .ok (.istore_n 1, 1) := by decide +kernel
theorem dX11_takeTape_5 : decode cX11_takeTape 5 = .ok (.aload_n 0, 1) := by decide +kernel
theorem dX11_takeTape_6 : decode cX11_takeTape 6 = .ok (.iconst 0, 1) := by decide +kernel
theorem dX11_takeTape_7 : decode cX11_takeTape 7 = .ok (.putfield 96, 3) := by decide +kernel
theorem dX11_takeTape_10 : decode cX11_takeTape 10 = .ok (.iload_n 1, 1) := by decide +kernel
theorem dX11_takeTape_11 : decode cX11_takeTape 11 = .ok (.ireturn, 1) := by decide +kernel
set_option maxRecDepth 20000 in
theorem T_X11_takeTape {Q : Option Value → ah_T → Prop} {h : ah_T} (hs : Sh h)  (ht : (∀ h1, h1 = ah_si h 0 13 0 → Q (some (.int (ah_i h 0 13))) h1)) : Mt mX11_takeTape [.ref 0] h Q := by
  refine Mt.ofWp rfl (by exact (Nat.le_of_ble_eq_true rfl)) (Wp.fewer (L' := [some (.ref 0), none]) (show ab_leL _ _ from ⟨rfl, trivial⟩) ?_)
  refine ab_aload_n (i := 0) dX11_takeTape_0 rfl rfl ?_
  refine ab_getI f_X11_96 rfl (sh_k hs 0 11 (by decide) rfl) dX11_takeTape_1 ?_
  refine ab_istore_n (i := 1) (L' := [some (.ref 0), some (.int (ah_i h 0 13))]) dX11_takeTape_4 rfl (by exact (Nat.le_of_ble_eq_true rfl)) rfl rfl ?_
  refine ab_aload_n (i := 0) dX11_takeTape_5 rfl rfl ?_
  refine ab_iconst (v := 0) dX11_takeTape_6 (by decide) ?_
  refine ab_putI f_X11_96 (Or.inl rfl) rfl (sh_k hs 0 11 (by decide) rfl) rfl rfl dX11_takeTape_7 ?_
  refine Wp.nm fun h1 e2 => ?_
  have ht := ht h1 e2
  have hs3 : Sh h1 := by rw [e2]; exact sh_si hs
  refine ab_iload_n (i := 1) dX11_takeTape_10 rfl rfl ?_
  exact ab_iret rfl dX11_takeTape_11 (Nat.le_of_ble_eq_true rfl) (Nat.le_of_ble_eq_true rfl) ht
theorem dX11_look_0 : decode cX11_look 0 = .ok (.aload_n 0, 1) := by decide +kernel
theorem dX11_look_1 : decode cX11_look 1 = .ok (.getfield 116, 3) := by decide +kernel
theorem dX11_look_4 : decode cX11_look 4 = .ok (.ifCond .ne 4, 3) := by decide +kernel
theorem dX11_look_7 : decode cX11_look 7 = .ok (.return_, 1) := by decide +kernel
theorem dX11_look_8 : decode cX11_look 8 = .ok (.aload_n 0, 1) := by decide +kernel
theorem dX11_look_9 : decode cX11_look 9 = .ok (.getfield 112, 3) := by decide +kernel
theorem dX11_look_12 : decode cX11_look 12 = .ok (.ifCond .eq 10, 3) := by decide +kernel
theorem dX11_look_15 : decode cX11_look 15 = .ok (.aload_n 0, 1) := by decide +kernel
theorem dX11_look_16 : decode cX11_look 16 = .ok (.getfield 49, 3) := by decide +kernel
theorem dX11_look_19 : decode cX11_look 19 = .ok (.invokevirtual 363, 3) := by decide +kernel
theorem dX11_look_22 : decode cX11_look 22 = .ok (.aload_n 0, 1) := by decide +kernel
theorem dX11_look_23 : decode cX11_look 23 = .ok (.getfield 58, 3) := by decide +kernel
theorem dX11_look_26 : decode cX11_look 26 = .ok (.aload_n 0, 1) := by decide +kernel
theorem dX11_look_27 : decode cX11_look 27 = .ok (.getfield 112, 3) := by decide +kernel
theorem dX11_look_30 : decode cX11_look 30 = .ok (.invokevirtual 366, 3) := by decide +kernel
theorem dX11_look_33 : decode cX11_look 33 = .ok (.aload_n 0, 1) := by decide +kernel
theorem dX11_look_34 : decode cX11_look 34 = .ok (.getfield 67, 3) := by decide +kernel
theorem dX11_look_37 : decode cX11_look 37 = .ok (.invokevirtual 370, 3) := by decide +kernel
theorem dX11_look_40 : decode cX11_look 40 = .ok (.aload_n 0, 1) := by decide +kernel
theorem dX11_look_41 : decode cX11_look 41 = .ok (.getfield 76, 3) := by decide +kernel
theorem dX11_look_44 : decode cX11_look 44 = .ok (.invokevirtual 373, 3) := by decide +kernel
theorem dX11_look_47 : decode cX11_look 47 = .ok (.aload_n 0, 1) := by decide +kernel
theorem dX11_look_48 : decode cX11_look 48 = .ok (.getfield 85, 3) := by decide +kernel
theorem dX11_look_51 : decode cX11_look 51 = .ok (.invokevirtual 376, 3) := by decide +kernel
theorem dX11_look_54 : decode cX11_look 54 = .ok (.aload_n 0, 1) := by decide +kernel
theorem dX11_look_55 : decode cX11_look 55 = .ok (.getfield 92, 3) := by decide +kernel
theorem dX11_look_58 : decode cX11_look 58 = .ok (.invokevirtual 377, 3) := by decide +kernel
theorem dX11_look_61 : decode cX11_look 61 = .ok (.aload_n 0, 1) := by decide +kernel
theorem dX11_look_62 : decode cX11_look 62 = .ok (.iconst 0, 1) := by decide +kernel
theorem dX11_look_63 : decode cX11_look 63 = .ok (.putfield 116, 3) := by decide +kernel
theorem dX11_look_66 : decode cX11_look 66 = .ok (.aload_n 0, 1) := by decide +kernel
theorem dX11_look_67 : decode cX11_look 67 = .ok (.iconst 0, 1) := by decide +kernel
theorem dX11_look_68 : decode cX11_look 68 = .ok (.putfield 112, 3) := by decide +kernel
theorem dX11_look_71 : decode cX11_look 71 = .ok (.return_, 1) := by decide +kernel
set_option maxRecDepth 20000 in
theorem T_X11_look {Q : Option Value → ah_T → Prop} {h : ah_T} (hs : Sh h)  (ht : ((¬ (ah_i h 0 19) = 0 → (((ah_i h 0 18) = 0 → (Mt mX8_heed [.ref 38, .int (ah_i h 0 18)] h (ab_qv fun h3 => Sh h3 ∧ (Mt mX3_load [.ref 43] h3 (ab_qv fun h6 => Sh h6 ∧ (Mt mX0_forget [.ref 54] h6 (ab_qv fun h9 => Sh h9 ∧ (Mt mX1_forget [.ref 62] h9 (ab_qv fun h12 => Sh h12 ∧ (Mt mX4_forget [.ref 74] h12 (ab_qv fun h15 => Sh h15 ∧ (∀ h18, h18 = ah_si h15 0 19 0 → (∀ h21, h21 = ah_si h18 0 18 0 → Q none h21))))))))))))) ∧ (¬ (ah_i h 0 18) = 0 → (Mt mX6_survey [.ref 29] h (ab_qv fun h24 => Sh h24 ∧ (Mt mX8_heed [.ref 38, .int (ah_i h24 0 18)] h24 (ab_qv fun h27 => Sh h27 ∧ (Mt mX3_load [.ref 43] h27 (ab_qv fun h30 => Sh h30 ∧ (Mt mX0_forget [.ref 54] h30 (ab_qv fun h33 => Sh h33 ∧ (Mt mX1_forget [.ref 62] h33 (ab_qv fun h36 => Sh h36 ∧ (Mt mX4_forget [.ref 74] h36 (ab_qv fun h39 => Sh h39 ∧ (∀ h42, h42 = ah_si h39 0 19 0 → (∀ h45, h45 = ah_si h42 0 18 0 → Q none h45))))))))))))))))) ∧ ((ah_i h 0 19) = 0 → Q none h))) : Mt mX11_look [.ref 0] h Q := by
  refine Mt.ofWp rfl (by exact (Nat.le_of_ble_eq_true rfl)) (Wp.fewer (L' := [some (.ref 0)]) (show ab_leL _ _ from ⟨rfl, trivial⟩) ?_)
  refine ab_aload_n (i := 0) dX11_look_0 rfl rfl ?_
  refine ab_getI f_X11_116 rfl (sh_k hs 0 11 (by decide) rfl) dX11_look_1 ?_
  refine ab_if_ne (tgt := 8) dX11_look_4 (by decide) (fun c1 => ?_) (fun c1 => ?_)
  · have ht := ht.1 c1
    refine ab_aload_n (i := 0) dX11_look_8 rfl rfl ?_
    refine ab_getI f_X11_112 rfl (sh_k hs 0 11 (by decide) rfl) dX11_look_9 ?_
    refine ab_if_eq (tgt := 22) dX11_look_12 (by decide) (fun c2 => ?_) (fun c2 => ?_)
    · have ht := ht.1 c2
      refine ab_aload_n (i := 0) dX11_look_22 rfl rfl ?_
      refine ab_getR (b := 38) f_X11_58 rfl (sh_k hs 0 11 (by decide) rfl) (sh_r hs 8 rfl) dX11_look_23 ?_
      refine ab_aload_n (i := 0) dX11_look_26 rfl rfl ?_
      refine ab_getI f_X11_112 rfl (sh_k hs 0 11 (by decide) rfl) dX11_look_27 ?_
      refine ab_callV (b := 38) (As := [.int (ah_i h 0 18)]) ht (Y_X8_heed) l_X11_366 in_X8_heed se_X8_heed (sh_k hs 38 8 (by decide) rfl) (by decide) rfl rfl ⟨(Nat.le_of_ble_eq_true rfl), (Nat.le_of_ble_eq_true rfl), (Nat.le_of_ble_eq_true rfl), (Nat.le_of_ble_eq_true rfl)⟩ dX11_look_30 ?_
      rintro _ h3 ⟨rfl, hs4, ht⟩
      refine ab_aload_n (i := 0) dX11_look_33 rfl rfl ?_
      refine ab_getR (b := 43) f_X11_67 rfl (sh_k hs4 0 11 (by decide) rfl) (sh_r hs4 9 rfl) dX11_look_34 ?_
      refine ab_callV (b := 43) (As := []) ht (Y_X3_load) l_X11_370 in_X3_load se_X3_load (sh_k hs4 43 3 (by decide) rfl) (by decide) rfl rfl ⟨(Nat.le_of_ble_eq_true rfl), (Nat.le_of_ble_eq_true rfl), (Nat.le_of_ble_eq_true rfl), (Nat.le_of_ble_eq_true rfl)⟩ dX11_look_37 ?_
      rintro _ h6 ⟨rfl, hs7, ht⟩
      refine ab_aload_n (i := 0) dX11_look_40 rfl rfl ?_
      refine ab_getR (b := 54) f_X11_76 rfl (sh_k hs7 0 11 (by decide) rfl) (sh_r hs7 10 rfl) dX11_look_41 ?_
      refine ab_callV (b := 54) (As := []) ht (Y_X0_forget) l_X11_373 in_X0_forget se_X0_forget (sh_k hs7 54 0 (by decide) rfl) (by decide) rfl rfl ⟨(Nat.le_of_ble_eq_true rfl), (Nat.le_of_ble_eq_true rfl), (Nat.le_of_ble_eq_true rfl), (Nat.le_of_ble_eq_true rfl)⟩ dX11_look_44 ?_
      rintro _ h9 ⟨rfl, hs10, ht⟩
      refine ab_aload_n (i := 0) dX11_look_47 rfl rfl ?_
      refine ab_getR (b := 62) f_X11_85 rfl (sh_k hs10 0 11 (by decide) rfl) (sh_r hs10 11 rfl) dX11_look_48 ?_
      refine ab_callV (b := 62) (As := []) ht (Y_X1_forget) l_X11_376 in_X1_forget se_X1_forget (sh_k hs10 62 1 (by decide) rfl) (by decide) rfl rfl ⟨(Nat.le_of_ble_eq_true rfl), (Nat.le_of_ble_eq_true rfl), (Nat.le_of_ble_eq_true rfl), (Nat.le_of_ble_eq_true rfl)⟩ dX11_look_51 ?_
      rintro _ h12 ⟨rfl, hs13, ht⟩
      refine ab_aload_n (i := 0) dX11_look_54 rfl rfl ?_
      refine ab_getR (b := 74) f_X11_92 rfl (sh_k hs13 0 11 (by decide) rfl) (sh_r hs13 12 rfl) dX11_look_55 ?_
      refine ab_callV (b := 74) (As := []) ht (Y_X4_forget) l_X11_377 in_X4_forget se_X4_forget (sh_k hs13 74 4 (by decide) rfl) (by decide) rfl rfl ⟨(Nat.le_of_ble_eq_true rfl), (Nat.le_of_ble_eq_true rfl), (Nat.le_of_ble_eq_true rfl), (Nat.le_of_ble_eq_true rfl)⟩ dX11_look_58 ?_
      rintro _ h15 ⟨rfl, hs16, ht⟩
      refine ab_aload_n (i := 0) dX11_look_61 rfl rfl ?_
      refine ab_iconst (v := 0) dX11_look_62 (by decide) ?_
      refine ab_putI f_X11_116 (Or.inl rfl) rfl (sh_k hs16 0 11 (by decide) rfl) rfl rfl dX11_look_63 ?_
      refine Wp.nm fun h18 e19 => ?_
      have ht := ht h18 e19
      have hs20 : Sh h18 := by rw [e19]; exact sh_si hs16
      refine ab_aload_n (i := 0) dX11_look_66 rfl rfl ?_
      refine ab_iconst (v := 0) dX11_look_67 (by decide) ?_
      refine ab_putI f_X11_112 (Or.inl rfl) rfl (sh_k hs20 0 11 (by decide) rfl) rfl rfl dX11_look_68 ?_
      refine Wp.nm fun h21 e22 => ?_
      have ht := ht h21 e22
      have hs23 : Sh h21 := by rw [e22]; exact sh_si hs20
      exact ab_vret rfl dX11_look_71 (Nat.le_of_ble_eq_true rfl) (Nat.le_of_ble_eq_true rfl) ht
    · have ht := ht.2 c2
      refine ab_aload_n (i := 0) dX11_look_15 rfl rfl ?_
      refine ab_getR (b := 29) f_X11_49 rfl (sh_k hs 0 11 (by decide) rfl) (sh_r hs 7 rfl) dX11_look_16 ?_
      refine ab_callV (b := 29) (As := []) ht (Y_X6_survey) l_X11_363 in_X6_survey se_X6_survey (sh_k hs 29 6 (by decide) rfl) (by decide) rfl rfl ⟨(Nat.le_of_ble_eq_true rfl), (Nat.le_of_ble_eq_true rfl), (Nat.le_of_ble_eq_true rfl), (Nat.le_of_ble_eq_true rfl)⟩ dX11_look_19 ?_
      rintro _ h24 ⟨rfl, hs25, ht⟩
      refine ab_aload_n (i := 0) dX11_look_22 rfl rfl ?_
      refine ab_getR (b := 38) f_X11_58 rfl (sh_k hs25 0 11 (by decide) rfl) (sh_r hs25 8 rfl) dX11_look_23 ?_
      refine ab_aload_n (i := 0) dX11_look_26 rfl rfl ?_
      refine ab_getI f_X11_112 rfl (sh_k hs25 0 11 (by decide) rfl) dX11_look_27 ?_
      refine ab_callV (b := 38) (As := [.int (ah_i h24 0 18)]) ht (Y_X8_heed) l_X11_366 in_X8_heed se_X8_heed (sh_k hs25 38 8 (by decide) rfl) (by decide) rfl rfl ⟨(Nat.le_of_ble_eq_true rfl), (Nat.le_of_ble_eq_true rfl), (Nat.le_of_ble_eq_true rfl), (Nat.le_of_ble_eq_true rfl)⟩ dX11_look_30 ?_
      rintro _ h27 ⟨rfl, hs28, ht⟩
      refine ab_aload_n (i := 0) dX11_look_33 rfl rfl ?_
      refine ab_getR (b := 43) f_X11_67 rfl (sh_k hs28 0 11 (by decide) rfl) (sh_r hs28 9 rfl) dX11_look_34 ?_
      refine ab_callV (b := 43) (As := []) ht (Y_X3_load) l_X11_370 in_X3_load se_X3_load (sh_k hs28 43 3 (by decide) rfl) (by decide) rfl rfl ⟨(Nat.le_of_ble_eq_true rfl), (Nat.le_of_ble_eq_true rfl), (Nat.le_of_ble_eq_true rfl), (Nat.le_of_ble_eq_true rfl)⟩ dX11_look_37 ?_
      rintro _ h30 ⟨rfl, hs31, ht⟩
      refine ab_aload_n (i := 0) dX11_look_40 rfl rfl ?_
      refine ab_getR (b := 54) f_X11_76 rfl (sh_k hs31 0 11 (by decide) rfl) (sh_r hs31 10 rfl) dX11_look_41 ?_
      refine ab_callV (b := 54) (As := []) ht (Y_X0_forget) l_X11_373 in_X0_forget se_X0_forget (sh_k hs31 54 0 (by decide) rfl) (by decide) rfl rfl ⟨(Nat.le_of_ble_eq_true rfl), (Nat.le_of_ble_eq_true rfl), (Nat.le_of_ble_eq_true rfl), (Nat.le_of_ble_eq_true rfl)⟩ dX11_look_44 ?_
      rintro _ h33 ⟨rfl, hs34, ht⟩
      refine ab_aload_n (i := 0) dX11_look_47 rfl rfl ?_
      refine ab_getR (b := 62) f_X11_85 rfl (sh_k hs34 0 11 (by decide) rfl) (sh_r hs34 11 rfl) dX11_look_48 ?_
      refine ab_callV (b := 62) (As := []) ht (Y_X1_forget) l_X11_376 in_X1_forget se_X1_forget (sh_k hs34 62 1 (by decide) rfl) (by decide) rfl rfl ⟨(Nat.le_of_ble_eq_true rfl), (Nat.le_of_ble_eq_true rfl), (Nat.le_of_ble_eq_true rfl), (Nat.le_of_ble_eq_true rfl)⟩ dX11_look_51 ?_
      rintro _ h36 ⟨rfl, hs37, ht⟩
      refine ab_aload_n (i := 0) dX11_look_54 rfl rfl ?_
      refine ab_getR (b := 74) f_X11_92 rfl (sh_k hs37 0 11 (by decide) rfl) (sh_r hs37 12 rfl) dX11_look_55 ?_
      refine ab_callV (b := 74) (As := []) ht (Y_X4_forget) l_X11_377 in_X4_forget se_X4_forget (sh_k hs37 74 4 (by decide) rfl) (by decide) rfl rfl ⟨(Nat.le_of_ble_eq_true rfl), (Nat.le_of_ble_eq_true rfl), (Nat.le_of_ble_eq_true rfl), (Nat.le_of_ble_eq_true rfl)⟩ dX11_look_58 ?_
      rintro _ h39 ⟨rfl, hs40, ht⟩
      refine ab_aload_n (i := 0) dX11_look_61 rfl rfl ?_
      refine ab_iconst (v := 0) dX11_look_62 (by decide) ?_
      refine ab_putI f_X11_116 (Or.inl rfl) rfl (sh_k hs40 0 11 (by decide) rfl) rfl rfl dX11_look_63 ?_
      refine Wp.nm fun h42 e43 => ?_
      have ht := ht h42 e43
      have hs44 : Sh h42 := by rw [e43]; exact sh_si hs40
      refine ab_aload_n (i := 0) dX11_look_66 rfl rfl ?_
      refine ab_iconst (v := 0) dX11_look_67 (by decide) ?_
      refine ab_putI f_X11_112 (Or.inl rfl) rfl (sh_k hs44 0 11 (by decide) rfl) rfl rfl dX11_look_68 ?_
      refine Wp.nm fun h45 e46 => ?_
      have ht := ht h45 e46
      have hs47 : Sh h45 := by rw [e46]; exact sh_si hs44
      exact ab_vret rfl dX11_look_71 (Nat.le_of_ble_eq_true rfl) (Nat.le_of_ble_eq_true rfl) ht
  · have ht := ht.2 c1
    exact ab_vret rfl dX11_look_7 (Nat.le_of_ble_eq_true rfl) (Nat.le_of_ble_eq_true rfl) ht
theorem dX11_runClause_0 : decode cX11_runClause 0 = .ok (.aload_n 1, 1) := by decide +kernel
theorem dX11_runClause_1 : decode cX11_runClause 1 = .ok (.iload_n 2, 1) := by decide +kernel
theorem dX11_runClause_2 : decode cX11_runClause 2 = .ok (.iconst 4, 1) := by decide +kernel
theorem dX11_runClause_3 : decode cX11_runClause 3 = .ok (.invokevirtual 378, 3) := by decide +kernel
theorem dX11_runClause_6 : decode cX11_runClause 6 = .ok (.istore 4, 2) := by decide +kernel
theorem dX11_runClause_8 : decode cX11_runClause 8 = .ok (.aload_n 1, 1) := by decide +kernel
theorem dX11_runClause_9 : decode cX11_runClause 9 = .ok (.iload_n 2, 1) := by decide +kernel
theorem dX11_runClause_10 : decode cX11_runClause 10 = .ok (.iconst 5, 1) := by decide +kernel
theorem dX11_runClause_11 : decode cX11_runClause 11 = .ok (.invokevirtual 378, 3) := by decide +kernel
theorem dX11_runClause_14 : decode cX11_runClause 14 = .ok (.istore 5, 2) := by decide +kernel
theorem dX11_runClause_16 : decode cX11_runClause 16 = .ok (.iconst 0, 1) := by decide +kernel
theorem dX11_runClause_17 : decode cX11_runClause 17 = .ok (.istore 6, 2) := by decide +kernel
theorem dX11_runClause_19 : decode cX11_runClause 19 = .ok (.iconst 0, 1) := by decide +kernel
theorem dX11_runClause_20 : decode cX11_runClause 20 = .ok (.istore 7, 2) := by decide +kernel
theorem dX11_runClause_22 : decode cX11_runClause 22 = .ok (.iload 7, 2) := by decide +kernel
theorem dX11_runClause_24 : decode cX11_runClause 24 = .ok (.iload 4, 2) := by decide +kernel
theorem dX11_runClause_26 : decode cX11_runClause 26 = .ok (.if_icmp .ge 179, 3) := by decide +kernel
theorem dX11_runClause_29 : decode cX11_runClause 29 = .ok (.aload_n 0, 1) := by decide +kernel
theorem dX11_runClause_30 : decode cX11_runClause 30 = .ok (.getfield 10, 3) := by decide +kernel
theorem dX11_runClause_33 : decode cX11_runClause 33 = .ok (.getfield 184, 3) := by decide +kernel
theorem dX11_runClause_36 : decode cX11_runClause 36 = .ok (.getfield 187, 3) := by decide +kernel
theorem dX11_runClause_39 : decode cX11_runClause 39 = .ok (.istore 8, 2) := by decide +kernel
theorem dX11_runClause_41 : decode cX11_runClause 41 = .ok (.aload_n 0, 1) := by decide +kernel
theorem dX11_runClause_42 : decode cX11_runClause 42 = .ok (.getfield 40, 3) := by decide +kernel
theorem dX11_runClause_45 : decode cX11_runClause 45 = .ok (.getfield 381, 3) := by decide +kernel
theorem dX11_runClause_48 : decode cX11_runClause 48 = .ok (.bipush 8, 2) := by decide +kernel
theorem dX11_runClause_50 : decode cX11_runClause 50 = .ok (.aload_n 0, 1) := by decide +kernel
theorem dX11_runClause_51 : decode cX11_runClause 51 = .ok (.getfield 10, 3) := by decide +kernel
theorem dX11_runClause_54 : decode cX11_runClause 54 = .ok (.getfield 175, 3) := by decide +kernel
theorem dX11_runClause_57 : decode cX11_runClause 57 = .ok (.getfield 187, 3) := by decide +kernel
theorem dX11_runClause_60 : decode cX11_runClause 60 = .ok (.iastore, 1) := by decide +kernel
theorem dX11_runClause_61 : decode cX11_runClause 61 = .ok (.aload_n 0, 1) := by decide +kernel
theorem dX11_runClause_62 : decode cX11_runClause 62 = .ok (.getfield 40, 3) := by decide +kernel
theorem dX11_runClause_65 : decode cX11_runClause 65 = .ok (.getfield 381, 3) := by decide +kernel
theorem dX11_runClause_68 : decode cX11_runClause 68 = .ok (.bipush 9, 2) := by decide +kernel
theorem dX11_runClause_70 : decode cX11_runClause 70 = .ok (.iload 8, 2) := by decide +kernel
theorem dX11_runClause_72 : decode cX11_runClause 72 = .ok (.iastore, 1) := by decide +kernel
theorem dX11_runClause_73 : decode cX11_runClause 73 = .ok (.aload_n 0, 1) := by decide +kernel
theorem dX11_runClause_74 : decode cX11_runClause 74 = .ok (.getfield 40, 3) := by decide +kernel
theorem dX11_runClause_77 : decode cX11_runClause 77 = .ok (.getfield 381, 3) := by decide +kernel
theorem dX11_runClause_80 : decode cX11_runClause 80 = .ok (.bipush 10, 2) := by decide +kernel
theorem dX11_runClause_82 : decode cX11_runClause 82 = .ok (.iload 8, 2) := by decide +kernel
theorem dX11_runClause_84 : decode cX11_runClause 84 = .ok (.iload_n 3, 1) := by decide +kernel
theorem dX11_runClause_85 : decode cX11_runClause 85 = .ok (.if_icmp .ne 7, 3) := by decide +kernel
theorem dX11_runClause_88 : decode cX11_runClause 88 = .ok (.iconst (-1), 1) := by decide +kernel
theorem dX11_runClause_89 : decode cX11_runClause 89 = .ok (.goto 18, 3) := by decide +kernel
theorem dX11_runClause_92 : decode cX11_runClause 92 = .ok (.aload_n 0, 1) := by decide +kernel
theorem dX11_runClause_93 : decode cX11_runClause 93 = .ok (.getfield 10, 3) := by decide +kernel
theorem dX11_runClause_96 : decode cX11_runClause 96 = .ok (.getfield 184, 3) := by decide +kernel
theorem dX11_runClause_99 : decode cX11_runClause 99 = .ok (.iload 8, 2) := by decide +kernel
theorem dX11_runClause_101 : decode cX11_runClause 101 = .ok (.iconst 1, 1) := by decide +kernel
theorem dX11_runClause_102 : decode cX11_runClause 102 = .ok (.isub, 1) := by decide +kernel
theorem dX11_runClause_103 : decode cX11_runClause 103 = .ok (.iconst 1, 1) := by decide +kernel
theorem dX11_runClause_104 : decode cX11_runClause 104 = .ok (.invokevirtual 163, 3) := by decide +kernel
theorem dX11_runClause_107 : decode cX11_runClause 107 = .ok (.iastore, 1) := by decide +kernel
theorem dX11_runClause_108 : decode cX11_runClause 108 = .ok (.aload_n 0, 1) := by decide +kernel
theorem dX11_runClause_109 : decode cX11_runClause 109 = .ok (.getfield 40, 3) := by decide +kernel
theorem dX11_runClause_112 : decode cX11_runClause 112 = .ok (.getfield 381, 3) := by decide +kernel
theorem dX11_runClause_115 : decode cX11_runClause 115 = .ok (.bipush 11, 2) := by decide +kernel
theorem dX11_runClause_117 : decode cX11_runClause 117 = .ok (.iload 8, 2) := by decide +kernel
theorem dX11_runClause_119 : decode cX11_runClause 119 = .ok (.iload_n 3, 1) := by decide +kernel
theorem dX11_runClause_120 : decode cX11_runClause 120 = .ok (.isub, 1) := by decide +kernel
theorem dX11_runClause_121 : decode cX11_runClause 121 = .ok (.iastore, 1) := by decide +kernel
theorem dX11_runClause_122 : decode cX11_runClause 122 = .ok (.aload_n 0, 1) := by decide +kernel
theorem dX11_runClause_123 : decode cX11_runClause 123 = .ok (.getfield 40, 3) := by decide +kernel
theorem dX11_runClause_126 : decode cX11_runClause 126 = .ok (.getfield 381, 3) := by decide +kernel
theorem dX11_runClause_129 : decode cX11_runClause 129 = .ok (.bipush 12, 2) := by decide +kernel
theorem dX11_runClause_131 : decode cX11_runClause 131 = .ok (.iload 6, 2) := by decide +kernel
theorem dX11_runClause_133 : decode cX11_runClause 133 = .ok (.iastore, 1) := by decide +kernel
theorem dX11_runClause_134 : decode cX11_runClause 134 = .ok (.aload_n 0, 1) := by decide +kernel
theorem dX11_runClause_135 : decode cX11_runClause 135 = .ok (.getfield 40, 3) := by decide +kernel
theorem dX11_runClause_138 : decode cX11_runClause 138 = .ok (.getfield 381, 3) := by decide +kernel
theorem dX11_runClause_141 : decode cX11_runClause 141 = .ok (.bipush 6, 2) := by decide +kernel
theorem dX11_runClause_143 : decode cX11_runClause 143 = .ok (.aload_n 0, 1) := by decide +kernel
theorem dX11_runClause_144 : decode cX11_runClause 144 = .ok (.getfield 10, 3) := by decide +kernel
theorem dX11_runClause_147 : decode cX11_runClause 147 = .ok (.getfield 196, 3) := by decide +kernel
theorem dX11_runClause_150 : decode cX11_runClause 150 = .ok (.iconst 0, 1) := by decide +kernel
theorem dX11_runClause_151 : decode cX11_runClause 151 = .ok (.iaload, 1) := by decide +kernel
theorem dX11_runClause_152 : decode cX11_runClause 152 = .ok (.iastore, 1) := by decide +kernel
theorem dX11_runClause_153 : decode cX11_runClause 153 = .ok (.iload 5, 2) := by decide +kernel
theorem dX11_runClause_155 : decode cX11_runClause 155 = .ok (.iconst (-1), 1) := by decide +kernel
theorem dX11_runClause_156 : decode cX11_runClause 156 = .ok (.if_icmp .eq 22, 3) := by decide +kernel
theorem dX11_runClause_159 : decode cX11_runClause 159 = .ok (.aload_n 0, 1) := by decide +kernel
theorem dX11_runClause_160 : decode cX11_runClause 160 = .ok (.getfield 40, 3) := by decide +kernel
theorem dX11_runClause_163 : decode cX11_runClause 163 = .ok (.aload_n 1, 1) := by decide +kernel
theorem dX11_runClause_164 : decode cX11_runClause 164 = .ok (.getfield 384, 3) := by decide +kernel
theorem dX11_runClause_167 : decode cX11_runClause 167 = .ok (.iload 5, 2) := by decide +kernel
theorem dX11_runClause_169 : decode cX11_runClause 169 = .ok (.invokevirtual 387, 3) := by decide +kernel
theorem dX11_runClause_172 : decode cX11_runClause 172 = .ok (.ifCond .ne 6, 3) := by decide +kernel
theorem dX11_runClause_175 : decode cX11_runClause 175 = .ok (.goto 24, 3) := by decide +kernel
theorem dX11_runClause_178 : decode cX11_runClause 178 = .ok (.aload_n 0, 1) := by decide +kernel
theorem dX11_runClause_179 : decode cX11_runClause 179 = .ok (.aload_n 1, 1) := by decide +kernel
theorem dX11_runClause_180 : decode cX11_runClause 180 = .ok (.iload_n 2, 1) := by decide +kernel
theorem dX11_runClause_181 : decode cX11_runClause 181 = .ok (.iload 6, 2) := by decide +kernel
theorem dX11_runClause_183 : decode cX11_runClause 183 = .ok (.invokevirtual 391, 3) := by decide +kernel
theorem dX11_runClause_186 : decode cX11_runClause 186 = .ok (.istore 9, 2) := by decide +kernel
theorem dX11_runClause_188 : decode cX11_runClause 188 = .ok (.iload 9, 2) := by decide +kernel
theorem dX11_runClause_190 : decode cX11_runClause 190 = .ok (.ifCond .eq 6, 3) := by decide +kernel
theorem dX11_runClause_193 : decode cX11_runClause 193 = .ok (.iload 9, 2) := by decide +kernel
theorem dX11_runClause_195 : decode cX11_runClause 195 = .ok (.ireturn, 1) := by decide +kernel
theorem dX11_runClause_196 : decode cX11_runClause 196 = .ok (.iinc 6 1, 3) := by decide +kernel
theorem dX11_runClause_199 : decode cX11_runClause 199 = .ok (.iinc 7 1, 3) := by decide +kernel
theorem dX11_runClause_202 : decode cX11_runClause 202 = .ok (.goto (-180), 3) := by decide +kernel
theorem dX11_runClause_205 : decode cX11_runClause 205 = .ok (.iconst 0, 1) := by decide +kernel
theorem dX11_runClause_206 : decode cX11_runClause 206 = .ok (.ireturn, 1) := by decide +kernel
set_option maxRecDepth 20000 in
theorem T_X11_runClause_22 {Q : Option Value → ah_T → Prop} {h : ah_T} (hs : Sh h) (a1 : Nat) (x2 : Int32) (x3 : Int32) (x4 : Int32) (x5 : Int32) (x6 : Int32) (x7 : Int32) (hk_a1 : ah_k h a1 = 9) (ht : ((x4 ≤ x7 → Q (some (.int 0)) h) ∧ (¬ x4 ≤ x7 → (∀ h10, h10 = ah_si h 27 (Int32.toNatClampNeg 8) (ah_i h 4 3) → (∀ h14, h14 = ah_si h10 27 (Int32.toNatClampNeg 9) (ah_i h 6 3) → ((¬ (ah_i h 6 3) = x3 → (Mt mX7_get [.ref 6, .int ((ah_i h 6 3) - 1), .int 1] h14 (ab_qi fun v21 h19 => Sh h19 ∧ ah_k h19 a1 = 9 ∧ (∀ h23, h23 = ah_si h19 27 (Int32.toNatClampNeg 10) v21 → (∀ h27, h27 = ah_si h23 27 (Int32.toNatClampNeg 11) ((ah_i h 6 3) - x3) → (∀ h31, h31 = ah_si h27 27 (Int32.toNatClampNeg 12) x6 → (∀ h35, h35 = ah_si h31 27 (Int32.toNatClampNeg 6) (ah_i h31 14 (Int32.toNatClampNeg 0)) → ((x5 = (-1) → (Mt mX11_runOnce [.ref 0, .ref a1, .int x2, .int x6] h35 (ab_qi fun v42 h40 => Sh h40 ∧ ah_k h40 a1 = 9 ∧ ((v42 = 0 → Wp mX11_runClause Q 0 0 22 [some (.ref 0), some (.ref a1), some (.int x2), some (.int x3), some (.int x4), some (.int x5), some (.int (x6 + 1)), some (.int (x7 + 1)), none, none] [] h40) ∧ (¬ v42 = 0 → Q (some (.int v42)) h40))))) ∧ (¬ x5 = (-1) → (∃ b45, ah_r h35 a1 0 = some b45 ∧ ah_k h35 b45 = 14 ∧ (Mt mX2_run [.ref 26, .ref b45, .int x5] h35 (ab_qi fun v50 h48 => Sh h48 ∧ ah_k h48 a1 = 9 ∧ ah_r h48 a1 0 = some b45 ∧ ah_k h48 b45 = 14 ∧ ((¬ v50 = 0 → (Mt mX11_runOnce [.ref 0, .ref a1, .int x2, .int x6] h48 (ab_qi fun v57 h55 => Sh h55 ∧ ah_k h55 a1 = 9 ∧ ah_r h55 a1 0 = some b45 ∧ ah_k h55 b45 = 14 ∧ ((v57 = 0 → Wp mX11_runClause Q 0 0 22 [some (.ref 0), some (.ref a1), some (.int x2), some (.int x3), some (.int x4), some (.int x5), some (.int (x6 + 1)), some (.int (x7 + 1)), none, none] [] h55) ∧ (¬ v57 = 0 → Q (some (.int v57)) h55))))) ∧ (v50 = 0 → Wp mX11_runClause Q 0 0 22 [some (.ref 0), some (.ref a1), some (.int x2), some (.int x3), some (.int x4), some (.int x5), some (.int x6), some (.int (x7 + 1)), none, none] [] h48)))))))))))))) ∧ ((ah_i h 6 3) = x3 → (∀ h62, h62 = ah_si h14 27 (Int32.toNatClampNeg 10) (-1) → (∀ h66, h66 = ah_si h62 27 (Int32.toNatClampNeg 11) ((ah_i h 6 3) - x3) → (∀ h70, h70 = ah_si h66 27 (Int32.toNatClampNeg 12) x6 → (∀ h74, h74 = ah_si h70 27 (Int32.toNatClampNeg 6) (ah_i h70 14 (Int32.toNatClampNeg 0)) → ((x5 = (-1) → (Mt mX11_runOnce [.ref 0, .ref a1, .int x2, .int x6] h74 (ab_qi fun v81 h79 => Sh h79 ∧ ah_k h79 a1 = 9 ∧ ((v81 = 0 → Wp mX11_runClause Q 0 0 22 [some (.ref 0), some (.ref a1), some (.int x2), some (.int x3), some (.int x4), some (.int x5), some (.int (x6 + 1)), some (.int (x7 + 1)), none, none] [] h79) ∧ (¬ v81 = 0 → Q (some (.int v81)) h79))))) ∧ (¬ x5 = (-1) → (∃ b84, ah_r h74 a1 0 = some b84 ∧ ah_k h74 b84 = 14 ∧ (Mt mX2_run [.ref 26, .ref b84, .int x5] h74 (ab_qi fun v89 h87 => Sh h87 ∧ ah_k h87 a1 = 9 ∧ ah_r h87 a1 0 = some b84 ∧ ah_k h87 b84 = 14 ∧ ((¬ v89 = 0 → (Mt mX11_runOnce [.ref 0, .ref a1, .int x2, .int x6] h87 (ab_qi fun v96 h94 => Sh h94 ∧ ah_k h94 a1 = 9 ∧ ah_r h94 a1 0 = some b84 ∧ ah_k h94 b84 = 14 ∧ ((v96 = 0 → Wp mX11_runClause Q 0 0 22 [some (.ref 0), some (.ref a1), some (.int x2), some (.int x3), some (.int x4), some (.int x5), some (.int (x6 + 1)), some (.int (x7 + 1)), none, none] [] h94) ∧ (¬ v96 = 0 → Q (some (.int v96)) h94))))) ∧ (v89 = 0 → Wp mX11_runClause Q 0 0 22 [some (.ref 0), some (.ref a1), some (.int x2), some (.int x3), some (.int x4), some (.int x5), some (.int x6), some (.int (x7 + 1)), none, none] [] h87)))))))))))))))))) : Wp mX11_runClause Q 0 0 22 [some (.ref 0), some (.ref a1), some (.int x2), some (.int x3), some (.int x4), some (.int x5), some (.int x6), some (.int x7), none, none] [] h := by
  refine ab_iload (i := 7) dX11_runClause_22 rfl ?_
  refine ab_iload (i := 4) dX11_runClause_24 rfl ?_
  refine ab_icmp_ge (tgt := 205) dX11_runClause_26 (by decide) (fun c9 => ?_) (fun c9 => ?_)
  · have ht := ht.1 c9
    refine ab_iconst (v := 0) dX11_runClause_205 (by decide) ?_
    exact ab_iret rfl dX11_runClause_206 (Nat.le_of_ble_eq_true rfl) (Nat.le_of_ble_eq_true rfl) ht
  · have ht := ht.2 c9
    refine ab_aload_n (i := 0) dX11_runClause_29 rfl rfl ?_
    refine ab_getR (b := 1) f_X11_10 rfl (sh_k hs 0 11 (by decide) rfl) (sh_r hs 0 rfl) dX11_runClause_30 ?_
    refine ab_getR (b := 6) f_X11_184 rfl (sh_k hs 1 10 (by decide) rfl) (sh_r hs 15 rfl) dX11_runClause_33 ?_
    refine ab_getI f_X11_187 rfl (sh_k hs 6 7 (by decide) rfl) dX11_runClause_36 ?_
    refine ab_istore (i := 8) (L' := [some (.ref 0), some (.ref a1), some (.int x2), some (.int x3), some (.int x4), some (.int x5), some (.int x6), some (.int x7), some (.int (ah_i h 6 3)), none]) dX11_runClause_39 (by exact (Nat.le_of_ble_eq_true rfl)) rfl rfl ?_
    refine ab_aload_n (i := 0) dX11_runClause_41 rfl rfl ?_
    refine ab_getR (b := 26) f_X11_40 rfl (sh_k hs 0 11 (by decide) rfl) (sh_r hs 6 rfl) dX11_runClause_42 ?_
    refine ab_getR (b := 27) f_X11_381 rfl (sh_k hs 26 2 (by decide) rfl) (sh_r hs 32 rfl) dX11_runClause_45 ?_
    refine ab_bipush (v := 8) dX11_runClause_48 (by decide) ?_
    refine ab_aload_n (i := 0) dX11_runClause_50 rfl rfl ?_
    refine ab_getR (b := 1) f_X11_10 rfl (sh_k hs 0 11 (by decide) rfl) (sh_r hs 0 rfl) dX11_runClause_51 ?_
    refine ab_getR (b := 4) f_X11_175 rfl (sh_k hs 1 10 (by decide) rfl) (sh_r hs 14 rfl) dX11_runClause_54 ?_
    refine ab_getI f_X11_187 rfl (sh_k hs 4 7 (by decide) rfl) dX11_runClause_57 ?_
    refine ab_iast (sh_k hs 27 14 (by decide) rfl) (sh_in hs 27 13 (by decide) (by decide) rfl (by unfold vp_in; decide)) dX11_runClause_60 ?_
    refine Wp.nm fun h10 e11 => ?_
    have ht := ht h10 e11
    have hs12 : Sh h10 := by rw [e11]; exact sh_si hs
    have hk13 : ah_k h10 a1 = 9 := by rw [e11]; exact hk_a1
    refine ab_aload_n (i := 0) dX11_runClause_61 rfl rfl ?_
    refine ab_getR (b := 26) f_X11_40 rfl (sh_k hs12 0 11 (by decide) rfl) (sh_r hs12 6 rfl) dX11_runClause_62 ?_
    refine ab_getR (b := 27) f_X11_381 rfl (sh_k hs12 26 2 (by decide) rfl) (sh_r hs12 32 rfl) dX11_runClause_65 ?_
    refine ab_bipush (v := 9) dX11_runClause_68 (by decide) ?_
    refine ab_iload (i := 8) dX11_runClause_70 rfl ?_
    refine ab_iast (sh_k hs12 27 14 (by decide) rfl) (sh_in hs12 27 13 (by decide) (by decide) rfl (by unfold vp_in; decide)) dX11_runClause_72 ?_
    refine Wp.nm fun h14 e15 => ?_
    have ht := ht h14 e15
    have hs16 : Sh h14 := by rw [e15]; exact sh_si hs12
    have hk17 : ah_k h14 a1 = 9 := by rw [e15]; exact hk13
    refine ab_aload_n (i := 0) dX11_runClause_73 rfl rfl ?_
    refine ab_getR (b := 26) f_X11_40 rfl (sh_k hs16 0 11 (by decide) rfl) (sh_r hs16 6 rfl) dX11_runClause_74 ?_
    refine ab_getR (b := 27) f_X11_381 rfl (sh_k hs16 26 2 (by decide) rfl) (sh_r hs16 32 rfl) dX11_runClause_77 ?_
    refine ab_bipush (v := 10) dX11_runClause_80 (by decide) ?_
    refine ab_iload (i := 8) dX11_runClause_82 rfl ?_
    refine ab_iload_n (i := 3) dX11_runClause_84 rfl rfl ?_
    refine ab_icmp_ne (tgt := 92) dX11_runClause_85 (by decide) (fun c18 => ?_) (fun c18 => ?_)
    · have ht := ht.1 c18
      refine ab_aload_n (i := 0) dX11_runClause_92 rfl rfl ?_
      refine ab_getR (b := 1) f_X11_10 rfl (sh_k hs16 0 11 (by decide) rfl) (sh_r hs16 0 rfl) dX11_runClause_93 ?_
      refine ab_getR (b := 6) f_X11_184 rfl (sh_k hs16 1 10 (by decide) rfl) (sh_r hs16 15 rfl) dX11_runClause_96 ?_
      refine ab_iload (i := 8) dX11_runClause_99 rfl ?_
      refine ab_iconst (v := 1) dX11_runClause_101 (by decide) ?_
      refine ab_isub dX11_runClause_102 ?_
      refine ab_iconst (v := 1) dX11_runClause_103 (by decide) ?_
      refine ab_callV (b := 6) (As := [.int ((ah_i h 6 3) - 1), .int 1]) ht (Y_X7_get) l_X11_163 in_X7_get se_X7_get (sh_k hs16 6 7 (by decide) rfl) (by decide) rfl rfl ⟨(Nat.le_of_ble_eq_true rfl), (Nat.le_of_ble_eq_true rfl), (Nat.le_of_ble_eq_true rfl), (Nat.le_of_ble_eq_true rfl)⟩ dX11_runClause_104 ?_
      rintro _ h19 ⟨v21, rfl, hs20, hk22, ht⟩
      refine ab_iast (sh_k hs20 27 14 (by decide) rfl) (sh_in hs20 27 13 (by decide) (by decide) rfl (by unfold vp_in; decide)) dX11_runClause_107 ?_
      refine Wp.nm fun h23 e24 => ?_
      have ht := ht h23 e24
      have hs25 : Sh h23 := by rw [e24]; exact sh_si hs20
      have hk26 : ah_k h23 a1 = 9 := by rw [e24]; exact hk22
      refine ab_aload_n (i := 0) dX11_runClause_108 rfl rfl ?_
      refine ab_getR (b := 26) f_X11_40 rfl (sh_k hs25 0 11 (by decide) rfl) (sh_r hs25 6 rfl) dX11_runClause_109 ?_
      refine ab_getR (b := 27) f_X11_381 rfl (sh_k hs25 26 2 (by decide) rfl) (sh_r hs25 32 rfl) dX11_runClause_112 ?_
      refine ab_bipush (v := 11) dX11_runClause_115 (by decide) ?_
      refine ab_iload (i := 8) dX11_runClause_117 rfl ?_
      refine ab_iload_n (i := 3) dX11_runClause_119 rfl rfl ?_
      refine ab_isub dX11_runClause_120 ?_
      refine ab_iast (sh_k hs25 27 14 (by decide) rfl) (sh_in hs25 27 13 (by decide) (by decide) rfl (by unfold vp_in; decide)) dX11_runClause_121 ?_
      refine Wp.nm fun h27 e28 => ?_
      have ht := ht h27 e28
      have hs29 : Sh h27 := by rw [e28]; exact sh_si hs25
      have hk30 : ah_k h27 a1 = 9 := by rw [e28]; exact hk26
      refine ab_aload_n (i := 0) dX11_runClause_122 rfl rfl ?_
      refine ab_getR (b := 26) f_X11_40 rfl (sh_k hs29 0 11 (by decide) rfl) (sh_r hs29 6 rfl) dX11_runClause_123 ?_
      refine ab_getR (b := 27) f_X11_381 rfl (sh_k hs29 26 2 (by decide) rfl) (sh_r hs29 32 rfl) dX11_runClause_126 ?_
      refine ab_bipush (v := 12) dX11_runClause_129 (by decide) ?_
      refine ab_iload (i := 6) dX11_runClause_131 rfl ?_
      refine ab_iast (sh_k hs29 27 14 (by decide) rfl) (sh_in hs29 27 13 (by decide) (by decide) rfl (by unfold vp_in; decide)) dX11_runClause_133 ?_
      refine Wp.nm fun h31 e32 => ?_
      have ht := ht h31 e32
      have hs33 : Sh h31 := by rw [e32]; exact sh_si hs29
      have hk34 : ah_k h31 a1 = 9 := by rw [e32]; exact hk30
      refine ab_aload_n (i := 0) dX11_runClause_134 rfl rfl ?_
      refine ab_getR (b := 26) f_X11_40 rfl (sh_k hs33 0 11 (by decide) rfl) (sh_r hs33 6 rfl) dX11_runClause_135 ?_
      refine ab_getR (b := 27) f_X11_381 rfl (sh_k hs33 26 2 (by decide) rfl) (sh_r hs33 32 rfl) dX11_runClause_138 ?_
      refine ab_bipush (v := 6) dX11_runClause_141 (by decide) ?_
      refine ab_aload_n (i := 0) dX11_runClause_143 rfl rfl ?_
      refine ab_getR (b := 1) f_X11_10 rfl (sh_k hs33 0 11 (by decide) rfl) (sh_r hs33 0 rfl) dX11_runClause_144 ?_
      refine ab_getR (b := 14) f_X11_196 rfl (sh_k hs33 1 10 (by decide) rfl) (sh_r hs33 19 rfl) dX11_runClause_147 ?_
      refine ab_iconst (v := 0) dX11_runClause_150 (by decide) ?_
      refine ab_iald (sh_k hs33 14 14 (by decide) rfl) (sh_in hs33 14 3 (by decide) (by decide) rfl (by unfold vp_in; decide)) dX11_runClause_151 ?_
      refine ab_iast (sh_k hs33 27 14 (by decide) rfl) (sh_in hs33 27 13 (by decide) (by decide) rfl (by unfold vp_in; decide)) dX11_runClause_152 ?_
      refine Wp.nm fun h35 e36 => ?_
      have ht := ht h35 e36
      have hs37 : Sh h35 := by rw [e36]; exact sh_si hs33
      have hk38 : ah_k h35 a1 = 9 := by rw [e36]; exact hk34
      refine ab_iload (i := 5) dX11_runClause_153 rfl ?_
      refine ab_iconst (v := (-1)) dX11_runClause_155 (by decide) ?_
      refine ab_icmp_eq (tgt := 178) dX11_runClause_156 (by decide) (fun c39 => ?_) (fun c39 => ?_)
      · have ht := ht.1 c39
        refine ab_aload_n (i := 0) dX11_runClause_178 rfl rfl ?_
        refine ab_aload_n (i := 1) dX11_runClause_179 rfl rfl ?_
        refine ab_iload_n (i := 2) dX11_runClause_180 rfl rfl ?_
        refine ab_iload (i := 6) dX11_runClause_181 rfl ?_
        refine ab_callV (b := 0) (As := [.ref a1, .int x2, .int x6]) ht (Y_X11_runOnce) l_X11_391 in_X11_runOnce se_X11_runOnce (sh_k hs37 0 11 (by decide) rfl) (by decide) rfl rfl ⟨(Nat.le_of_ble_eq_true rfl), (Nat.le_of_ble_eq_true rfl), (Nat.le_of_ble_eq_true rfl), (Nat.le_of_ble_eq_true rfl)⟩ dX11_runClause_183 ?_
        rintro _ h40 ⟨v42, rfl, hs41, hk43, ht⟩
        refine ab_istore (i := 9) (L' := [some (.ref 0), some (.ref a1), some (.int x2), some (.int x3), some (.int x4), some (.int x5), some (.int x6), some (.int x7), some (.int (ah_i h 6 3)), some (.int v42)]) dX11_runClause_186 (by exact (Nat.le_of_ble_eq_true rfl)) rfl rfl ?_
        refine ab_iload (i := 9) dX11_runClause_188 rfl ?_
        refine ab_if_eq (tgt := 196) dX11_runClause_190 (by decide) (fun c44 => ?_) (fun c44 => ?_)
        · have ht := ht.1 c44
          refine ab_iinc (i := 6) (x := x6) (v := (x6 + 1)) (L' := [some (.ref 0), some (.ref a1), some (.int x2), some (.int x3), some (.int x4), some (.int x5), some (.int (x6 + 1)), some (.int x7), some (.int (ah_i h 6 3)), some (.int v42)]) dX11_runClause_196 rfl rfl (by exact (Nat.le_of_ble_eq_true rfl)) rfl rfl ?_
          refine ab_iinc (i := 7) (x := x7) (v := (x7 + 1)) (L' := [some (.ref 0), some (.ref a1), some (.int x2), some (.int x3), some (.int x4), some (.int x5), some (.int (x6 + 1)), some (.int (x7 + 1)), some (.int (ah_i h 6 3)), some (.int v42)]) dX11_runClause_199 rfl rfl (by exact (Nat.le_of_ble_eq_true rfl)) rfl rfl ?_
          refine ab_goto (tgt := 22) dX11_runClause_202 (by decide) ?_
          exact Wp.fewer (L' := [some (.ref 0), some (.ref a1), some (.int x2), some (.int x3), some (.int x4), some (.int x5), some (.int (x6 + 1)), some (.int (x7 + 1)), none, none]) (show ab_leL _ _ from ⟨rfl, ⟨rfl, ⟨rfl, ⟨rfl, ⟨rfl, ⟨rfl, ⟨rfl, ⟨rfl, trivial⟩⟩⟩⟩⟩⟩⟩⟩) ht
        · have ht := ht.2 c44
          refine ab_iload (i := 9) dX11_runClause_193 rfl ?_
          exact ab_iret rfl dX11_runClause_195 (Nat.le_of_ble_eq_true rfl) (Nat.le_of_ble_eq_true rfl) ht
      · have ht := ht.2 c39
        refine ab_aload_n (i := 0) dX11_runClause_159 rfl rfl ?_
        refine ab_getR (b := 26) f_X11_40 rfl (sh_k hs37 0 11 (by decide) rfl) (sh_r hs37 6 rfl) dX11_runClause_160 ?_
        refine ab_aload_n (i := 1) dX11_runClause_163 rfl rfl ?_
        obtain ⟨b45, hr46, hk47, ht⟩ := ht
        refine ab_getR (b := b45) f_X11_384 rfl hk38 hr46 dX11_runClause_164 ?_
        refine ab_iload (i := 5) dX11_runClause_167 rfl ?_
        refine ab_callV (b := 26) (As := [.ref b45, .int x5]) ht (Y_X2_run) l_X11_387 in_X2_run se_X2_run (sh_k hs37 26 2 (by decide) rfl) (by decide) rfl rfl ⟨(Nat.le_of_ble_eq_true rfl), (Nat.le_of_ble_eq_true rfl), (Nat.le_of_ble_eq_true rfl), (Nat.le_of_ble_eq_true rfl)⟩ dX11_runClause_169 ?_
        rintro _ h48 ⟨v50, rfl, hs49, hk51, hr52, hk53, ht⟩
        refine ab_if_ne (tgt := 178) dX11_runClause_172 (by decide) (fun c54 => ?_) (fun c54 => ?_)
        · have ht := ht.1 c54
          refine ab_aload_n (i := 0) dX11_runClause_178 rfl rfl ?_
          refine ab_aload_n (i := 1) dX11_runClause_179 rfl rfl ?_
          refine ab_iload_n (i := 2) dX11_runClause_180 rfl rfl ?_
          refine ab_iload (i := 6) dX11_runClause_181 rfl ?_
          refine ab_callV (b := 0) (As := [.ref a1, .int x2, .int x6]) ht (Y_X11_runOnce) l_X11_391 in_X11_runOnce se_X11_runOnce (sh_k hs49 0 11 (by decide) rfl) (by decide) rfl rfl ⟨(Nat.le_of_ble_eq_true rfl), (Nat.le_of_ble_eq_true rfl), (Nat.le_of_ble_eq_true rfl), (Nat.le_of_ble_eq_true rfl)⟩ dX11_runClause_183 ?_
          rintro _ h55 ⟨v57, rfl, hs56, hk58, hr59, hk60, ht⟩
          refine ab_istore (i := 9) (L' := [some (.ref 0), some (.ref a1), some (.int x2), some (.int x3), some (.int x4), some (.int x5), some (.int x6), some (.int x7), some (.int (ah_i h 6 3)), some (.int v57)]) dX11_runClause_186 (by exact (Nat.le_of_ble_eq_true rfl)) rfl rfl ?_
          refine ab_iload (i := 9) dX11_runClause_188 rfl ?_
          refine ab_if_eq (tgt := 196) dX11_runClause_190 (by decide) (fun c61 => ?_) (fun c61 => ?_)
          · have ht := ht.1 c61
            refine ab_iinc (i := 6) (x := x6) (v := (x6 + 1)) (L' := [some (.ref 0), some (.ref a1), some (.int x2), some (.int x3), some (.int x4), some (.int x5), some (.int (x6 + 1)), some (.int x7), some (.int (ah_i h 6 3)), some (.int v57)]) dX11_runClause_196 rfl rfl (by exact (Nat.le_of_ble_eq_true rfl)) rfl rfl ?_
            refine ab_iinc (i := 7) (x := x7) (v := (x7 + 1)) (L' := [some (.ref 0), some (.ref a1), some (.int x2), some (.int x3), some (.int x4), some (.int x5), some (.int (x6 + 1)), some (.int (x7 + 1)), some (.int (ah_i h 6 3)), some (.int v57)]) dX11_runClause_199 rfl rfl (by exact (Nat.le_of_ble_eq_true rfl)) rfl rfl ?_
            refine ab_goto (tgt := 22) dX11_runClause_202 (by decide) ?_
            exact Wp.fewer (L' := [some (.ref 0), some (.ref a1), some (.int x2), some (.int x3), some (.int x4), some (.int x5), some (.int (x6 + 1)), some (.int (x7 + 1)), none, none]) (show ab_leL _ _ from ⟨rfl, ⟨rfl, ⟨rfl, ⟨rfl, ⟨rfl, ⟨rfl, ⟨rfl, ⟨rfl, trivial⟩⟩⟩⟩⟩⟩⟩⟩) ht
          · have ht := ht.2 c61
            refine ab_iload (i := 9) dX11_runClause_193 rfl ?_
            exact ab_iret rfl dX11_runClause_195 (Nat.le_of_ble_eq_true rfl) (Nat.le_of_ble_eq_true rfl) ht
        · have ht := ht.2 c54
          refine ab_goto (tgt := 199) dX11_runClause_175 (by decide) ?_
          refine ab_iinc (i := 7) (x := x7) (v := (x7 + 1)) (L' := [some (.ref 0), some (.ref a1), some (.int x2), some (.int x3), some (.int x4), some (.int x5), some (.int x6), some (.int (x7 + 1)), some (.int (ah_i h 6 3)), none]) dX11_runClause_199 rfl rfl (by exact (Nat.le_of_ble_eq_true rfl)) rfl rfl ?_
          refine ab_goto (tgt := 22) dX11_runClause_202 (by decide) ?_
          exact Wp.fewer (L' := [some (.ref 0), some (.ref a1), some (.int x2), some (.int x3), some (.int x4), some (.int x5), some (.int x6), some (.int (x7 + 1)), none, none]) (show ab_leL _ _ from ⟨rfl, ⟨rfl, ⟨rfl, ⟨rfl, ⟨rfl, ⟨rfl, ⟨rfl, ⟨rfl, trivial⟩⟩⟩⟩⟩⟩⟩⟩) ht
    · have ht := ht.2 c18
      refine ab_iconst (v := (-1)) dX11_runClause_88 (by decide) ?_
      refine ab_goto (tgt := 107) dX11_runClause_89 (by decide) ?_
      refine ab_iast (sh_k hs16 27 14 (by decide) rfl) (sh_in hs16 27 13 (by decide) (by decide) rfl (by unfold vp_in; decide)) dX11_runClause_107 ?_
      refine Wp.nm fun h62 e63 => ?_
      have ht := ht h62 e63
      have hs64 : Sh h62 := by rw [e63]; exact sh_si hs16
      have hk65 : ah_k h62 a1 = 9 := by rw [e63]; exact hk17
      refine ab_aload_n (i := 0) dX11_runClause_108 rfl rfl ?_
      refine ab_getR (b := 26) f_X11_40 rfl (sh_k hs64 0 11 (by decide) rfl) (sh_r hs64 6 rfl) dX11_runClause_109 ?_
      refine ab_getR (b := 27) f_X11_381 rfl (sh_k hs64 26 2 (by decide) rfl) (sh_r hs64 32 rfl) dX11_runClause_112 ?_
      refine ab_bipush (v := 11) dX11_runClause_115 (by decide) ?_
      refine ab_iload (i := 8) dX11_runClause_117 rfl ?_
      refine ab_iload_n (i := 3) dX11_runClause_119 rfl rfl ?_
      refine ab_isub dX11_runClause_120 ?_
      refine ab_iast (sh_k hs64 27 14 (by decide) rfl) (sh_in hs64 27 13 (by decide) (by decide) rfl (by unfold vp_in; decide)) dX11_runClause_121 ?_
      refine Wp.nm fun h66 e67 => ?_
      have ht := ht h66 e67
      have hs68 : Sh h66 := by rw [e67]; exact sh_si hs64
      have hk69 : ah_k h66 a1 = 9 := by rw [e67]; exact hk65
      refine ab_aload_n (i := 0) dX11_runClause_122 rfl rfl ?_
      refine ab_getR (b := 26) f_X11_40 rfl (sh_k hs68 0 11 (by decide) rfl) (sh_r hs68 6 rfl) dX11_runClause_123 ?_
      refine ab_getR (b := 27) f_X11_381 rfl (sh_k hs68 26 2 (by decide) rfl) (sh_r hs68 32 rfl) dX11_runClause_126 ?_
      refine ab_bipush (v := 12) dX11_runClause_129 (by decide) ?_
      refine ab_iload (i := 6) dX11_runClause_131 rfl ?_
      refine ab_iast (sh_k hs68 27 14 (by decide) rfl) (sh_in hs68 27 13 (by decide) (by decide) rfl (by unfold vp_in; decide)) dX11_runClause_133 ?_
      refine Wp.nm fun h70 e71 => ?_
      have ht := ht h70 e71
      have hs72 : Sh h70 := by rw [e71]; exact sh_si hs68
      have hk73 : ah_k h70 a1 = 9 := by rw [e71]; exact hk69
      refine ab_aload_n (i := 0) dX11_runClause_134 rfl rfl ?_
      refine ab_getR (b := 26) f_X11_40 rfl (sh_k hs72 0 11 (by decide) rfl) (sh_r hs72 6 rfl) dX11_runClause_135 ?_
      refine ab_getR (b := 27) f_X11_381 rfl (sh_k hs72 26 2 (by decide) rfl) (sh_r hs72 32 rfl) dX11_runClause_138 ?_
      refine ab_bipush (v := 6) dX11_runClause_141 (by decide) ?_
      refine ab_aload_n (i := 0) dX11_runClause_143 rfl rfl ?_
      refine ab_getR (b := 1) f_X11_10 rfl (sh_k hs72 0 11 (by decide) rfl) (sh_r hs72 0 rfl) dX11_runClause_144 ?_
      refine ab_getR (b := 14) f_X11_196 rfl (sh_k hs72 1 10 (by decide) rfl) (sh_r hs72 19 rfl) dX11_runClause_147 ?_
      refine ab_iconst (v := 0) dX11_runClause_150 (by decide) ?_
      refine ab_iald (sh_k hs72 14 14 (by decide) rfl) (sh_in hs72 14 3 (by decide) (by decide) rfl (by unfold vp_in; decide)) dX11_runClause_151 ?_
      refine ab_iast (sh_k hs72 27 14 (by decide) rfl) (sh_in hs72 27 13 (by decide) (by decide) rfl (by unfold vp_in; decide)) dX11_runClause_152 ?_
      refine Wp.nm fun h74 e75 => ?_
      have ht := ht h74 e75
      have hs76 : Sh h74 := by rw [e75]; exact sh_si hs72
      have hk77 : ah_k h74 a1 = 9 := by rw [e75]; exact hk73
      refine ab_iload (i := 5) dX11_runClause_153 rfl ?_
      refine ab_iconst (v := (-1)) dX11_runClause_155 (by decide) ?_
      refine ab_icmp_eq (tgt := 178) dX11_runClause_156 (by decide) (fun c78 => ?_) (fun c78 => ?_)
      · have ht := ht.1 c78
        refine ab_aload_n (i := 0) dX11_runClause_178 rfl rfl ?_
        refine ab_aload_n (i := 1) dX11_runClause_179 rfl rfl ?_
        refine ab_iload_n (i := 2) dX11_runClause_180 rfl rfl ?_
        refine ab_iload (i := 6) dX11_runClause_181 rfl ?_
        refine ab_callV (b := 0) (As := [.ref a1, .int x2, .int x6]) ht (Y_X11_runOnce) l_X11_391 in_X11_runOnce se_X11_runOnce (sh_k hs76 0 11 (by decide) rfl) (by decide) rfl rfl ⟨(Nat.le_of_ble_eq_true rfl), (Nat.le_of_ble_eq_true rfl), (Nat.le_of_ble_eq_true rfl), (Nat.le_of_ble_eq_true rfl)⟩ dX11_runClause_183 ?_
        rintro _ h79 ⟨v81, rfl, hs80, hk82, ht⟩
        refine ab_istore (i := 9) (L' := [some (.ref 0), some (.ref a1), some (.int x2), some (.int x3), some (.int x4), some (.int x5), some (.int x6), some (.int x7), some (.int (ah_i h 6 3)), some (.int v81)]) dX11_runClause_186 (by exact (Nat.le_of_ble_eq_true rfl)) rfl rfl ?_
        refine ab_iload (i := 9) dX11_runClause_188 rfl ?_
        refine ab_if_eq (tgt := 196) dX11_runClause_190 (by decide) (fun c83 => ?_) (fun c83 => ?_)
        · have ht := ht.1 c83
          refine ab_iinc (i := 6) (x := x6) (v := (x6 + 1)) (L' := [some (.ref 0), some (.ref a1), some (.int x2), some (.int x3), some (.int x4), some (.int x5), some (.int (x6 + 1)), some (.int x7), some (.int (ah_i h 6 3)), some (.int v81)]) dX11_runClause_196 rfl rfl (by exact (Nat.le_of_ble_eq_true rfl)) rfl rfl ?_
          refine ab_iinc (i := 7) (x := x7) (v := (x7 + 1)) (L' := [some (.ref 0), some (.ref a1), some (.int x2), some (.int x3), some (.int x4), some (.int x5), some (.int (x6 + 1)), some (.int (x7 + 1)), some (.int (ah_i h 6 3)), some (.int v81)]) dX11_runClause_199 rfl rfl (by exact (Nat.le_of_ble_eq_true rfl)) rfl rfl ?_
          refine ab_goto (tgt := 22) dX11_runClause_202 (by decide) ?_
          exact Wp.fewer (L' := [some (.ref 0), some (.ref a1), some (.int x2), some (.int x3), some (.int x4), some (.int x5), some (.int (x6 + 1)), some (.int (x7 + 1)), none, none]) (show ab_leL _ _ from ⟨rfl, ⟨rfl, ⟨rfl, ⟨rfl, ⟨rfl, ⟨rfl, ⟨rfl, ⟨rfl, trivial⟩⟩⟩⟩⟩⟩⟩⟩) ht
        · have ht := ht.2 c83
          refine ab_iload (i := 9) dX11_runClause_193 rfl ?_
          exact ab_iret rfl dX11_runClause_195 (Nat.le_of_ble_eq_true rfl) (Nat.le_of_ble_eq_true rfl) ht
      · have ht := ht.2 c78
        refine ab_aload_n (i := 0) dX11_runClause_159 rfl rfl ?_
        refine ab_getR (b := 26) f_X11_40 rfl (sh_k hs76 0 11 (by decide) rfl) (sh_r hs76 6 rfl) dX11_runClause_160 ?_
        refine ab_aload_n (i := 1) dX11_runClause_163 rfl rfl ?_
        obtain ⟨b84, hr85, hk86, ht⟩ := ht
        refine ab_getR (b := b84) f_X11_384 rfl hk77 hr85 dX11_runClause_164 ?_
        refine ab_iload (i := 5) dX11_runClause_167 rfl ?_
        refine ab_callV (b := 26) (As := [.ref b84, .int x5]) ht (Y_X2_run) l_X11_387 in_X2_run se_X2_run (sh_k hs76 26 2 (by decide) rfl) (by decide) rfl rfl ⟨(Nat.le_of_ble_eq_true rfl), (Nat.le_of_ble_eq_true rfl), (Nat.le_of_ble_eq_true rfl), (Nat.le_of_ble_eq_true rfl)⟩ dX11_runClause_169 ?_
        rintro _ h87 ⟨v89, rfl, hs88, hk90, hr91, hk92, ht⟩
        refine ab_if_ne (tgt := 178) dX11_runClause_172 (by decide) (fun c93 => ?_) (fun c93 => ?_)
        · have ht := ht.1 c93
          refine ab_aload_n (i := 0) dX11_runClause_178 rfl rfl ?_
          refine ab_aload_n (i := 1) dX11_runClause_179 rfl rfl ?_
          refine ab_iload_n (i := 2) dX11_runClause_180 rfl rfl ?_
          refine ab_iload (i := 6) dX11_runClause_181 rfl ?_
          refine ab_callV (b := 0) (As := [.ref a1, .int x2, .int x6]) ht (Y_X11_runOnce) l_X11_391 in_X11_runOnce se_X11_runOnce (sh_k hs88 0 11 (by decide) rfl) (by decide) rfl rfl ⟨(Nat.le_of_ble_eq_true rfl), (Nat.le_of_ble_eq_true rfl), (Nat.le_of_ble_eq_true rfl), (Nat.le_of_ble_eq_true rfl)⟩ dX11_runClause_183 ?_
          rintro _ h94 ⟨v96, rfl, hs95, hk97, hr98, hk99, ht⟩
          refine ab_istore (i := 9) (L' := [some (.ref 0), some (.ref a1), some (.int x2), some (.int x3), some (.int x4), some (.int x5), some (.int x6), some (.int x7), some (.int (ah_i h 6 3)), some (.int v96)]) dX11_runClause_186 (by exact (Nat.le_of_ble_eq_true rfl)) rfl rfl ?_
          refine ab_iload (i := 9) dX11_runClause_188 rfl ?_
          refine ab_if_eq (tgt := 196) dX11_runClause_190 (by decide) (fun c100 => ?_) (fun c100 => ?_)
          · have ht := ht.1 c100
            refine ab_iinc (i := 6) (x := x6) (v := (x6 + 1)) (L' := [some (.ref 0), some (.ref a1), some (.int x2), some (.int x3), some (.int x4), some (.int x5), some (.int (x6 + 1)), some (.int x7), some (.int (ah_i h 6 3)), some (.int v96)]) dX11_runClause_196 rfl rfl (by exact (Nat.le_of_ble_eq_true rfl)) rfl rfl ?_
            refine ab_iinc (i := 7) (x := x7) (v := (x7 + 1)) (L' := [some (.ref 0), some (.ref a1), some (.int x2), some (.int x3), some (.int x4), some (.int x5), some (.int (x6 + 1)), some (.int (x7 + 1)), some (.int (ah_i h 6 3)), some (.int v96)]) dX11_runClause_199 rfl rfl (by exact (Nat.le_of_ble_eq_true rfl)) rfl rfl ?_
            refine ab_goto (tgt := 22) dX11_runClause_202 (by decide) ?_
            exact Wp.fewer (L' := [some (.ref 0), some (.ref a1), some (.int x2), some (.int x3), some (.int x4), some (.int x5), some (.int (x6 + 1)), some (.int (x7 + 1)), none, none]) (show ab_leL _ _ from ⟨rfl, ⟨rfl, ⟨rfl, ⟨rfl, ⟨rfl, ⟨rfl, ⟨rfl, ⟨rfl, trivial⟩⟩⟩⟩⟩⟩⟩⟩) ht
          · have ht := ht.2 c100
            refine ab_iload (i := 9) dX11_runClause_193 rfl ?_
            exact ab_iret rfl dX11_runClause_195 (Nat.le_of_ble_eq_true rfl) (Nat.le_of_ble_eq_true rfl) ht
        · have ht := ht.2 c93
          refine ab_goto (tgt := 199) dX11_runClause_175 (by decide) ?_
          refine ab_iinc (i := 7) (x := x7) (v := (x7 + 1)) (L' := [some (.ref 0), some (.ref a1), some (.int x2), some (.int x3), some (.int x4), some (.int x5), some (.int x6), some (.int (x7 + 1)), some (.int (ah_i h 6 3)), none]) dX11_runClause_199 rfl rfl (by exact (Nat.le_of_ble_eq_true rfl)) rfl rfl ?_
          refine ab_goto (tgt := 22) dX11_runClause_202 (by decide) ?_
          exact Wp.fewer (L' := [some (.ref 0), some (.ref a1), some (.int x2), some (.int x3), some (.int x4), some (.int x5), some (.int x6), some (.int (x7 + 1)), none, none]) (show ab_leL _ _ from ⟨rfl, ⟨rfl, ⟨rfl, ⟨rfl, ⟨rfl, ⟨rfl, ⟨rfl, ⟨rfl, trivial⟩⟩⟩⟩⟩⟩⟩⟩) ht
set_option maxRecDepth 20000 in
theorem T_X11_runClause {Q : Option Value → ah_T → Prop} {h : ah_T} (hs : Sh h) (a1 : Nat) (x2 : Int32) (x3 : Int32) (hk_a1 : ah_k h a1 = 9) (ht : (Mt mX9_part [.ref a1, .int x2, .int 4] h (ab_qi fun v3 h1 => Sh h1 ∧ ah_k h1 a1 = 9 ∧ (Mt mX9_part [.ref a1, .int x2, .int 5] h1 (ab_qi fun v7 h5 => Sh h5 ∧ ah_k h5 a1 = 9 ∧ Wp mX11_runClause Q 0 0 22 [some (.ref 0), some (.ref a1), some (.int x2), some (.int x3), some (.int v3), some (.int v7), some (.int 0), some (.int 0), none, none] [] h5))))) : Mt mX11_runClause [.ref 0, .ref a1, .int x2, .int x3] h Q := by
  refine Mt.ofWp rfl (by exact (Nat.le_of_ble_eq_true rfl)) (Wp.fewer (L' := [some (.ref 0), some (.ref a1), some (.int x2), some (.int x3), none, none, none, none, none, none]) (show ab_leL _ _ from ⟨rfl, ⟨rfl, ⟨rfl, ⟨rfl, trivial⟩⟩⟩⟩) ?_)
  refine ab_aload_n (i := 1) dX11_runClause_0 rfl rfl ?_
  refine ab_iload_n (i := 2) dX11_runClause_1 rfl rfl ?_
  refine ab_iconst (v := 4) dX11_runClause_2 (by decide) ?_
  refine ab_callV (b := a1) (As := [.int x2, .int 4]) ht (Y_X9_part) l_X11_378 in_X9_part se_X9_part hk_a1 (by decide) rfl rfl ⟨(Nat.le_of_ble_eq_true rfl), (Nat.le_of_ble_eq_true rfl), (Nat.le_of_ble_eq_true rfl), (Nat.le_of_ble_eq_true rfl)⟩ dX11_runClause_3 ?_
  rintro _ h1 ⟨v3, rfl, hs2, hk4, ht⟩
  refine ab_istore (i := 4) (L' := [some (.ref 0), some (.ref a1), some (.int x2), some (.int x3), some (.int v3), none, none, none, none, none]) dX11_runClause_6 (by exact (Nat.le_of_ble_eq_true rfl)) rfl rfl ?_
  refine ab_aload_n (i := 1) dX11_runClause_8 rfl rfl ?_
  refine ab_iload_n (i := 2) dX11_runClause_9 rfl rfl ?_
  refine ab_iconst (v := 5) dX11_runClause_10 (by decide) ?_
  refine ab_callV (b := a1) (As := [.int x2, .int 5]) ht (Y_X9_part) l_X11_378 in_X9_part se_X9_part hk4 (by decide) rfl rfl ⟨(Nat.le_of_ble_eq_true rfl), (Nat.le_of_ble_eq_true rfl), (Nat.le_of_ble_eq_true rfl), (Nat.le_of_ble_eq_true rfl)⟩ dX11_runClause_11 ?_
  rintro _ h5 ⟨v7, rfl, hs6, hk8, ht⟩
  refine ab_istore (i := 5) (L' := [some (.ref 0), some (.ref a1), some (.int x2), some (.int x3), some (.int v3), some (.int v7), none, none, none, none]) dX11_runClause_14 (by exact (Nat.le_of_ble_eq_true rfl)) rfl rfl ?_
  refine ab_iconst (v := 0) dX11_runClause_16 (by decide) ?_
  refine ab_istore (i := 6) (L' := [some (.ref 0), some (.ref a1), some (.int x2), some (.int x3), some (.int v3), some (.int v7), some (.int 0), none, none, none]) dX11_runClause_17 (by exact (Nat.le_of_ble_eq_true rfl)) rfl rfl ?_
  refine ab_iconst (v := 0) dX11_runClause_19 (by decide) ?_
  refine ab_istore (i := 7) (L' := [some (.ref 0), some (.ref a1), some (.int x2), some (.int x3), some (.int v3), some (.int v7), some (.int 0), some (.int 0), none, none]) dX11_runClause_20 (by exact (Nat.le_of_ble_eq_true rfl)) rfl rfl ?_
  exact Wp.fewer (L' := [some (.ref 0), some (.ref a1), some (.int x2), some (.int x3), some (.int v3), some (.int v7), some (.int 0), some (.int 0), none, none]) (show ab_leL _ _ from ⟨rfl, ⟨rfl, ⟨rfl, ⟨rfl, ⟨rfl, ⟨rfl, ⟨rfl, ⟨rfl, trivial⟩⟩⟩⟩⟩⟩⟩⟩) ht
theorem dX11_runOnce_0 : decode cX11_runOnce 0 = .ok (.aload_n 0, 1) := by decide +kernel
theorem dX11_runOnce_1 : decode cX11_runOnce 1 = .ok (.getfield 40, 3) := by decide +kernel
theorem dX11_runOnce_4 : decode cX11_runOnce 4 = .ok (.aload_n 1, 1) := by decide +kernel
theorem dX11_runOnce_5 : decode cX11_runOnce 5 = .ok (.getfield 384, 3) := by decide +kernel
theorem dX11_runOnce_8 : decode cX11_runOnce 8 = .ok (.aload_n 1, 1) := by decide +kernel
theorem dX11_runOnce_9 : decode cX11_runOnce 9 = .ok (.iload_n 2, 1) := by decide +kernel
theorem dX11_runOnce_10 : decode cX11_runOnce 10 = .ok (.iconst 1, 1) := by decide +kernel
theorem dX11_runOnce_11 : decode cX11_runOnce 11 = .ok (.invokevirtual 378, 3) := by decide +kernel
theorem dX11_runOnce_14 : decode cX11_runOnce 14 = .ok (.invokevirtual 387, 3) := by decide +kernel
theorem dX11_runOnce_17 : decode cX11_runOnce 17 = .ok (.istore 4, 2) := by decide +kernel
theorem dX11_runOnce_19 : decode cX11_runOnce 19 = .ok (.aload_n 0, 1) := by decide +kernel
theorem dX11_runOnce_20 : decode cX11_runOnce 20 = .ok (.getfield 40, 3) := by decide +kernel
theorem dX11_runOnce_23 : decode cX11_runOnce 23 = .ok (.getfield 394, 3) := by decide +kernel
theorem dX11_runOnce_26 : decode cX11_runOnce 26 = .ok (.istore 5, 2) := by decide +kernel
theorem dX11_runOnce_28 : decode cX11_runOnce 28 = .ok (.aload_n 0, 1) := by decide +kernel
theorem dX11_runOnce_29 : decode cX11_runOnce 29 = .ok (.getfield 40, 3) := by decide +kernel
theorem dX11_runOnce_32 : decode cX11_runOnce 32 = .ok (.aload_n 1, 1) := by decide +kernel
theorem dX11_runOnce_33 : decode cX11_runOnce 33 = .ok (.getfield 384, 3) := by decide +kernel
theorem dX11_runOnce_36 : decode cX11_runOnce 36 = .ok (.aload_n 1, 1) := by decide +kernel
theorem dX11_runOnce_37 : decode cX11_runOnce 37 = .ok (.iload_n 2, 1) := by decide +kernel
theorem dX11_runOnce_38 : decode cX11_runOnce 38 = .ok (.iconst 2, 1) := by decide +kernel
theorem dX11_runOnce_39 : decode cX11_runOnce 39 = .ok (.invokevirtual 378, 3) := by decide +kernel
theorem dX11_runOnce_42 : decode cX11_runOnce 42 = .ok (.invokevirtual 387, 3) := by decide +kernel
theorem dX11_runOnce_45 : decode cX11_runOnce 45 = .ok (.istore 6, 2) := by decide +kernel
theorem dX11_runOnce_47 : decode cX11_runOnce 47 = .ok (.iload 5, 2) := by decide +kernel
theorem dX11_runOnce_49 : decode cX11_runOnce 49 = .ok (.aload_n 0, 1) := by decide +kernel
theorem dX11_runOnce_50 : decode cX11_runOnce 50 = .ok (.getfield 40, 3) := by decide +kernel
theorem dX11_runOnce_53 : decode cX11_runOnce 53 = .ok (.getfield 394, 3) := by decide +kernel
theorem dX11_runOnce_56 : decode cX11_runOnce 56 = .ok (.ior, 1) := by decide +kernel
theorem dX11_runOnce_57 : decode cX11_runOnce 57 = .ok (.istore 5, 2) := by decide +kernel
theorem dX11_runOnce_59 : decode cX11_runOnce 59 = .ok (.iconst 0, 1) := by decide +kernel
theorem dX11_runOnce_60 : decode cX11_runOnce 60 = .ok (.istore 7, 2) := by decide +kernel
theorem dX11_runOnce_62 : decode cX11_runOnce 62 = .ok (.aload_n 1, 1) := by decide +kernel
theorem dX11_runOnce_63 : decode cX11_runOnce 63 = .ok (.iload_n 2, 1) := by decide +kernel
theorem dX11_runOnce_64 : decode cX11_runOnce 64 = .ok (.iconst 3, 1) := by decide +kernel
theorem dX11_runOnce_65 : decode cX11_runOnce 65 = .ok (.invokevirtual 378, 3) := by decide +kernel
theorem dX11_runOnce_68 : decode cX11_runOnce 68 = .ok (.iconst (-1), 1) := by decide +kernel
theorem dX11_runOnce_69 : decode cX11_runOnce 69 = .ok (.if_icmp .eq 34, 3) := by decide +kernel
theorem dX11_runOnce_72 : decode cX11_runOnce 72 = .ok (.aload_n 0, 1) := by decide +kernel
theorem dX11_runOnce_73 : decode cX11_runOnce 73 = .ok (.getfield 40, 3) := by decide +kernel
theorem dX11_runOnce_76 : decode cX11_runOnce 76 = .ok (.aload_n 1, 1) := by decide +kernel
theorem dX11_runOnce_77 : decode cX11_runOnce 77 = .ok (.getfield 384, 3) := by decide +kernel
theorem dX11_runOnce_80 : decode cX11_runOnce 80 = .ok (.aload_n 1, 1) := by decide +kernel
theorem dX11_runOnce_81 : decode cX11_runOnce 81 = .ok (.iload_n 2, 1) := by decide +kernel
theorem dX11_runOnce_82 : decode cX11_runOnce 82 = .ok (.iconst 3, 1) := by decide +kernel
theorem dX11_runOnce_83 : decode cX11_runOnce 83 = .ok (.invokevirtual 378, 3) := by decide +kernel
theorem dX11_runOnce_86 : decode cX11_runOnce 86 = .ok (.invokevirtual 387, 3) := by decide +kernel
theorem dX11_runOnce_89 : decode cX11_runOnce 89 = .ok (.istore 7, 2) := by decide +kernel
theorem dX11_runOnce_91 : decode cX11_runOnce 91 = .ok (.iload 5, 2) := by decide +kernel
theorem dX11_runOnce_93 : decode cX11_runOnce 93 = .ok (.aload_n 0, 1) := by decide +kernel
theorem dX11_runOnce_94 : decode cX11_runOnce 94 = .ok (.getfield 40, 3) := by decide +kernel
theorem dX11_runOnce_97 : decode cX11_runOnce 97 = .ok (.getfield 394, 3) := by decide +kernel
theorem dX11_runOnce_100 : decode cX11_runOnce 100 = .ok (.ior, 1) := by decide +kernel
theorem dX11_runOnce_101 : decode cX11_runOnce 101 = .ok (.istore 5, 2) := by decide +kernel
theorem dX11_runOnce_103 : decode cX11_runOnce 103 = .ok (.iload 6, 2) := by decide +kernel
theorem dX11_runOnce_105 : decode cX11_runOnce 105 = .ok (.i2l, 1) := by decide +kernel
theorem dX11_runOnce_106 : decode cX11_runOnce 106 = .ok (.iload 7, 2) := by decide +kernel
theorem dX11_runOnce_108 : decode cX11_runOnce 108 = .ok (.i2l, 1) := by decide +kernel
theorem dX11_runOnce_109 : decode cX11_runOnce 109 = .ok (.iload_n 3, 1) := by decide +kernel
theorem dX11_runOnce_110 : decode cX11_runOnce 110 = .ok (.i2l, 1) := by decide +kernel
theorem dX11_runOnce_111 : decode cX11_runOnce 111 = .ok (.lmul, 1) := by decide +kernel
theorem dX11_runOnce_112 : decode cX11_runOnce 112 = .ok (.ladd, 1) := by decide +kernel
theorem dX11_runOnce_113 : decode cX11_runOnce 113 = .ok (.lstore 8, 2) := by decide +kernel
theorem dX11_runOnce_115 : decode cX11_runOnce 115 = .ok (.iload 5, 2) := by decide +kernel
theorem dX11_runOnce_117 : decode cX11_runOnce 117 = .ok (.ifCond .ne 19, 3) := by decide +kernel
theorem dX11_runOnce_120 : decode cX11_runOnce 120 = .ok (.lload 8, 2) := by decide +kernel
theorem dX11_runOnce_122 : decode cX11_runOnce 122 = .ok (.lconst 0, 1) := by decide +kernel
theorem dX11_runOnce_123 : decode cX11_runOnce 123 = .ok (.lcmp, 1) := by decide +kernel
theorem dX11_runOnce_124 : decode cX11_runOnce 124 = .ok (.ifCond .lt 12, 3) := by decide +kernel
theorem dX11_runOnce_127 : decode cX11_runOnce 127 = .ok (.lload 8, 2) := by decide +kernel
theorem dX11_runOnce_129 : decode cX11_runOnce 129 = .ok (.ldc2_w 397, 3) := by decide +kernel
theorem dX11_runOnce_132 : decode cX11_runOnce 132 = .ok (.lcmp, 1) := by decide +kernel
theorem dX11_runOnce_133 : decode cX11_runOnce 133 = .ok (.ifCond .lt 6, 3) := by decide +kernel
theorem dX11_runOnce_136 : decode cX11_runOnce 136 = .ok (.bipush (-3), 2) := by decide +kernel
theorem dX11_runOnce_138 : decode cX11_runOnce 138 = .ok (.ireturn, 1) := by decide +kernel
theorem dX11_runOnce_139 : decode cX11_runOnce 139 = .ok (.aload_n 0, 1) := by decide +kernel
theorem dX11_runOnce_140 : decode cX11_runOnce 140 = .ok (.getfield 10, 3) := by decide +kernel
theorem dX11_runOnce_143 : decode cX11_runOnce 143 = .ok (.iload 4, 2) := by decide +kernel
theorem dX11_runOnce_145 : decode cX11_runOnce 145 = .ok (.lload 8, 2) := by decide +kernel
theorem dX11_runOnce_147 : decode cX11_runOnce 147 = .ok (.l2i, 1) := by decide +kernel
theorem dX11_runOnce_148 : decode cX11_runOnce 148 = .ok (.aload_n 1, 1) := by decide +kernel
theorem dX11_runOnce_149 : decode cX11_runOnce 149 = .ok (.iload_n 2, 1) := by decide +kernel
theorem dX11_runOnce_150 : decode cX11_runOnce 150 = .ok (.iconst 0, 1) := by decide +kernel
theorem dX11_runOnce_151 : decode cX11_runOnce 151 = .ok (.invokevirtual 378, 3) := by decide +kernel
theorem dX11_runOnce_154 : decode cX11_runOnce 154 = .ok (.iconst 3, 1) := by decide +kernel
theorem dX11_runOnce_155 : decode cX11_runOnce 155 = .ok (.if_icmp .ne 7, 3) := by decide +kernel
theorem dX11_runOnce_158 : decode cX11_runOnce 158 = .ok (.iconst 1, 1) := by decide +kernel
theorem dX11_runOnce_159 : decode cX11_runOnce 159 = .ok (.goto 4, 3) := by decide +kernel
theorem dX11_runOnce_162 : decode cX11_runOnce 162 = .ok (.iconst 0, 1) := by decide +kernel
theorem dX11_runOnce_163 : decode cX11_runOnce 163 = .ok (.invokevirtual 181, 3) := by decide +kernel
theorem dX11_runOnce_166 : decode cX11_runOnce 166 = .ok (.istore 10, 2) := by decide +kernel
theorem dX11_runOnce_168 : decode cX11_runOnce 168 = .ok (.iload 10, 2) := by decide +kernel
theorem dX11_runOnce_170 : decode cX11_runOnce 170 = .ok (.ifCond .eq 10, 3) := by decide +kernel
theorem dX11_runOnce_173 : decode cX11_runOnce 173 = .ok (.iload 10, 2) := by decide +kernel
theorem dX11_runOnce_175 : decode cX11_runOnce 175 = .ok (.bipush (-5), 2) := by decide +kernel
theorem dX11_runOnce_177 : decode cX11_runOnce 177 = .ok (.if_icmp .ne 8, 3) := by decide +kernel
theorem dX11_runOnce_180 : decode cX11_runOnce 180 = .ok (.iload 10, 2) := by decide +kernel
theorem dX11_runOnce_182 : decode cX11_runOnce 182 = .ok (.goto 5, 3) := by decide +kernel
theorem dX11_runOnce_185 : decode cX11_runOnce 185 = .ok (.bipush (-3), 2) := by decide +kernel
theorem dX11_runOnce_187 : decode cX11_runOnce 187 = .ok (.ireturn, 1) := by decide +kernel
set_option maxRecDepth 20000 in
theorem T_X11_runOnce {Q : Option Value → ah_T → Prop} {h : ah_T} (hs : Sh h) (a1 : Nat) (x2 : Int32) (x3 : Int32) (hk_a1 : ah_k h a1 = 9) (ht : (∃ b1, ah_r h a1 0 = some b1 ∧ ah_k h b1 = 14 ∧ (Mt mX9_part [.ref a1, .int x2, .int 1] h (ab_qi fun v6 h4 => Sh h4 ∧ ah_k h4 a1 = 9 ∧ ah_k h4 b1 = 14 ∧ ah_r h4 a1 0 = some b1 ∧ ah_k h4 b1 = 14 ∧ (Mt mX2_run [.ref 26, .ref b1, .int v6] h4 (ab_qi fun v13 h11 => Sh h11 ∧ ah_k h11 a1 = 9 ∧ ah_r h11 a1 0 = some b1 ∧ ah_k h11 b1 = 14 ∧ (Mt mX9_part [.ref a1, .int x2, .int 2] h11 (ab_qi fun v19 h17 => Sh h17 ∧ ah_k h17 a1 = 9 ∧ ah_k h17 b1 = 14 ∧ ah_r h17 a1 0 = some b1 ∧ ah_k h17 b1 = 14 ∧ (Mt mX2_run [.ref 26, .ref b1, .int v19] h17 (ab_qi fun v26 h24 => Sh h24 ∧ ah_k h24 a1 = 9 ∧ ah_r h24 a1 0 = some b1 ∧ ah_k h24 b1 = 14 ∧ (Mt mX9_part [.ref a1, .int x2, .int 3] h24 (ab_qi fun v32 h30 => Sh h30 ∧ ah_k h30 a1 = 9 ∧ ah_r h30 a1 0 = some b1 ∧ ah_k h30 b1 = 14 ∧ ((v32 = (-1) → ((¬ ((ah_i h11 26 1) ||| (ah_i h24 26 1)) = 0 → Q (some (.int (-3))) h30) ∧ (((ah_i h11 26 1) ||| (ah_i h24 26 1)) = 0 → (((lg_cmp ((v26).toInt64 + (((0 : Int32)).toInt64 * (x3).toInt64)) (0 : Int64)) < 0 → Q (some (.int (-3))) h30) ∧ (¬ (lg_cmp ((v26).toInt64 + (((0 : Int32)).toInt64 * (x3).toInt64)) (0 : Int64)) < 0 → (((lg_cmp ((v26).toInt64 + (((0 : Int32)).toInt64 * (x3).toInt64)) (120 : Int64)) < 0 → (Mt mX9_part [.ref a1, .int x2, .int 0] h30 (ab_qi fun v42 h40 => Sh h40 ∧ ah_k h40 a1 = 9 ∧ ah_r h40 a1 0 = some b1 ∧ ah_k h40 b1 = 14 ∧ ((¬ v42 = 3 → (Mt mX10_tell [.ref 1, .int v13, .int ((((v26).toInt64 + (((0 : Int32)).toInt64 * (x3).toInt64))).toInt32), .int 0] h40 (ab_qi fun v49 h47 => Sh h47 ∧ ah_k h47 a1 = 9 ∧ ah_r h47 a1 0 = some b1 ∧ ah_k h47 b1 = 14 ∧ ((v49 = 0 → Q (some (.int v49)) h47) ∧ (¬ v49 = 0 → ((¬ v49 = (-5) → Q (some (.int (-3))) h47) ∧ (v49 = (-5) → Q (some (.int v49)) h47))))))) ∧ (v42 = 3 → (Mt mX10_tell [.ref 1, .int v13, .int ((((v26).toInt64 + (((0 : Int32)).toInt64 * (x3).toInt64))).toInt32), .int 1] h40 (ab_qi fun v57 h55 => Sh h55 ∧ ah_k h55 a1 = 9 ∧ ah_r h55 a1 0 = some b1 ∧ ah_k h55 b1 = 14 ∧ ((v57 = 0 → Q (some (.int v57)) h55) ∧ (¬ v57 = 0 → ((¬ v57 = (-5) → Q (some (.int (-3))) h55) ∧ (v57 = (-5) → Q (some (.int v57)) h55))))))))))) ∧ (¬ (lg_cmp ((v26).toInt64 + (((0 : Int32)).toInt64 * (x3).toInt64)) (120 : Int64)) < 0 → Q (some (.int (-3))) h30))))))) ∧ (¬ v32 = (-1) → (Mt mX9_part [.ref a1, .int x2, .int 3] h30 (ab_qi fun v65 h63 => Sh h63 ∧ ah_k h63 a1 = 9 ∧ ah_k h63 b1 = 14 ∧ ah_r h63 a1 0 = some b1 ∧ ah_k h63 b1 = 14 ∧ (Mt mX2_run [.ref 26, .ref b1, .int v65] h63 (ab_qi fun v72 h70 => Sh h70 ∧ ah_k h70 a1 = 9 ∧ ah_r h70 a1 0 = some b1 ∧ ah_k h70 b1 = 14 ∧ ((¬ (((ah_i h11 26 1) ||| (ah_i h24 26 1)) ||| (ah_i h70 26 1)) = 0 → Q (some (.int (-3))) h70) ∧ ((((ah_i h11 26 1) ||| (ah_i h24 26 1)) ||| (ah_i h70 26 1)) = 0 → (((lg_cmp ((v26).toInt64 + ((v72).toInt64 * (x3).toInt64)) (0 : Int64)) < 0 → Q (some (.int (-3))) h70) ∧ (¬ (lg_cmp ((v26).toInt64 + ((v72).toInt64 * (x3).toInt64)) (0 : Int64)) < 0 → (((lg_cmp ((v26).toInt64 + ((v72).toInt64 * (x3).toInt64)) (120 : Int64)) < 0 → (Mt mX9_part [.ref a1, .int x2, .int 0] h70 (ab_qi fun v81 h79 => Sh h79 ∧ ah_k h79 a1 = 9 ∧ ah_r h79 a1 0 = some b1 ∧ ah_k h79 b1 = 14 ∧ ((¬ v81 = 3 → (Mt mX10_tell [.ref 1, .int v13, .int ((((v26).toInt64 + ((v72).toInt64 * (x3).toInt64))).toInt32), .int 0] h79 (ab_qi fun v88 h86 => Sh h86 ∧ ah_k h86 a1 = 9 ∧ ah_r h86 a1 0 = some b1 ∧ ah_k h86 b1 = 14 ∧ ((v88 = 0 → Q (some (.int v88)) h86) ∧ (¬ v88 = 0 → ((¬ v88 = (-5) → Q (some (.int (-3))) h86) ∧ (v88 = (-5) → Q (some (.int v88)) h86))))))) ∧ (v81 = 3 → (Mt mX10_tell [.ref 1, .int v13, .int ((((v26).toInt64 + ((v72).toInt64 * (x3).toInt64))).toInt32), .int 1] h79 (ab_qi fun v96 h94 => Sh h94 ∧ ah_k h94 a1 = 9 ∧ ah_r h94 a1 0 = some b1 ∧ ah_k h94 b1 = 14 ∧ ((v96 = 0 → Q (some (.int v96)) h94) ∧ (¬ v96 = 0 → ((¬ v96 = (-5) → Q (some (.int (-3))) h94) ∧ (v96 = (-5) → Q (some (.int v96)) h94))))))))))) ∧ (¬ (lg_cmp ((v26).toInt64 + ((v72).toInt64 * (x3).toInt64)) (120 : Int64)) < 0 → Q (some (.int (-3))) h70)))))))))))))))))))))))) : Mt mX11_runOnce [.ref 0, .ref a1, .int x2, .int x3] h Q := by
  refine Mt.ofWp rfl (by exact (Nat.le_of_ble_eq_true rfl)) (Wp.fewer (L' := [some (.ref 0), some (.ref a1), some (.int x2), some (.int x3), none, none, none, none, none, none, none]) (show ab_leL _ _ from ⟨rfl, ⟨rfl, ⟨rfl, ⟨rfl, trivial⟩⟩⟩⟩) ?_)
  refine ab_aload_n (i := 0) dX11_runOnce_0 rfl rfl ?_
  refine ab_getR (b := 26) f_X11_40 rfl (sh_k hs 0 11 (by decide) rfl) (sh_r hs 6 rfl) dX11_runOnce_1 ?_
  refine ab_aload_n (i := 1) dX11_runOnce_4 rfl rfl ?_
  obtain ⟨b1, hr2, hk3, ht⟩ := ht
  refine ab_getR (b := b1) f_X11_384 rfl hk_a1 hr2 dX11_runOnce_5 ?_
  refine ab_aload_n (i := 1) dX11_runOnce_8 rfl rfl ?_
  refine ab_iload_n (i := 2) dX11_runOnce_9 rfl rfl ?_
  refine ab_iconst (v := 1) dX11_runOnce_10 (by decide) ?_
  refine ab_callV (b := a1) (As := [.int x2, .int 1]) ht (Y_X9_part) l_X11_378 in_X9_part se_X9_part hk_a1 (by decide) rfl rfl ⟨(Nat.le_of_ble_eq_true rfl), (Nat.le_of_ble_eq_true rfl), (Nat.le_of_ble_eq_true rfl), (Nat.le_of_ble_eq_true rfl)⟩ dX11_runOnce_11 ?_
  rintro _ h4 ⟨v6, rfl, hs5, hk7, hk8, hr9, hk10, ht⟩
  refine ab_callV (b := 26) (As := [.ref b1, .int v6]) ht (Y_X2_run) l_X11_387 in_X2_run se_X2_run (sh_k hs5 26 2 (by decide) rfl) (by decide) rfl rfl ⟨(Nat.le_of_ble_eq_true rfl), (Nat.le_of_ble_eq_true rfl), (Nat.le_of_ble_eq_true rfl), (Nat.le_of_ble_eq_true rfl)⟩ dX11_runOnce_14 ?_
  rintro _ h11 ⟨v13, rfl, hs12, hk14, hr15, hk16, ht⟩
  refine ab_istore (i := 4) (L' := [some (.ref 0), some (.ref a1), some (.int x2), some (.int x3), some (.int v13), none, none, none, none, none, none]) dX11_runOnce_17 (by exact (Nat.le_of_ble_eq_true rfl)) rfl rfl ?_
  refine ab_aload_n (i := 0) dX11_runOnce_19 rfl rfl ?_
  refine ab_getR (b := 26) f_X11_40 rfl (sh_k hs12 0 11 (by decide) rfl) (sh_r hs12 6 rfl) dX11_runOnce_20 ?_
  refine ab_getI f_X11_394 rfl (sh_k hs12 26 2 (by decide) rfl) dX11_runOnce_23 ?_
  refine ab_istore (i := 5) (L' := [some (.ref 0), some (.ref a1), some (.int x2), some (.int x3), some (.int v13), some (.int (ah_i h11 26 1)), none, none, none, none, none]) dX11_runOnce_26 (by exact (Nat.le_of_ble_eq_true rfl)) rfl rfl ?_
  refine ab_aload_n (i := 0) dX11_runOnce_28 rfl rfl ?_
  refine ab_getR (b := 26) f_X11_40 rfl (sh_k hs12 0 11 (by decide) rfl) (sh_r hs12 6 rfl) dX11_runOnce_29 ?_
  refine ab_aload_n (i := 1) dX11_runOnce_32 rfl rfl ?_
  refine ab_getR (b := b1) f_X11_384 rfl hk14 hr15 dX11_runOnce_33 ?_
  refine ab_aload_n (i := 1) dX11_runOnce_36 rfl rfl ?_
  refine ab_iload_n (i := 2) dX11_runOnce_37 rfl rfl ?_
  refine ab_iconst (v := 2) dX11_runOnce_38 (by decide) ?_
  refine ab_callV (b := a1) (As := [.int x2, .int 2]) ht (Y_X9_part) l_X11_378 in_X9_part se_X9_part hk14 (by decide) rfl rfl ⟨(Nat.le_of_ble_eq_true rfl), (Nat.le_of_ble_eq_true rfl), (Nat.le_of_ble_eq_true rfl), (Nat.le_of_ble_eq_true rfl)⟩ dX11_runOnce_39 ?_
  rintro _ h17 ⟨v19, rfl, hs18, hk20, hk21, hr22, hk23, ht⟩
  refine ab_callV (b := 26) (As := [.ref b1, .int v19]) ht (Y_X2_run) l_X11_387 in_X2_run se_X2_run (sh_k hs18 26 2 (by decide) rfl) (by decide) rfl rfl ⟨(Nat.le_of_ble_eq_true rfl), (Nat.le_of_ble_eq_true rfl), (Nat.le_of_ble_eq_true rfl), (Nat.le_of_ble_eq_true rfl)⟩ dX11_runOnce_42 ?_
  rintro _ h24 ⟨v26, rfl, hs25, hk27, hr28, hk29, ht⟩
  refine ab_istore (i := 6) (L' := [some (.ref 0), some (.ref a1), some (.int x2), some (.int x3), some (.int v13), some (.int (ah_i h11 26 1)), some (.int v26), none, none, none, none]) dX11_runOnce_45 (by exact (Nat.le_of_ble_eq_true rfl)) rfl rfl ?_
  refine ab_iload (i := 5) dX11_runOnce_47 rfl ?_
  refine ab_aload_n (i := 0) dX11_runOnce_49 rfl rfl ?_
  refine ab_getR (b := 26) f_X11_40 rfl (sh_k hs25 0 11 (by decide) rfl) (sh_r hs25 6 rfl) dX11_runOnce_50 ?_
  refine ab_getI f_X11_394 rfl (sh_k hs25 26 2 (by decide) rfl) dX11_runOnce_53 ?_
  refine ab_ior dX11_runOnce_56 ?_
  refine ab_istore (i := 5) (L' := [some (.ref 0), some (.ref a1), some (.int x2), some (.int x3), some (.int v13), some (.int ((ah_i h11 26 1) ||| (ah_i h24 26 1))), some (.int v26), none, none, none, none]) dX11_runOnce_57 (by exact (Nat.le_of_ble_eq_true rfl)) rfl rfl ?_
  refine ab_iconst (v := 0) dX11_runOnce_59 (by decide) ?_
  refine ab_istore (i := 7) (L' := [some (.ref 0), some (.ref a1), some (.int x2), some (.int x3), some (.int v13), some (.int ((ah_i h11 26 1) ||| (ah_i h24 26 1))), some (.int v26), some (.int 0), none, none, none]) dX11_runOnce_60 (by exact (Nat.le_of_ble_eq_true rfl)) rfl rfl ?_
  refine ab_aload_n (i := 1) dX11_runOnce_62 rfl rfl ?_
  refine ab_iload_n (i := 2) dX11_runOnce_63 rfl rfl ?_
  refine ab_iconst (v := 3) dX11_runOnce_64 (by decide) ?_
  refine ab_callV (b := a1) (As := [.int x2, .int 3]) ht (Y_X9_part) l_X11_378 in_X9_part se_X9_part hk27 (by decide) rfl rfl ⟨(Nat.le_of_ble_eq_true rfl), (Nat.le_of_ble_eq_true rfl), (Nat.le_of_ble_eq_true rfl), (Nat.le_of_ble_eq_true rfl)⟩ dX11_runOnce_65 ?_
  rintro _ h30 ⟨v32, rfl, hs31, hk33, hr34, hk35, ht⟩
  refine ab_iconst (v := (-1)) dX11_runOnce_68 (by decide) ?_
  refine ab_icmp_eq (tgt := 103) dX11_runOnce_69 (by decide) (fun c36 => ?_) (fun c36 => ?_)
  · have ht := ht.1 c36
    refine ab_iload (i := 6) dX11_runOnce_103 rfl ?_
    refine ab_i2l dX11_runOnce_105 ?_
    refine ab_iload (i := 7) dX11_runOnce_106 rfl ?_
    refine ab_i2l dX11_runOnce_108 ?_
    refine ab_iload_n (i := 3) dX11_runOnce_109 rfl rfl ?_
    refine ab_i2l dX11_runOnce_110 ?_
    refine ab_lmul dX11_runOnce_111 ?_
    refine ab_ladd dX11_runOnce_112 ?_
    refine ab_lstore (i := 8) (L' := [some (.ref 0), some (.ref a1), some (.int x2), some (.int x3), some (.int v13), some (.int ((ah_i h11 26 1) ||| (ah_i h24 26 1))), some (.int v26), some (.int 0), some (.long ((v26).toInt64 + (((0 : Int32)).toInt64 * (x3).toInt64))), none, none]) dX11_runOnce_113 (by exact (Nat.le_of_ble_eq_true rfl)) rfl rfl ?_
    refine ab_iload (i := 5) dX11_runOnce_115 rfl ?_
    refine ab_if_ne (tgt := 136) dX11_runOnce_117 (by decide) (fun c37 => ?_) (fun c37 => ?_)
    · have ht := ht.1 c37
      refine ab_bipush (v := (-3)) dX11_runOnce_136 (by decide) ?_
      exact ab_iret rfl dX11_runOnce_138 (Nat.le_of_ble_eq_true rfl) (Nat.le_of_ble_eq_true rfl) ht
    · have ht := ht.2 c37
      refine ab_lload (i := 8) dX11_runOnce_120 rfl ?_
      refine ab_lconst (v := 0) dX11_runOnce_122 (by decide) ?_
      refine ab_lcmp dX11_runOnce_123 ?_
      refine ab_if_lt (tgt := 136) dX11_runOnce_124 (by decide) (fun c38 => ?_) (fun c38 => ?_)
      · have ht := ht.1 c38
        refine ab_bipush (v := (-3)) dX11_runOnce_136 (by decide) ?_
        exact ab_iret rfl dX11_runOnce_138 (Nat.le_of_ble_eq_true rfl) (Nat.le_of_ble_eq_true rfl) ht
      · have ht := ht.2 c38
        refine ab_lload (i := 8) dX11_runOnce_127 rfl ?_
        refine ab_ldc2 (v := 120) (tb_5 (List.mem_of_getElem? (i := 22) (by decide +kernel)) rfl) dX11_runOnce_129 ?_
        refine ab_lcmp dX11_runOnce_132 ?_
        refine ab_if_lt (tgt := 139) dX11_runOnce_133 (by decide) (fun c39 => ?_) (fun c39 => ?_)
        · have ht := ht.1 c39
          refine ab_aload_n (i := 0) dX11_runOnce_139 rfl rfl ?_
          refine ab_getR (b := 1) f_X11_10 rfl (sh_k hs31 0 11 (by decide) rfl) (sh_r hs31 0 rfl) dX11_runOnce_140 ?_
          refine ab_iload (i := 4) dX11_runOnce_143 rfl ?_
          refine ab_lload (i := 8) dX11_runOnce_145 rfl ?_
          refine ab_l2i dX11_runOnce_147 ?_
          refine ab_aload_n (i := 1) dX11_runOnce_148 rfl rfl ?_
          refine ab_iload_n (i := 2) dX11_runOnce_149 rfl rfl ?_
          refine ab_iconst (v := 0) dX11_runOnce_150 (by decide) ?_
          refine ab_callV (b := a1) (As := [.int x2, .int 0]) ht (Y_X9_part) l_X11_378 in_X9_part se_X9_part hk33 (by decide) rfl rfl ⟨(Nat.le_of_ble_eq_true rfl), (Nat.le_of_ble_eq_true rfl), (Nat.le_of_ble_eq_true rfl), (Nat.le_of_ble_eq_true rfl)⟩ dX11_runOnce_151 ?_
          rintro _ h40 ⟨v42, rfl, hs41, hk43, hr44, hk45, ht⟩
          refine ab_iconst (v := 3) dX11_runOnce_154 (by decide) ?_
          refine ab_icmp_ne (tgt := 162) dX11_runOnce_155 (by decide) (fun c46 => ?_) (fun c46 => ?_)
          · have ht := ht.1 c46
            refine ab_iconst (v := 0) dX11_runOnce_162 (by decide) ?_
            refine ab_callV (b := 1) (As := [.int v13, .int ((((v26).toInt64 + (((0 : Int32)).toInt64 * (x3).toInt64))).toInt32), .int 0]) ht (Y_X10_tell) l_X11_181 in_X10_tell se_X10_tell (sh_k hs41 1 10 (by decide) rfl) (by decide) rfl rfl ⟨(Nat.le_of_ble_eq_true rfl), (Nat.le_of_ble_eq_true rfl), (Nat.le_of_ble_eq_true rfl), (Nat.le_of_ble_eq_true rfl)⟩ dX11_runOnce_163 ?_
            rintro _ h47 ⟨v49, rfl, hs48, hk50, hr51, hk52, ht⟩
            refine ab_istore (i := 10) (L' := [some (.ref 0), some (.ref a1), some (.int x2), some (.int x3), some (.int v13), some (.int ((ah_i h11 26 1) ||| (ah_i h24 26 1))), some (.int v26), some (.int 0), some (.long ((v26).toInt64 + (((0 : Int32)).toInt64 * (x3).toInt64))), none, some (.int v49)]) dX11_runOnce_166 (by exact (Nat.le_of_ble_eq_true rfl)) rfl rfl ?_
            refine ab_iload (i := 10) dX11_runOnce_168 rfl ?_
            refine ab_if_eq (tgt := 180) dX11_runOnce_170 (by decide) (fun c53 => ?_) (fun c53 => ?_)
            · have ht := ht.1 c53
              refine ab_iload (i := 10) dX11_runOnce_180 rfl ?_
              refine ab_goto (tgt := 187) dX11_runOnce_182 (by decide) ?_
              exact ab_iret rfl dX11_runOnce_187 (Nat.le_of_ble_eq_true rfl) (Nat.le_of_ble_eq_true rfl) ht
            · have ht := ht.2 c53
              refine ab_iload (i := 10) dX11_runOnce_173 rfl ?_
              refine ab_bipush (v := (-5)) dX11_runOnce_175 (by decide) ?_
              refine ab_icmp_ne (tgt := 185) dX11_runOnce_177 (by decide) (fun c54 => ?_) (fun c54 => ?_)
              · have ht := ht.1 c54
                refine ab_bipush (v := (-3)) dX11_runOnce_185 (by decide) ?_
                exact ab_iret rfl dX11_runOnce_187 (Nat.le_of_ble_eq_true rfl) (Nat.le_of_ble_eq_true rfl) ht
              · have ht := ht.2 c54
                refine ab_iload (i := 10) dX11_runOnce_180 rfl ?_
                refine ab_goto (tgt := 187) dX11_runOnce_182 (by decide) ?_
                exact ab_iret rfl dX11_runOnce_187 (Nat.le_of_ble_eq_true rfl) (Nat.le_of_ble_eq_true rfl) ht
          · have ht := ht.2 c46
            refine ab_iconst (v := 1) dX11_runOnce_158 (by decide) ?_
            refine ab_goto (tgt := 163) dX11_runOnce_159 (by decide) ?_
            refine ab_callV (b := 1) (As := [.int v13, .int ((((v26).toInt64 + (((0 : Int32)).toInt64 * (x3).toInt64))).toInt32), .int 1]) ht (Y_X10_tell) l_X11_181 in_X10_tell se_X10_tell (sh_k hs41 1 10 (by decide) rfl) (by decide) rfl rfl ⟨(Nat.le_of_ble_eq_true rfl), (Nat.le_of_ble_eq_true rfl), (Nat.le_of_ble_eq_true rfl), (Nat.le_of_ble_eq_true rfl)⟩ dX11_runOnce_163 ?_
            rintro _ h55 ⟨v57, rfl, hs56, hk58, hr59, hk60, ht⟩
            refine ab_istore (i := 10) (L' := [some (.ref 0), some (.ref a1), some (.int x2), some (.int x3), some (.int v13), some (.int ((ah_i h11 26 1) ||| (ah_i h24 26 1))), some (.int v26), some (.int 0), some (.long ((v26).toInt64 + (((0 : Int32)).toInt64 * (x3).toInt64))), none, some (.int v57)]) dX11_runOnce_166 (by exact (Nat.le_of_ble_eq_true rfl)) rfl rfl ?_
            refine ab_iload (i := 10) dX11_runOnce_168 rfl ?_
            refine ab_if_eq (tgt := 180) dX11_runOnce_170 (by decide) (fun c61 => ?_) (fun c61 => ?_)
            · have ht := ht.1 c61
              refine ab_iload (i := 10) dX11_runOnce_180 rfl ?_
              refine ab_goto (tgt := 187) dX11_runOnce_182 (by decide) ?_
              exact ab_iret rfl dX11_runOnce_187 (Nat.le_of_ble_eq_true rfl) (Nat.le_of_ble_eq_true rfl) ht
            · have ht := ht.2 c61
              refine ab_iload (i := 10) dX11_runOnce_173 rfl ?_
              refine ab_bipush (v := (-5)) dX11_runOnce_175 (by decide) ?_
              refine ab_icmp_ne (tgt := 185) dX11_runOnce_177 (by decide) (fun c62 => ?_) (fun c62 => ?_)
              · have ht := ht.1 c62
                refine ab_bipush (v := (-3)) dX11_runOnce_185 (by decide) ?_
                exact ab_iret rfl dX11_runOnce_187 (Nat.le_of_ble_eq_true rfl) (Nat.le_of_ble_eq_true rfl) ht
              · have ht := ht.2 c62
                refine ab_iload (i := 10) dX11_runOnce_180 rfl ?_
                refine ab_goto (tgt := 187) dX11_runOnce_182 (by decide) ?_
                exact ab_iret rfl dX11_runOnce_187 (Nat.le_of_ble_eq_true rfl) (Nat.le_of_ble_eq_true rfl) ht
        · have ht := ht.2 c39
          refine ab_bipush (v := (-3)) dX11_runOnce_136 (by decide) ?_
          exact ab_iret rfl dX11_runOnce_138 (Nat.le_of_ble_eq_true rfl) (Nat.le_of_ble_eq_true rfl) ht
  · have ht := ht.2 c36
    refine ab_aload_n (i := 0) dX11_runOnce_72 rfl rfl ?_
    refine ab_getR (b := 26) f_X11_40 rfl (sh_k hs31 0 11 (by decide) rfl) (sh_r hs31 6 rfl) dX11_runOnce_73 ?_
    refine ab_aload_n (i := 1) dX11_runOnce_76 rfl rfl ?_
    refine ab_getR (b := b1) f_X11_384 rfl hk33 hr34 dX11_runOnce_77 ?_
    refine ab_aload_n (i := 1) dX11_runOnce_80 rfl rfl ?_
    refine ab_iload_n (i := 2) dX11_runOnce_81 rfl rfl ?_
    refine ab_iconst (v := 3) dX11_runOnce_82 (by decide) ?_
    refine ab_callV (b := a1) (As := [.int x2, .int 3]) ht (Y_X9_part) l_X11_378 in_X9_part se_X9_part hk33 (by decide) rfl rfl ⟨(Nat.le_of_ble_eq_true rfl), (Nat.le_of_ble_eq_true rfl), (Nat.le_of_ble_eq_true rfl), (Nat.le_of_ble_eq_true rfl)⟩ dX11_runOnce_83 ?_
    rintro _ h63 ⟨v65, rfl, hs64, hk66, hk67, hr68, hk69, ht⟩
    refine ab_callV (b := 26) (As := [.ref b1, .int v65]) ht (Y_X2_run) l_X11_387 in_X2_run se_X2_run (sh_k hs64 26 2 (by decide) rfl) (by decide) rfl rfl ⟨(Nat.le_of_ble_eq_true rfl), (Nat.le_of_ble_eq_true rfl), (Nat.le_of_ble_eq_true rfl), (Nat.le_of_ble_eq_true rfl)⟩ dX11_runOnce_86 ?_
    rintro _ h70 ⟨v72, rfl, hs71, hk73, hr74, hk75, ht⟩
    refine ab_istore (i := 7) (L' := [some (.ref 0), some (.ref a1), some (.int x2), some (.int x3), some (.int v13), some (.int ((ah_i h11 26 1) ||| (ah_i h24 26 1))), some (.int v26), some (.int v72), none, none, none]) dX11_runOnce_89 (by exact (Nat.le_of_ble_eq_true rfl)) rfl rfl ?_
    refine ab_iload (i := 5) dX11_runOnce_91 rfl ?_
    refine ab_aload_n (i := 0) dX11_runOnce_93 rfl rfl ?_
    refine ab_getR (b := 26) f_X11_40 rfl (sh_k hs71 0 11 (by decide) rfl) (sh_r hs71 6 rfl) dX11_runOnce_94 ?_
    refine ab_getI f_X11_394 rfl (sh_k hs71 26 2 (by decide) rfl) dX11_runOnce_97 ?_
    refine ab_ior dX11_runOnce_100 ?_
    refine ab_istore (i := 5) (L' := [some (.ref 0), some (.ref a1), some (.int x2), some (.int x3), some (.int v13), some (.int (((ah_i h11 26 1) ||| (ah_i h24 26 1)) ||| (ah_i h70 26 1))), some (.int v26), some (.int v72), none, none, none]) dX11_runOnce_101 (by exact (Nat.le_of_ble_eq_true rfl)) rfl rfl ?_
    refine ab_iload (i := 6) dX11_runOnce_103 rfl ?_
    refine ab_i2l dX11_runOnce_105 ?_
    refine ab_iload (i := 7) dX11_runOnce_106 rfl ?_
    refine ab_i2l dX11_runOnce_108 ?_
    refine ab_iload_n (i := 3) dX11_runOnce_109 rfl rfl ?_
    refine ab_i2l dX11_runOnce_110 ?_
    refine ab_lmul dX11_runOnce_111 ?_
    refine ab_ladd dX11_runOnce_112 ?_
    refine ab_lstore (i := 8) (L' := [some (.ref 0), some (.ref a1), some (.int x2), some (.int x3), some (.int v13), some (.int (((ah_i h11 26 1) ||| (ah_i h24 26 1)) ||| (ah_i h70 26 1))), some (.int v26), some (.int v72), some (.long ((v26).toInt64 + ((v72).toInt64 * (x3).toInt64))), none, none]) dX11_runOnce_113 (by exact (Nat.le_of_ble_eq_true rfl)) rfl rfl ?_
    refine ab_iload (i := 5) dX11_runOnce_115 rfl ?_
    refine ab_if_ne (tgt := 136) dX11_runOnce_117 (by decide) (fun c76 => ?_) (fun c76 => ?_)
    · have ht := ht.1 c76
      refine ab_bipush (v := (-3)) dX11_runOnce_136 (by decide) ?_
      exact ab_iret rfl dX11_runOnce_138 (Nat.le_of_ble_eq_true rfl) (Nat.le_of_ble_eq_true rfl) ht
    · have ht := ht.2 c76
      refine ab_lload (i := 8) dX11_runOnce_120 rfl ?_
      refine ab_lconst (v := 0) dX11_runOnce_122 (by decide) ?_
      refine ab_lcmp dX11_runOnce_123 ?_
      refine ab_if_lt (tgt := 136) dX11_runOnce_124 (by decide) (fun c77 => ?_) (fun c77 => ?_)
      · have ht := ht.1 c77
        refine ab_bipush (v := (-3)) dX11_runOnce_136 (by decide) ?_
        exact ab_iret rfl dX11_runOnce_138 (Nat.le_of_ble_eq_true rfl) (Nat.le_of_ble_eq_true rfl) ht
      · have ht := ht.2 c77
        refine ab_lload (i := 8) dX11_runOnce_127 rfl ?_
        refine ab_ldc2 (v := 120) (tb_5 (List.mem_of_getElem? (i := 22) (by decide +kernel)) rfl) dX11_runOnce_129 ?_
        refine ab_lcmp dX11_runOnce_132 ?_
        refine ab_if_lt (tgt := 139) dX11_runOnce_133 (by decide) (fun c78 => ?_) (fun c78 => ?_)
        · have ht := ht.1 c78
          refine ab_aload_n (i := 0) dX11_runOnce_139 rfl rfl ?_
          refine ab_getR (b := 1) f_X11_10 rfl (sh_k hs71 0 11 (by decide) rfl) (sh_r hs71 0 rfl) dX11_runOnce_140 ?_
          refine ab_iload (i := 4) dX11_runOnce_143 rfl ?_
          refine ab_lload (i := 8) dX11_runOnce_145 rfl ?_
          refine ab_l2i dX11_runOnce_147 ?_
          refine ab_aload_n (i := 1) dX11_runOnce_148 rfl rfl ?_
          refine ab_iload_n (i := 2) dX11_runOnce_149 rfl rfl ?_
          refine ab_iconst (v := 0) dX11_runOnce_150 (by decide) ?_
          refine ab_callV (b := a1) (As := [.int x2, .int 0]) ht (Y_X9_part) l_X11_378 in_X9_part se_X9_part hk73 (by decide) rfl rfl ⟨(Nat.le_of_ble_eq_true rfl), (Nat.le_of_ble_eq_true rfl), (Nat.le_of_ble_eq_true rfl), (Nat.le_of_ble_eq_true rfl)⟩ dX11_runOnce_151 ?_
          rintro _ h79 ⟨v81, rfl, hs80, hk82, hr83, hk84, ht⟩
          refine ab_iconst (v := 3) dX11_runOnce_154 (by decide) ?_
          refine ab_icmp_ne (tgt := 162) dX11_runOnce_155 (by decide) (fun c85 => ?_) (fun c85 => ?_)
          · have ht := ht.1 c85
            refine ab_iconst (v := 0) dX11_runOnce_162 (by decide) ?_
            refine ab_callV (b := 1) (As := [.int v13, .int ((((v26).toInt64 + ((v72).toInt64 * (x3).toInt64))).toInt32), .int 0]) ht (Y_X10_tell) l_X11_181 in_X10_tell se_X10_tell (sh_k hs80 1 10 (by decide) rfl) (by decide) rfl rfl ⟨(Nat.le_of_ble_eq_true rfl), (Nat.le_of_ble_eq_true rfl), (Nat.le_of_ble_eq_true rfl), (Nat.le_of_ble_eq_true rfl)⟩ dX11_runOnce_163 ?_
            rintro _ h86 ⟨v88, rfl, hs87, hk89, hr90, hk91, ht⟩
            refine ab_istore (i := 10) (L' := [some (.ref 0), some (.ref a1), some (.int x2), some (.int x3), some (.int v13), some (.int (((ah_i h11 26 1) ||| (ah_i h24 26 1)) ||| (ah_i h70 26 1))), some (.int v26), some (.int v72), some (.long ((v26).toInt64 + ((v72).toInt64 * (x3).toInt64))), none, some (.int v88)]) dX11_runOnce_166 (by exact (Nat.le_of_ble_eq_true rfl)) rfl rfl ?_
            refine ab_iload (i := 10) dX11_runOnce_168 rfl ?_
            refine ab_if_eq (tgt := 180) dX11_runOnce_170 (by decide) (fun c92 => ?_) (fun c92 => ?_)
            · have ht := ht.1 c92
              refine ab_iload (i := 10) dX11_runOnce_180 rfl ?_
              refine ab_goto (tgt := 187) dX11_runOnce_182 (by decide) ?_
              exact ab_iret rfl dX11_runOnce_187 (Nat.le_of_ble_eq_true rfl) (Nat.le_of_ble_eq_true rfl) ht
            · have ht := ht.2 c92
              refine ab_iload (i := 10) dX11_runOnce_173 rfl ?_
              refine ab_bipush (v := (-5)) dX11_runOnce_175 (by decide) ?_
              refine ab_icmp_ne (tgt := 185) dX11_runOnce_177 (by decide) (fun c93 => ?_) (fun c93 => ?_)
              · have ht := ht.1 c93
                refine ab_bipush (v := (-3)) dX11_runOnce_185 (by decide) ?_
                exact ab_iret rfl dX11_runOnce_187 (Nat.le_of_ble_eq_true rfl) (Nat.le_of_ble_eq_true rfl) ht
              · have ht := ht.2 c93
                refine ab_iload (i := 10) dX11_runOnce_180 rfl ?_
                refine ab_goto (tgt := 187) dX11_runOnce_182 (by decide) ?_
                exact ab_iret rfl dX11_runOnce_187 (Nat.le_of_ble_eq_true rfl) (Nat.le_of_ble_eq_true rfl) ht
          · have ht := ht.2 c85
            refine ab_iconst (v := 1) dX11_runOnce_158 (by decide) ?_
            refine ab_goto (tgt := 163) dX11_runOnce_159 (by decide) ?_
            refine ab_callV (b := 1) (As := [.int v13, .int ((((v26).toInt64 + ((v72).toInt64 * (x3).toInt64))).toInt32), .int 1]) ht (Y_X10_tell) l_X11_181 in_X10_tell se_X10_tell (sh_k hs80 1 10 (by decide) rfl) (by decide) rfl rfl ⟨(Nat.le_of_ble_eq_true rfl), (Nat.le_of_ble_eq_true rfl), (Nat.le_of_ble_eq_true rfl), (Nat.le_of_ble_eq_true rfl)⟩ dX11_runOnce_163 ?_
            rintro _ h94 ⟨v96, rfl, hs95, hk97, hr98, hk99, ht⟩
            refine ab_istore (i := 10) (L' := [some (.ref 0), some (.ref a1), some (.int x2), some (.int x3), some (.int v13), some (.int (((ah_i h11 26 1) ||| (ah_i h24 26 1)) ||| (ah_i h70 26 1))), some (.int v26), some (.int v72), some (.long ((v26).toInt64 + ((v72).toInt64 * (x3).toInt64))), none, some (.int v96)]) dX11_runOnce_166 (by exact (Nat.le_of_ble_eq_true rfl)) rfl rfl ?_
            refine ab_iload (i := 10) dX11_runOnce_168 rfl ?_
            refine ab_if_eq (tgt := 180) dX11_runOnce_170 (by decide) (fun c100 => ?_) (fun c100 => ?_)
            · have ht := ht.1 c100
              refine ab_iload (i := 10) dX11_runOnce_180 rfl ?_
              refine ab_goto (tgt := 187) dX11_runOnce_182 (by decide) ?_
              exact ab_iret rfl dX11_runOnce_187 (Nat.le_of_ble_eq_true rfl) (Nat.le_of_ble_eq_true rfl) ht
            · have ht := ht.2 c100
              refine ab_iload (i := 10) dX11_runOnce_173 rfl ?_
              refine ab_bipush (v := (-5)) dX11_runOnce_175 (by decide) ?_
              refine ab_icmp_ne (tgt := 185) dX11_runOnce_177 (by decide) (fun c101 => ?_) (fun c101 => ?_)
              · have ht := ht.1 c101
                refine ab_bipush (v := (-3)) dX11_runOnce_185 (by decide) ?_
                exact ab_iret rfl dX11_runOnce_187 (Nat.le_of_ble_eq_true rfl) (Nat.le_of_ble_eq_true rfl) ht
              · have ht := ht.2 c101
                refine ab_iload (i := 10) dX11_runOnce_180 rfl ?_
                refine ab_goto (tgt := 187) dX11_runOnce_182 (by decide) ?_
                exact ab_iret rfl dX11_runOnce_187 (Nat.le_of_ble_eq_true rfl) (Nat.le_of_ble_eq_true rfl) ht
        · have ht := ht.2 c78
          refine ab_bipush (v := (-3)) dX11_runOnce_136 (by decide) ?_
          exact ab_iret rfl dX11_runOnce_138 (Nat.le_of_ble_eq_true rfl) (Nat.le_of_ble_eq_true rfl) ht
