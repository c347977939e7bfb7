/-! ===== constructors (printed by wip/whole/mkinit.py) ===== -/
theorem wa_long : Cond.arrayClass .long ∈ lw_T := tb_2 (List.mem_of_getElem? (i := 34) (by decide +kernel)) rfl
theorem wa_byte : Cond.arrayClass .byte ∈ lw_T := tb_4 (List.mem_of_getElem? (i := 235) (by decide +kernel)) rfl
theorem wa_boolean : Cond.arrayClass .boolean ∈ lw_T := tb_7 (List.mem_of_getElem? (i := 217) (by decide +kernel)) rfl
theorem in_obj : Cond.instanceMethod objectInit ∈ lw_T := tb_1 (List.mem_of_getElem? (i := 28) (by decide +kernel)) rfl
set_option maxRecDepth 100000 in
theorem co_obj : Cond.code objectInit ⟨#[0xb1]⟩ 1 none ∈ lw_T := tb_1 (List.mem_of_getElem? (i := 29) rfl) rfl
abbrev nX7_init : ab_M := (yX7_init, cX7_init, 3, none, 1, 1, 72)
abbrev nX9_init : ab_M := (yX9_init, cX9_init, 5, none, 1, 0, 0)
abbrev nX10_init : ab_M := (yX10_init, cX10_init, 1, none, 2, 14, 470)
abbrev nX2_init : ab_M := (yX2_init, cX2_init, 1, none, 1, 2, 133)
abbrev nX5_init : ab_M := (yX5_init, cX5_init, 1, none, 1, 5, 1379)
abbrev nX6_init : ab_M := (yX6_init, cX6_init, 2, none, 1, 8, 462)
abbrev nX8_init : ab_M := (yX8_init, cX8_init, 4, none, 1, 4, 16336)
abbrev nX3_init : ab_M := (yX3_init, cX3_init, 4, none, 1, 10, 579)
abbrev nX0_init : ab_M := (yX0_init, cX0_init, 5, none, 1, 7, 1804)
abbrev nX1_init : ab_M := (yX1_init, cX1_init, 4, none, 2, 11, 539)
abbrev nX4_init : ab_M := (yX4_init, cX4_init, 5, none, 1, 7, 214)
abbrev nX11_init : ab_M := (yX11_init, cX11_init, 1, none, 3, 81, 22600)
abbrev nX12_init : ab_M := (yX12_init, cX12_init, 1, none, 1, 40, 1172700)
theorem dX7_init_0 : decode cX7_init 0 = .ok (.aload_n 0, 1) := by decide +kernel
theorem dX7_init_1 : decode cX7_init 1 = .ok (.invokespecial 3, 3) := by decide +kernel
theorem dX7_init_4 : decode cX7_init 4 = .ok (.aload_n 0, 1) := by decide +kernel
theorem dX7_init_5 : decode cX7_init 5 = .ok (.iconst 0, 1) := by decide +kernel
theorem dX7_init_6 : decode cX7_init 6 = .ok (.putfield 9, 3) := by decide +kernel
theorem dX7_init_9 : decode cX7_init 9 = .ok (.aload_n 0, 1) := by decide +kernel
theorem dX7_init_10 : decode cX7_init 10 = .ok (.iload_n 1, 1) := by decide +kernel
theorem dX7_init_11 : decode cX7_init 11 = .ok (.putfield 15, 3) := by decide +kernel
theorem dX7_init_14 : decode cX7_init 14 = .ok (.aload_n 0, 1) := by decide +kernel
theorem dX7_init_15 : decode cX7_init 15 = .ok (.iload_n 2, 1) := by decide +kernel
theorem dX7_init_16 : decode cX7_init 16 = .ok (.putfield 18, 3) := by decide +kernel
theorem dX7_init_19 : decode cX7_init 19 = .ok (.aload_n 0, 1) := by decide +kernel
theorem dX7_init_20 : decode cX7_init 20 = .ok (.iload_n 1, 1) := by decide +kernel
theorem dX7_init_21 : decode cX7_init 21 = .ok (.iload_n 2, 1) := by decide +kernel
theorem dX7_init_22 : decode cX7_init 22 = .ok (.imul, 1) := by decide +kernel
theorem dX7_init_23 : decode cX7_init 23 = .ok (.newarray .int, 2) := by decide +kernel
theorem dX7_init_25 : decode cX7_init 25 = .ok (.putfield 21, 3) := by decide +kernel
theorem dX7_init_28 : decode cX7_init 28 = .ok (.return_, 1) := by decide +kernel
set_option maxRecDepth 20000 in
theorem T_X7_init {Q : Option Value → ah_T → Prop} {h : ah_T} (t : Nat) (x1 : Int32) (x2 : Int32) (hk_t : ah_k h t = 7) (ht : (∀ h1, h1 = ah_si h t 3 0 → (∀ h5, h5 = ah_si h1 t 0 x1 → (∀ h9, h9 = ah_si h5 t 1 x2 → (¬ (x1 * x2) < 0) ∧ (0 + (Int32.toNatClampNeg (x1 * x2)) ≤ 72) ∧ (∀ w15, w15 = ah_x h9 → (∀ h17, h17 = ah_nw h9 14 (Int32.toNatClampNeg (x1 * x2)) → (¬ t = ah_x h9) ∧ (∀ h24, h24 = ah_sr h17 t 2 (some w15) → Q none h24))))))) : Mt nX7_init [.ref t, .int x1, .int x2] h Q := by
  refine Mt.ofWp rfl (by exact (Nat.le_of_ble_eq_true rfl)) (Wp.fewer (L' := [some (.ref t), some (.int x1), some (.int x2)]) (show ab_leL _ _ from ⟨rfl, ⟨rfl, ⟨rfl, trivial⟩⟩⟩) ?_)
  refine ab_aload_n (i := 0) dX7_init_0 rfl rfl ?_
  refine ab_obj (tb_1 (List.mem_of_getElem? (i := 41) (by decide +kernel)) rfl) in_obj co_obj (Nat.le_of_ble_eq_true rfl) (Nat.le_of_ble_eq_true rfl) dX7_init_1 ?_
  refine ab_aload_n (i := 0) dX7_init_4 rfl rfl ?_
  refine ab_iconst (v := 0) dX7_init_5 (by decide) ?_
  refine ab_putI f_X7_9 (Or.inl rfl) rfl hk_t rfl rfl dX7_init_6 ?_
  refine Wp.nm fun h1 e2 => ?_
  have ht := ht h1 e2
  have hk4 : ah_k h1 t = 7 := by rw [e2]; exact hk_t
  refine ab_aload_n (i := 0) dX7_init_9 rfl rfl ?_
  refine ab_iload_n (i := 1) dX7_init_10 rfl rfl ?_
  refine ab_putI f_X7_15 (Or.inr ⟨rfl, rfl, rfl⟩) rfl hk4 rfl rfl dX7_init_11 ?_
  refine Wp.nm fun h5 e6 => ?_
  have ht := ht h5 e6
  have hk8 : ah_k h5 t = 7 := by rw [e6]; exact hk4
  refine ab_aload_n (i := 0) dX7_init_14 rfl rfl ?_
  refine ab_iload_n (i := 2) dX7_init_15 rfl rfl ?_
  refine ab_putI f_X7_18 (Or.inr ⟨rfl, rfl, rfl⟩) rfl hk8 rfl rfl dX7_init_16 ?_
  refine Wp.nm fun h9 e10 => ?_
  have ht := ht h9 e10
  have hk12 : ah_k h9 t = 7 := by rw [e10]; exact hk8
  refine ab_aload_n (i := 0) dX7_init_19 rfl rfl ?_
  refine ab_iload_n (i := 1) dX7_init_20 rfl rfl ?_
  refine ab_iload_n (i := 2) dX7_init_21 rfl rfl ?_
  refine ab_imul dX7_init_22 ?_
  obtain ⟨hc13, ht⟩ := ht
  obtain ⟨hc14, ht⟩ := ht
  refine ab_newa (N := (Int32.toNatClampNeg (x1 * x2))) 14 1 .int (by decide) rfl wa_int hc13 rfl (Nat.le_trans (Nat.mul_le_mul_right 4 (Nat.le_trans (Nat.le_add_left _ _) hc14)) (by decide)) (Nat.le_of_ble_eq_true rfl) hc14 dX7_init_23 ?_
  obtain ⟨w15, ew16⟩ : ∃ z, z = ah_x h9 := ⟨_, rfl⟩
  rw [← ew16]
  have ht := ht w15 ew16
  refine Wp.nm fun h17 e18 => ?_
  have ht := ht h17 e18
  have hc21 := ht.1
  have ht := ht.2
  have hk20 : ah_k h17 t = 7 := by rw [e18, ah_k_nw, if_neg hc21]; exact hk12
  have hk22 : ah_k h17 w15 = 14 := by rw [e18, ew16, ah_k_nw, if_pos rfl]
  have hn23 : ah_n h17 w15 = (Int32.toNatClampNeg (x1 * x2)) := by rw [e18, ew16, ah_n_nw, if_pos rfl]
  refine ab_putR (r := (some w15)) f_X7_21 (Or.inr ⟨rfl, rfl, rfl⟩) rfl hk20 (fun x => by cases x <;> rfl) (fun x => by cases x <;> rfl) dX7_init_25 ?_
  refine Wp.nm fun h24 e25 => ?_
  have ht := ht h24 e25
  have hk27 : ah_k h24 t = 7 := by rw [e25]; exact hk20
  exact ab_vret rfl dX7_init_28 (Nat.le_of_ble_eq_true rfl) (by first | exact (Nat.le_of_ble_eq_true rfl) | assumption) ht
theorem dX9_init_0 : decode cX9_init 0 = .ok (.aload_n 0, 1) := by decide +kernel
theorem dX9_init_1 : decode cX9_init 1 = .ok (.invokespecial 3, 3) := by decide +kernel
theorem dX9_init_4 : decode cX9_init 4 = .ok (.aload_n 0, 1) := by decide +kernel
theorem dX9_init_5 : decode cX9_init 5 = .ok (.aload_n 1, 1) := by decide +kernel
theorem dX9_init_6 : decode cX9_init 6 = .ok (.putfield 9, 3) := by decide +kernel
theorem dX9_init_9 : decode cX9_init 9 = .ok (.aload_n 0, 1) := by decide +kernel
theorem dX9_init_10 : decode cX9_init 10 = .ok (.aload_n 2, 1) := by decide +kernel
theorem dX9_init_11 : decode cX9_init 11 = .ok (.putfield 15, 3) := by decide +kernel
theorem dX9_init_14 : decode cX9_init 14 = .ok (.aload_n 0, 1) := by decide +kernel
theorem dX9_init_15 : decode cX9_init 15 = .ok (.iload_n 3, 1) := by decide +kernel
theorem dX9_init_16 : decode cX9_init 16 = .ok (.putfield 18, 3) := by decide +kernel
theorem dX9_init_19 : decode cX9_init 19 = .ok (.aload_n 0, 1) := by decide +kernel
theorem dX9_init_20 : decode cX9_init 20 = .ok (.aload 4, 2) := by decide +kernel
theorem dX9_init_22 : decode cX9_init 22 = .ok (.putfield 22, 3) := by decide +kernel
theorem dX9_init_25 : decode cX9_init 25 = .ok (.return_, 1) := by decide +kernel
set_option maxRecDepth 20000 in
theorem T_X9_init {Q : Option Value → ah_T → Prop} {h : ah_T} (t : Nat) (a1 : Nat) (a2 : Nat) (x3 : Int32) (a4 : Nat) (hk_t : ah_k h t = 9) (hk_a1 : ah_k h a1 = 14) (hk_a2 : ah_k h a2 = 14) (hk_a4 : ah_k h a4 = 14) (ht : (∀ h1, h1 = ah_sr h t 0 (some a1) → (∀ h8, h8 = ah_sr h1 t 1 (some a2) → (∀ h15, h15 = ah_si h8 t 2 x3 → (∀ h22, h22 = ah_sr h15 t 3 (some a4) → Q none h22))))) : Mt nX9_init [.ref t, .ref a1, .ref a2, .int x3, .ref a4] h Q := by
  refine Mt.ofWp rfl (by exact (Nat.le_of_ble_eq_true rfl)) (Wp.fewer (L' := [some (.ref t), some (.ref a1), some (.ref a2), some (.int x3), some (.ref a4)]) (show ab_leL _ _ from ⟨rfl, ⟨rfl, ⟨rfl, ⟨rfl, ⟨rfl, trivial⟩⟩⟩⟩⟩) ?_)
  refine ab_aload_n (i := 0) dX9_init_0 rfl rfl ?_
  refine ab_obj (tb_4 (List.mem_of_getElem? (i := 216) (by decide +kernel)) rfl) in_obj co_obj (Nat.le_of_ble_eq_true rfl) (Nat.le_of_ble_eq_true rfl) dX9_init_1 ?_
  refine ab_aload_n (i := 0) dX9_init_4 rfl rfl ?_
  refine ab_aload_n (i := 1) dX9_init_5 rfl rfl ?_
  refine ab_putR (r := (some a1)) f_X9_9 (Or.inr ⟨rfl, rfl, rfl⟩) rfl hk_t (fun x => by cases x <;> rfl) (fun x => by cases x <;> rfl) dX9_init_6 ?_
  refine Wp.nm fun h1 e2 => ?_
  have ht := ht h1 e2
  have hk4 : ah_k h1 t = 9 := by rw [e2]; exact hk_t
  have hk5 : ah_k h1 a1 = 14 := by rw [e2]; exact hk_a1
  have hk6 : ah_k h1 a2 = 14 := by rw [e2]; exact hk_a2
  have hk7 : ah_k h1 a4 = 14 := by rw [e2]; exact hk_a4
  refine ab_aload_n (i := 0) dX9_init_9 rfl rfl ?_
  refine ab_aload_n (i := 2) dX9_init_10 rfl rfl ?_
  refine ab_putR (r := (some a2)) f_X9_15 (Or.inr ⟨rfl, rfl, rfl⟩) rfl hk4 (fun x => by cases x <;> rfl) (fun x => by cases x <;> rfl) dX9_init_11 ?_
  refine Wp.nm fun h8 e9 => ?_
  have ht := ht h8 e9
  have hk11 : ah_k h8 t = 9 := by rw [e9]; exact hk4
  have hk12 : ah_k h8 a1 = 14 := by rw [e9]; exact hk5
  have hk13 : ah_k h8 a2 = 14 := by rw [e9]; exact hk6
  have hk14 : ah_k h8 a4 = 14 := by rw [e9]; exact hk7
  refine ab_aload_n (i := 0) dX9_init_14 rfl rfl ?_
  refine ab_iload_n (i := 3) dX9_init_15 rfl rfl ?_
  refine ab_putI f_X9_18 (Or.inr ⟨rfl, rfl, rfl⟩) rfl hk11 rfl rfl dX9_init_16 ?_
  refine Wp.nm fun h15 e16 => ?_
  have ht := ht h15 e16
  have hk18 : ah_k h15 t = 9 := by rw [e16]; exact hk11
  have hk19 : ah_k h15 a1 = 14 := by rw [e16]; exact hk12
  have hk20 : ah_k h15 a2 = 14 := by rw [e16]; exact hk13
  have hk21 : ah_k h15 a4 = 14 := by rw [e16]; exact hk14
  refine ab_aload_n (i := 0) dX9_init_19 rfl rfl ?_
  refine ab_aload (i := 4) dX9_init_20 rfl ?_
  refine ab_putR (r := (some a4)) f_X9_22 (Or.inr ⟨rfl, rfl, rfl⟩) rfl hk18 (fun x => by cases x <;> rfl) (fun x => by cases x <;> rfl) dX9_init_22 ?_
  refine Wp.nm fun h22 e23 => ?_
  have ht := ht h22 e23
  have hk25 : ah_k h22 t = 9 := by rw [e23]; exact hk18
  have hk26 : ah_k h22 a1 = 14 := by rw [e23]; exact hk19
  have hk27 : ah_k h22 a2 = 14 := by rw [e23]; exact hk20
  have hk28 : ah_k h22 a4 = 14 := by rw [e23]; exact hk21
  exact ab_vret rfl dX9_init_25 (Nat.le_of_ble_eq_true rfl) (by first | exact (Nat.le_of_ble_eq_true rfl) | assumption) ht
theorem dX10_init_0 : decode cX10_init 0 = .ok (.aload_n 0, 1) := by decide +kernel
theorem dX10_init_1 : decode cX10_init 1 = .ok (.invokespecial 3, 3) := by decide +kernel
theorem dX10_init_4 : decode cX10_init 4 = .ok (.aload_n 0, 1) := by decide +kernel
theorem dX10_init_5 : decode cX10_init 5 = .ok (.new 9, 3) := by decide +kernel
theorem dX10_init_8 : decode cX10_init 8 = .ok (.dup, 1) := by decide +kernel
theorem dX10_init_9 : decode cX10_init 9 = .ok (.bipush 20, 2) := by decide +kernel
theorem dX10_init_11 : decode cX10_init 11 = .ok (.iconst 3, 1) := by decide +kernel
theorem dX10_init_12 : decode cX10_init 12 = .ok (.invokespecial 11, 3) := by decide +kernel
theorem dX10_init_15 : decode cX10_init 15 = .ok (.putfield 14, 3) := by decide +kernel
theorem dX10_init_18 : decode cX10_init 18 = .ok (.aload_n 0, 1) := by decide +kernel
theorem dX10_init_19 : decode cX10_init 19 = .ok (.new 9, 3) := by decide +kernel
theorem dX10_init_22 : decode cX10_init 22 = .ok (.dup, 1) := by decide +kernel
theorem dX10_init_23 : decode cX10_init 23 = .ok (.bipush 10, 2) := by decide +kernel
theorem dX10_init_25 : decode cX10_init 25 = .ok (.iconst 3, 1) := by decide +kernel
theorem dX10_init_26 : decode cX10_init 26 = .ok (.invokespecial 11, 3) := by decide +kernel
theorem dX10_init_29 : decode cX10_init 29 = .ok (.putfield 20, 3) := by decide +kernel
theorem dX10_init_32 : decode cX10_init 32 = .ok (.aload_n 0, 1) := by decide +kernel
theorem dX10_init_33 : decode cX10_init 33 = .ok (.new 9, 3) := by decide +kernel
theorem dX10_init_36 : decode cX10_init 36 = .ok (.dup, 1) := by decide +kernel
theorem dX10_init_37 : decode cX10_init 37 = .ok (.bipush 24, 2) := by decide +kernel
theorem dX10_init_39 : decode cX10_init 39 = .ok (.iconst 3, 1) := by decide +kernel
theorem dX10_init_40 : decode cX10_init 40 = .ok (.invokespecial 11, 3) := by decide +kernel
theorem dX10_init_43 : decode cX10_init 43 = .ok (.putfield 23, 3) := by decide +kernel
theorem dX10_init_46 : decode cX10_init 46 = .ok (.aload_n 0, 1) := by decide +kernel
theorem dX10_init_47 : decode cX10_init 47 = .ok (.new 9, 3) := by decide +kernel
theorem dX10_init_50 : decode cX10_init 50 = .ok (.dup, 1) := by decide +kernel
theorem dX10_init_51 : decode cX10_init 51 = .ok (.iconst 2, 1) := by decide +kernel
theorem dX10_init_52 : decode cX10_init 52 = .ok (.bipush 19, 2) := by decide +kernel
theorem dX10_init_54 : decode cX10_init 54 = .ok (.invokespecial 11, 3) := by decide +kernel
theorem dX10_init_57 : decode cX10_init 57 = .ok (.putfield 26, 3) := by decide +kernel
theorem dX10_init_60 : decode cX10_init 60 = .ok (.aload_n 0, 1) := by decide +kernel
theorem dX10_init_61 : decode cX10_init 61 = .ok (.new 9, 3) := by decide +kernel
theorem dX10_init_64 : decode cX10_init 64 = .ok (.dup, 1) := by decide +kernel
theorem dX10_init_65 : decode cX10_init 65 = .ok (.bipush 6, 2) := by decide +kernel
theorem dX10_init_67 : decode cX10_init 67 = .ok (.iconst 3, 1) := by decide +kernel
theorem dX10_init_68 : decode cX10_init 68 = .ok (.invokespecial 11, 3) := by decide +kernel
theorem dX10_init_71 : decode cX10_init 71 = .ok (.putfield 29, 3) := by decide +kernel
theorem dX10_init_74 : decode cX10_init 74 = .ok (.aload_n 0, 1) := by decide +kernel
theorem dX10_init_75 : decode cX10_init 75 = .ok (.new 9, 3) := by decide +kernel
theorem dX10_init_78 : decode cX10_init 78 = .ok (.dup, 1) := by decide +kernel
theorem dX10_init_79 : decode cX10_init 79 = .ok (.bipush 8, 2) := by decide +kernel
theorem dX10_init_81 : decode cX10_init 81 = .ok (.iconst 3, 1) := by decide +kernel
theorem dX10_init_82 : decode cX10_init 82 = .ok (.invokespecial 11, 3) := by decide +kernel
theorem dX10_init_85 : decode cX10_init 85 = .ok (.putfield 32, 3) := by decide +kernel
theorem dX10_init_88 : decode cX10_init 88 = .ok (.aload_n 0, 1) := by decide +kernel
theorem dX10_init_89 : decode cX10_init 89 = .ok (.iconst 3, 1) := by decide +kernel
theorem dX10_init_90 : decode cX10_init 90 = .ok (.newarray .int, 2) := by decide +kernel
theorem dX10_init_92 : decode cX10_init 92 = .ok (.putfield 35, 3) := by decide +kernel
theorem dX10_init_95 : decode cX10_init 95 = .ok (.aload_n 0, 1) := by decide +kernel
theorem dX10_init_96 : decode cX10_init 96 = .ok (.bipush 6, 2) := by decide +kernel
theorem dX10_init_98 : decode cX10_init 98 = .ok (.anewarray 39, 3) := by decide +kernel
theorem dX10_init_101 : decode cX10_init 101 = .ok (.putfield 41, 3) := by decide +kernel
theorem dX10_init_104 : decode cX10_init 104 = .ok (.aload_n 0, 1) := by decide +kernel
theorem dX10_init_105 : decode cX10_init 105 = .ok (.iconst 0, 1) := by decide +kernel
theorem dX10_init_106 : decode cX10_init 106 = .ok (.putfield 45, 3) := by decide +kernel
theorem dX10_init_109 : decode cX10_init 109 = .ok (.aload_n 0, 1) := by decide +kernel
theorem dX10_init_110 : decode cX10_init 110 = .ok (.iconst (-1), 1) := by decide +kernel
theorem dX10_init_111 : decode cX10_init 111 = .ok (.putfield 49, 3) := by decide +kernel
theorem dX10_init_114 : decode cX10_init 114 = .ok (.aload_n 0, 1) := by decide +kernel
theorem dX10_init_115 : decode cX10_init 115 = .ok (.getfield 35, 3) := by decide +kernel
theorem dX10_init_118 : decode cX10_init 118 = .ok (.iconst 1, 1) := by decide +kernel
theorem dX10_init_119 : decode cX10_init 119 = .ok (.iconst 3, 1) := by decide +kernel
theorem dX10_init_120 : decode cX10_init 120 = .ok (.iastore, 1) := by decide +kernel
theorem dX10_init_121 : decode cX10_init 121 = .ok (.return_, 1) := by decide +kernel
set_option maxRecDepth 20000 in
theorem T_X10_init {Q : Option Value → ah_T → Prop} {h : ah_T} (t : Nat) (hk_t : ah_k h t = 10) (ht : (∀ w1, w1 = ah_x h → (∀ h3, h3 = ah_nw h 7 0 → (¬ t = ah_x h) ∧ (Mt nX7_init [.ref w1, .int 20, .int 3] h3 (ab_qv fun h9 => ah_k h9 t = 10 ∧ ah_k h9 w1 = 7 ∧ (∀ h14, h14 = ah_sr h9 t 0 (some w1) → (∀ w18, w18 = ah_x h14 → (∀ h20, h20 = ah_nw h14 7 0 → (¬ t = ah_x h14) ∧ (Mt nX7_init [.ref w18, .int 10, .int 3] h20 (ab_qv fun h26 => ah_k h26 t = 10 ∧ ah_k h26 w18 = 7 ∧ (∀ h31, h31 = ah_sr h26 t 1 (some w18) → (∀ w35, w35 = ah_x h31 → (∀ h37, h37 = ah_nw h31 7 0 → (¬ t = ah_x h31) ∧ (Mt nX7_init [.ref w35, .int 24, .int 3] h37 (ab_qv fun h43 => ah_k h43 t = 10 ∧ ah_k h43 w35 = 7 ∧ (∀ h48, h48 = ah_sr h43 t 2 (some w35) → (∀ w52, w52 = ah_x h48 → (∀ h54, h54 = ah_nw h48 7 0 → (¬ t = ah_x h48) ∧ (Mt nX7_init [.ref w52, .int 2, .int 19] h54 (ab_qv fun h60 => ah_k h60 t = 10 ∧ ah_k h60 w52 = 7 ∧ (∀ h65, h65 = ah_sr h60 t 3 (some w52) → (∀ w69, w69 = ah_x h65 → (∀ h71, h71 = ah_nw h65 7 0 → (¬ t = ah_x h65) ∧ (Mt nX7_init [.ref w69, .int 6, .int 3] h71 (ab_qv fun h77 => ah_k h77 t = 10 ∧ ah_k h77 w69 = 7 ∧ (∀ h82, h82 = ah_sr h77 t 4 (some w69) → (∀ w86, w86 = ah_x h82 → (∀ h88, h88 = ah_nw h82 7 0 → (¬ t = ah_x h82) ∧ (Mt nX7_init [.ref w86, .int 8, .int 3] h88 (ab_qv fun h94 => ah_k h94 t = 10 ∧ ah_k h94 w86 = 7 ∧ (∀ h99, h99 = ah_sr h94 t 5 (some w86) → (∀ w103, w103 = ah_x h99 → (∀ h105, h105 = ah_nw h99 14 3 → (¬ t = ah_x h99) ∧ (∀ h112, h112 = ah_sr h105 t 6 (some w103) → (∀ w116, w116 = ah_x h112 → (∀ h118, h118 = ah_nw h112 17 6 → (¬ t = ah_x h112) ∧ (∀ h125, h125 = ah_sr h118 t 7 (some w116) → (∀ h129, h129 = ah_si h125 t 8 0 → (∀ h133, h133 = ah_si h129 t 9 (-1) → (∃ b137, ah_r h133 t 6 = some b137 ∧ ah_k h133 b137 = 14 ∧ (vp_in 1 (ah_n h133 b137)) ∧ (∀ h141, h141 = ah_si h133 b137 (Int32.toNatClampNeg 1) 3 → Q none h141))))))))))))))))))))))))))))))))))))))))) : Mt nX10_init [.ref t] h Q := by
  refine Mt.ofWp rfl (by exact (Nat.le_of_ble_eq_true rfl)) (Wp.fewer (L' := [some (.ref t)]) (show ab_leL _ _ from ⟨rfl, trivial⟩) ?_)
  refine ab_aload_n (i := 0) dX10_init_0 rfl rfl ?_
  refine ab_obj (tb_1 (List.mem_of_getElem? (i := 35) (by decide +kernel)) rfl) in_obj co_obj (Nat.le_of_ble_eq_true rfl) (Nat.le_of_ble_eq_true rfl) dX10_init_1 ?_
  refine ab_aload_n (i := 0) dX10_init_4 rfl rfl ?_
  refine ab_new k_X10_9 (Nat.le_of_ble_eq_true rfl) (Nat.le_of_ble_eq_true rfl) dX10_init_5 ?_
  obtain ⟨w1, ew2⟩ : ∃ z, z = ah_x h := ⟨_, rfl⟩
  rw [← ew2]
  have ht := ht w1 ew2
  refine Wp.nm fun h3 e4 => ?_
  have ht := ht h3 e4
  have hc7 := ht.1
  have ht := ht.2
  have hk6 : ah_k h3 t = 10 := by rw [e4, ah_k_nw, if_neg hc7]; exact hk_t
  have hk8 : ah_k h3 w1 = 7 := by rw [e4, ew2, ah_k_nw, if_pos rfl]
  refine ab_dup dX10_init_8 rfl ?_
  refine ab_bipush (v := 20) dX10_init_9 (by decide) ?_
  refine ab_iconst (v := 3) dX10_init_11 (by decide) ?_
  refine ab_callI (b := w1) (As := [.int 20, .int 3]) ht (Y_X7_init) rfl rfl l_X10_11 in_X7_init rfl ⟨(Nat.le_of_ble_eq_true rfl), (Nat.le_of_ble_eq_true rfl), (Nat.le_of_ble_eq_true rfl), (Nat.le_of_ble_eq_true rfl)⟩ dX10_init_12 ?_
  rintro _ h9 ⟨rfl, hk12, hk13, ht⟩
  refine ab_putR (r := (some w1)) f_X10_14 (Or.inr ⟨rfl, rfl, rfl⟩) rfl hk12 (fun x => by cases x <;> rfl) (fun x => by cases x <;> rfl) dX10_init_15 ?_
  refine Wp.nm fun h14 e15 => ?_
  have ht := ht h14 e15
  have hk17 : ah_k h14 t = 10 := by rw [e15]; exact hk12
  refine ab_aload_n (i := 0) dX10_init_18 rfl rfl ?_
  refine ab_new k_X10_9 (Nat.le_of_ble_eq_true rfl) (Nat.le_of_ble_eq_true rfl) dX10_init_19 ?_
  obtain ⟨w18, ew19⟩ : ∃ z, z = ah_x h14 := ⟨_, rfl⟩
  rw [← ew19]
  have ht := ht w18 ew19
  refine Wp.nm fun h20 e21 => ?_
  have ht := ht h20 e21
  have hc24 := ht.1
  have ht := ht.2
  have hk23 : ah_k h20 t = 10 := by rw [e21, ah_k_nw, if_neg hc24]; exact hk17
  have hk25 : ah_k h20 w18 = 7 := by rw [e21, ew19, ah_k_nw, if_pos rfl]
  refine ab_dup dX10_init_22 rfl ?_
  refine ab_bipush (v := 10) dX10_init_23 (by decide) ?_
  refine ab_iconst (v := 3) dX10_init_25 (by decide) ?_
  refine ab_callI (b := w18) (As := [.int 10, .int 3]) ht (Y_X7_init) rfl rfl l_X10_11 in_X7_init rfl ⟨(Nat.le_of_ble_eq_true rfl), (Nat.le_of_ble_eq_true rfl), (Nat.le_of_ble_eq_true rfl), (Nat.le_of_ble_eq_true rfl)⟩ dX10_init_26 ?_
  rintro _ h26 ⟨rfl, hk29, hk30, ht⟩
  refine ab_putR (r := (some w18)) f_X10_20 (Or.inr ⟨rfl, rfl, rfl⟩) rfl hk29 (fun x => by cases x <;> rfl) (fun x => by cases x <;> rfl) dX10_init_29 ?_
  refine Wp.nm fun h31 e32 => ?_
  have ht := ht h31 e32
  have hk34 : ah_k h31 t = 10 := by rw [e32]; exact hk29
  refine ab_aload_n (i := 0) dX10_init_32 rfl rfl ?_
  refine ab_new k_X10_9 (Nat.le_of_ble_eq_true rfl) (Nat.le_of_ble_eq_true rfl) dX10_init_33 ?_
  obtain ⟨w35, ew36⟩ : ∃ z, z = ah_x h31 := ⟨_, rfl⟩
  rw [← ew36]
  have ht := ht w35 ew36
  refine Wp.nm fun h37 e38 => ?_
  have ht := ht h37 e38
  have hc41 := ht.1
  have ht := ht.2
  have hk40 : ah_k h37 t = 10 := by rw [e38, ah_k_nw, if_neg hc41]; exact hk34
  have hk42 : ah_k h37 w35 = 7 := by rw [e38, ew36, ah_k_nw, if_pos rfl]
  refine ab_dup dX10_init_36 rfl ?_
  refine ab_bipush (v := 24) dX10_init_37 (by decide) ?_
  refine ab_iconst (v := 3) dX10_init_39 (by decide) ?_
  refine ab_callI (b := w35) (As := [.int 24, .int 3]) ht (Y_X7_init) rfl rfl l_X10_11 in_X7_init rfl ⟨(Nat.le_of_ble_eq_true rfl), (Nat.le_of_ble_eq_true rfl), (Nat.le_of_ble_eq_true rfl), (Nat.le_of_ble_eq_true rfl)⟩ dX10_init_40 ?_
  rintro _ h43 ⟨rfl, hk46, hk47, ht⟩
  refine ab_putR (r := (some w35)) f_X10_23 (Or.inr ⟨rfl, rfl, rfl⟩) rfl hk46 (fun x => by cases x <;> rfl) (fun x => by cases x <;> rfl) dX10_init_43 ?_
  refine Wp.nm fun h48 e49 => ?_
  have ht := ht h48 e49
  have hk51 : ah_k h48 t = 10 := by rw [e49]; exact hk46
  refine ab_aload_n (i := 0) dX10_init_46 rfl rfl ?_
  refine ab_new k_X10_9 (Nat.le_of_ble_eq_true rfl) (Nat.le_of_ble_eq_true rfl) dX10_init_47 ?_
  obtain ⟨w52, ew53⟩ : ∃ z, z = ah_x h48 := ⟨_, rfl⟩
  rw [← ew53]
  have ht := ht w52 ew53
  refine Wp.nm fun h54 e55 => ?_
  have ht := ht h54 e55
  have hc58 := ht.1
  have ht := ht.2
  have hk57 : ah_k h54 t = 10 := by rw [e55, ah_k_nw, if_neg hc58]; exact hk51
  have hk59 : ah_k h54 w52 = 7 := by rw [e55, ew53, ah_k_nw, if_pos rfl]
  refine ab_dup dX10_init_50 rfl ?_
  refine ab_iconst (v := 2) dX10_init_51 (by decide) ?_
  refine ab_bipush (v := 19) dX10_init_52 (by decide) ?_
  refine ab_callI (b := w52) (As := [.int 2, .int 19]) ht (Y_X7_init) rfl rfl l_X10_11 in_X7_init rfl ⟨(Nat.le_of_ble_eq_true rfl), (Nat.le_of_ble_eq_true rfl), (Nat.le_of_ble_eq_true rfl), (Nat.le_of_ble_eq_true rfl)⟩ dX10_init_54 ?_
  rintro _ h60 ⟨rfl, hk63, hk64, ht⟩
  refine ab_putR (r := (some w52)) f_X10_26 (Or.inr ⟨rfl, rfl, rfl⟩) rfl hk63 (fun x => by cases x <;> rfl) (fun x => by cases x <;> rfl) dX10_init_57 ?_
  refine Wp.nm fun h65 e66 => ?_
  have ht := ht h65 e66
  have hk68 : ah_k h65 t = 10 := by rw [e66]; exact hk63
  refine ab_aload_n (i := 0) dX10_init_60 rfl rfl ?_
  refine ab_new k_X10_9 (Nat.le_of_ble_eq_true rfl) (Nat.le_of_ble_eq_true rfl) dX10_init_61 ?_
  obtain ⟨w69, ew70⟩ : ∃ z, z = ah_x h65 := ⟨_, rfl⟩
  rw [← ew70]
  have ht := ht w69 ew70
  refine Wp.nm fun h71 e72 => ?_
  have ht := ht h71 e72
  have hc75 := ht.1
  have ht := ht.2
  have hk74 : ah_k h71 t = 10 := by rw [e72, ah_k_nw, if_neg hc75]; exact hk68
  have hk76 : ah_k h71 w69 = 7 := by rw [e72, ew70, ah_k_nw, if_pos rfl]
  refine ab_dup dX10_init_64 rfl ?_
  refine ab_bipush (v := 6) dX10_init_65 (by decide) ?_
  refine ab_iconst (v := 3) dX10_init_67 (by decide) ?_
  refine ab_callI (b := w69) (As := [.int 6, .int 3]) ht (Y_X7_init) rfl rfl l_X10_11 in_X7_init rfl ⟨(Nat.le_of_ble_eq_true rfl), (Nat.le_of_ble_eq_true rfl), (Nat.le_of_ble_eq_true rfl), (Nat.le_of_ble_eq_true rfl)⟩ dX10_init_68 ?_
  rintro _ h77 ⟨rfl, hk80, hk81, ht⟩
  refine ab_putR (r := (some w69)) f_X10_29 (Or.inr ⟨rfl, rfl, rfl⟩) rfl hk80 (fun x => by cases x <;> rfl) (fun x => by cases x <;> rfl) dX10_init_71 ?_
  refine Wp.nm fun h82 e83 => ?_
  have ht := ht h82 e83
  have hk85 : ah_k h82 t = 10 := by rw [e83]; exact hk80
  refine ab_aload_n (i := 0) dX10_init_74 rfl rfl ?_
  refine ab_new k_X10_9 (Nat.le_of_ble_eq_true rfl) (Nat.le_of_ble_eq_true rfl) dX10_init_75 ?_
  obtain ⟨w86, ew87⟩ : ∃ z, z = ah_x h82 := ⟨_, rfl⟩
  rw [← ew87]
  have ht := ht w86 ew87
  refine Wp.nm fun h88 e89 => ?_
  have ht := ht h88 e89
  have hc92 := ht.1
  have ht := ht.2
  have hk91 : ah_k h88 t = 10 := by rw [e89, ah_k_nw, if_neg hc92]; exact hk85
  have hk93 : ah_k h88 w86 = 7 := by rw [e89, ew87, ah_k_nw, if_pos rfl]
  refine ab_dup dX10_init_78 rfl ?_
  refine ab_bipush (v := 8) dX10_init_79 (by decide) ?_
  refine ab_iconst (v := 3) dX10_init_81 (by decide) ?_
  refine ab_callI (b := w86) (As := [.int 8, .int 3]) ht (Y_X7_init) rfl rfl l_X10_11 in_X7_init rfl ⟨(Nat.le_of_ble_eq_true rfl), (Nat.le_of_ble_eq_true rfl), (Nat.le_of_ble_eq_true rfl), (Nat.le_of_ble_eq_true rfl)⟩ dX10_init_82 ?_
  rintro _ h94 ⟨rfl, hk97, hk98, ht⟩
  refine ab_putR (r := (some w86)) f_X10_32 (Or.inr ⟨rfl, rfl, rfl⟩) rfl hk97 (fun x => by cases x <;> rfl) (fun x => by cases x <;> rfl) dX10_init_85 ?_
  refine Wp.nm fun h99 e100 => ?_
  have ht := ht h99 e100
  have hk102 : ah_k h99 t = 10 := by rw [e100]; exact hk97
  refine ab_aload_n (i := 0) dX10_init_88 rfl rfl ?_
  refine ab_iconst (v := 3) dX10_init_89 (by decide) ?_
  refine ab_newa (N := 3) 14 1 .int (by decide) rfl wa_int (by decide) (by decide) (by decide) (Nat.le_of_ble_eq_true rfl) (Nat.le_of_ble_eq_true rfl) dX10_init_90 ?_
  obtain ⟨w103, ew104⟩ : ∃ z, z = ah_x h99 := ⟨_, rfl⟩
  rw [← ew104]
  have ht := ht w103 ew104
  refine Wp.nm fun h105 e106 => ?_
  have ht := ht h105 e106
  have hc109 := ht.1
  have ht := ht.2
  have hk108 : ah_k h105 t = 10 := by rw [e106, ah_k_nw, if_neg hc109]; exact hk102
  have hk110 : ah_k h105 w103 = 14 := by rw [e106, ew104, ah_k_nw, if_pos rfl]
  have hn111 : ah_n h105 w103 = 3 := by rw [e106, ew104, ah_n_nw, if_pos rfl]
  refine ab_putR (r := (some w103)) f_X10_35 (Or.inr ⟨rfl, rfl, rfl⟩) rfl hk108 (fun x => by cases x <;> rfl) (fun x => by cases x <;> rfl) dX10_init_92 ?_
  refine Wp.nm fun h112 e113 => ?_
  have ht := ht h112 e113
  have hk115 : ah_k h112 t = 10 := by rw [e113]; exact hk108
  refine ab_aload_n (i := 0) dX10_init_95 rfl rfl ?_
  refine ab_bipush (v := 6) dX10_init_96 (by decide) ?_
  refine ab_newq (N := 6) (CC := RX9) 17 4 (by decide) (tb_1 (List.mem_of_getElem? (i := 64) (by decide +kernel)) rfl) (by decide) (by decide) (by decide) (Nat.le_of_ble_eq_true rfl) (Nat.le_of_ble_eq_true rfl) dX10_init_98 ?_
  obtain ⟨w116, ew117⟩ : ∃ z, z = ah_x h112 := ⟨_, rfl⟩
  rw [← ew117]
  have ht := ht w116 ew117
  refine Wp.nm fun h118 e119 => ?_
  have ht := ht h118 e119
  have hc122 := ht.1
  have ht := ht.2
  have hk121 : ah_k h118 t = 10 := by rw [e119, ah_k_nw, if_neg hc122]; exact hk115
  have hk123 : ah_k h118 w116 = 17 := by rw [e119, ew117, ah_k_nw, if_pos rfl]
  have hn124 : ah_n h118 w116 = 6 := by rw [e119, ew117, ah_n_nw, if_pos rfl]
  refine ab_putR (r := (some w116)) f_X10_41 (Or.inr ⟨rfl, rfl, rfl⟩) rfl hk121 (fun x => by cases x <;> rfl) (fun x => by cases x <;> rfl) dX10_init_101 ?_
  refine Wp.nm fun h125 e126 => ?_
  have ht := ht h125 e126
  have hk128 : ah_k h125 t = 10 := by rw [e126]; exact hk121
  refine ab_aload_n (i := 0) dX10_init_104 rfl rfl ?_
  refine ab_iconst (v := 0) dX10_init_105 (by decide) ?_
  refine ab_putI f_X10_45 (Or.inl rfl) rfl hk128 rfl rfl dX10_init_106 ?_
  refine Wp.nm fun h129 e130 => ?_
  have ht := ht h129 e130
  have hk132 : ah_k h129 t = 10 := by rw [e130]; exact hk128
  refine ab_aload_n (i := 0) dX10_init_109 rfl rfl ?_
  refine ab_iconst (v := (-1)) dX10_init_110 (by decide) ?_
  refine ab_putI f_X10_49 (Or.inl rfl) rfl hk132 rfl rfl dX10_init_111 ?_
  refine Wp.nm fun h133 e134 => ?_
  have ht := ht h133 e134
  have hk136 : ah_k h133 t = 10 := by rw [e134]; exact hk132
  refine ab_aload_n (i := 0) dX10_init_114 rfl rfl ?_
  obtain ⟨b137, hr138, hk139, ht⟩ := ht
  refine ab_getR (b := b137) f_X10_35 rfl hk136 hr138 dX10_init_115 ?_
  refine ab_iconst (v := 1) dX10_init_118 (by decide) ?_
  refine ab_iconst (v := 3) dX10_init_119 (by decide) ?_
  obtain ⟨hc140, ht⟩ := ht
  refine ab_iast hk139 hc140 dX10_init_120 ?_
  refine Wp.nm fun h141 e142 => ?_
  have ht := ht h141 e142
  have hk144 : ah_k h141 t = 10 := by rw [e142]; exact hk136
  exact ab_vret rfl dX10_init_121 (Nat.le_of_ble_eq_true rfl) (by first | exact (Nat.le_of_ble_eq_true rfl) | assumption) ht
theorem dX2_init_0 : decode cX2_init 0 = .ok (.aload_n 0, 1) := by decide +kernel
theorem dX2_init_1 : decode cX2_init 1 = .ok (.invokespecial 3, 3) := by decide +kernel
theorem dX2_init_4 : decode cX2_init 4 = .ok (.aload_n 0, 1) := by decide +kernel
theorem dX2_init_5 : decode cX2_init 5 = .ok (.bipush 13, 2) := by decide +kernel
theorem dX2_init_7 : decode cX2_init 7 = .ok (.newarray .int, 2) := by decide +kernel
theorem dX2_init_9 : decode cX2_init 9 = .ok (.putfield 9, 3) := by decide +kernel
theorem dX2_init_12 : decode cX2_init 12 = .ok (.aload_n 0, 1) := by decide +kernel
theorem dX2_init_13 : decode cX2_init 13 = .ok (.iconst 0, 1) := by decide +kernel
theorem dX2_init_14 : decode cX2_init 14 = .ok (.putfield 15, 3) := by decide +kernel
theorem dX2_init_17 : decode cX2_init 17 = .ok (.aload_n 0, 1) := by decide +kernel
theorem dX2_init_18 : decode cX2_init 18 = .ok (.bipush 120, 2) := by decide +kernel
theorem dX2_init_20 : decode cX2_init 20 = .ok (.newarray .int, 2) := by decide +kernel
theorem dX2_init_22 : decode cX2_init 22 = .ok (.putfield 19, 3) := by decide +kernel
theorem dX2_init_25 : decode cX2_init 25 = .ok (.return_, 1) := by decide +kernel
set_option maxRecDepth 20000 in
theorem T_X2_init {Q : Option Value → ah_T → Prop} {h : ah_T} (t : Nat) (hk_t : ah_k h t = 2) (ht : (∀ w1, w1 = ah_x h → (∀ h3, h3 = ah_nw h 14 13 → (¬ t = ah_x h) ∧ (∀ h10, h10 = ah_sr h3 t 0 (some w1) → (∀ h14, h14 = ah_si h10 t 1 0 → (∀ w18, w18 = ah_x h14 → (∀ h20, h20 = ah_nw h14 14 120 → (¬ t = ah_x h14) ∧ (∀ h27, h27 = ah_sr h20 t 2 (some w18) → Q none h27)))))))) : Mt nX2_init [.ref t] h Q := by
  refine Mt.ofWp rfl (by exact (Nat.le_of_ble_eq_true rfl)) (Wp.fewer (L' := [some (.ref t)]) (show ab_leL _ _ from ⟨rfl, trivial⟩) ?_)
  refine ab_aload_n (i := 0) dX2_init_0 rfl rfl ?_
  refine ab_obj (tb_1 (List.mem_of_getElem? (i := 166) (by decide +kernel)) rfl) in_obj co_obj (Nat.le_of_ble_eq_true rfl) (Nat.le_of_ble_eq_true rfl) dX2_init_1 ?_
  refine ab_aload_n (i := 0) dX2_init_4 rfl rfl ?_
  refine ab_bipush (v := 13) dX2_init_5 (by decide) ?_
  refine ab_newa (N := 13) 14 1 .int (by decide) rfl wa_int (by decide) (by decide) (by decide) (Nat.le_of_ble_eq_true rfl) (Nat.le_of_ble_eq_true rfl) dX2_init_7 ?_
  obtain ⟨w1, ew2⟩ : ∃ z, z = ah_x h := ⟨_, rfl⟩
  rw [← ew2]
  have ht := ht w1 ew2
  refine Wp.nm fun h3 e4 => ?_
  have ht := ht h3 e4
  have hc7 := ht.1
  have ht := ht.2
  have hk6 : ah_k h3 t = 2 := by rw [e4, ah_k_nw, if_neg hc7]; exact hk_t
  have hk8 : ah_k h3 w1 = 14 := by rw [e4, ew2, ah_k_nw, if_pos rfl]
  have hn9 : ah_n h3 w1 = 13 := by rw [e4, ew2, ah_n_nw, if_pos rfl]
  refine ab_putR (r := (some w1)) f_X2_9 (Or.inr ⟨rfl, rfl, rfl⟩) rfl hk6 (fun x => by cases x <;> rfl) (fun x => by cases x <;> rfl) dX2_init_9 ?_
  refine Wp.nm fun h10 e11 => ?_
  have ht := ht h10 e11
  have hk13 : ah_k h10 t = 2 := by rw [e11]; exact hk6
  refine ab_aload_n (i := 0) dX2_init_12 rfl rfl ?_
  refine ab_iconst (v := 0) dX2_init_13 (by decide) ?_
  refine ab_putI f_X2_15 (Or.inl rfl) rfl hk13 rfl rfl dX2_init_14 ?_
  refine Wp.nm fun h14 e15 => ?_
  have ht := ht h14 e15
  have hk17 : ah_k h14 t = 2 := by rw [e15]; exact hk13
  refine ab_aload_n (i := 0) dX2_init_17 rfl rfl ?_
  refine ab_bipush (v := 120) dX2_init_18 (by decide) ?_
  refine ab_newa (N := 120) 14 1 .int (by decide) rfl wa_int (by decide) (by decide) (by decide) (Nat.le_of_ble_eq_true rfl) (Nat.le_of_ble_eq_true rfl) dX2_init_20 ?_
  obtain ⟨w18, ew19⟩ : ∃ z, z = ah_x h14 := ⟨_, rfl⟩
  rw [← ew19]
  have ht := ht w18 ew19
  refine Wp.nm fun h20 e21 => ?_
  have ht := ht h20 e21
  have hc24 := ht.1
  have ht := ht.2
  have hk23 : ah_k h20 t = 2 := by rw [e21, ah_k_nw, if_neg hc24]; exact hk17
  have hk25 : ah_k h20 w18 = 14 := by rw [e21, ew19, ah_k_nw, if_pos rfl]
  have hn26 : ah_n h20 w18 = 120 := by rw [e21, ew19, ah_n_nw, if_pos rfl]
  refine ab_putR (r := (some w18)) f_X2_19 (Or.inr ⟨rfl, rfl, rfl⟩) rfl hk23 (fun x => by cases x <;> rfl) (fun x => by cases x <;> rfl) dX2_init_22 ?_
  refine Wp.nm fun h27 e28 => ?_
  have ht := ht h27 e28
  have hk30 : ah_k h27 t = 2 := by rw [e28]; exact hk23
  exact ab_vret rfl dX2_init_25 (Nat.le_of_ble_eq_true rfl) (by first | exact (Nat.le_of_ble_eq_true rfl) | assumption) ht
theorem dX5_init_0 : decode cX5_init 0 = .ok (.aload_n 0, 1) := by decide +kernel
theorem dX5_init_1 : decode cX5_init 1 = .ok (.invokespecial 3, 3) := by decide +kernel
theorem dX5_init_4 : decode cX5_init 4 = .ok (.aload_n 0, 1) := by decide +kernel
theorem dX5_init_5 : decode cX5_init 5 = .ok (.iconst (-1), 1) := by decide +kernel
theorem dX5_init_6 : decode cX5_init 6 = .ok (.putfield 9, 3) := by decide +kernel
theorem dX5_init_9 : decode cX5_init 9 = .ok (.aload_n 0, 1) := by decide +kernel
theorem dX5_init_10 : decode cX5_init 10 = .ok (.sipush 401, 3) := by decide +kernel
theorem dX5_init_13 : decode cX5_init 13 = .ok (.newarray .int, 2) := by decide +kernel
theorem dX5_init_15 : decode cX5_init 15 = .ok (.putfield 15, 3) := by decide +kernel
theorem dX5_init_18 : decode cX5_init 18 = .ok (.aload_n 0, 1) := by decide +kernel
theorem dX5_init_19 : decode cX5_init 19 = .ok (.sipush 401, 3) := by decide +kernel
theorem dX5_init_22 : decode cX5_init 22 = .ok (.newarray .int, 2) := by decide +kernel
theorem dX5_init_24 : decode cX5_init 24 = .ok (.putfield 19, 3) := by decide +kernel
theorem dX5_init_27 : decode cX5_init 27 = .ok (.aload_n 0, 1) := by decide +kernel
theorem dX5_init_28 : decode cX5_init 28 = .ok (.sipush 500, 3) := by decide +kernel
theorem dX5_init_31 : decode cX5_init 31 = .ok (.newarray .int, 2) := by decide +kernel
theorem dX5_init_33 : decode cX5_init 33 = .ok (.putfield 22, 3) := by decide +kernel
theorem dX5_init_36 : decode cX5_init 36 = .ok (.aload_n 0, 1) := by decide +kernel
theorem dX5_init_37 : decode cX5_init 37 = .ok (.bipush 72, 2) := by decide +kernel
theorem dX5_init_39 : decode cX5_init 39 = .ok (.newarray .int, 2) := by decide +kernel
theorem dX5_init_41 : decode cX5_init 41 = .ok (.putfield 25, 3) := by decide +kernel
theorem dX5_init_44 : decode cX5_init 44 = .ok (.aload_n 0, 1) := by decide +kernel
theorem dX5_init_45 : decode cX5_init 45 = .ok (.iconst 5, 1) := by decide +kernel
theorem dX5_init_46 : decode cX5_init 46 = .ok (.newarray .int, 2) := by decide +kernel
theorem dX5_init_48 : decode cX5_init 48 = .ok (.putfield 28, 3) := by decide +kernel
theorem dX5_init_51 : decode cX5_init 51 = .ok (.aload_n 0, 1) := by decide +kernel
theorem dX5_init_52 : decode cX5_init 52 = .ok (.iconst 0, 1) := by decide +kernel
theorem dX5_init_53 : decode cX5_init 53 = .ok (.putfield 31, 3) := by decide +kernel
theorem dX5_init_56 : decode cX5_init 56 = .ok (.aload_n 0, 1) := by decide +kernel
theorem dX5_init_57 : decode cX5_init 57 = .ok (.iconst 0, 1) := by decide +kernel
theorem dX5_init_58 : decode cX5_init 58 = .ok (.putfield 34, 3) := by decide +kernel
theorem dX5_init_61 : decode cX5_init 61 = .ok (.aload_n 0, 1) := by decide +kernel
theorem dX5_init_62 : decode cX5_init 62 = .ok (.iconst 0, 1) := by decide +kernel
theorem dX5_init_63 : decode cX5_init 63 = .ok (.putfield 37, 3) := by decide +kernel
theorem dX5_init_66 : decode cX5_init 66 = .ok (.aload_n 0, 1) := by decide +kernel
theorem dX5_init_67 : decode cX5_init 67 = .ok (.iconst 0, 1) := by decide +kernel
theorem dX5_init_68 : decode cX5_init 68 = .ok (.putfield 40, 3) := by decide +kernel
theorem dX5_init_71 : decode cX5_init 71 = .ok (.aload_n 0, 1) := by decide +kernel
theorem dX5_init_72 : decode cX5_init 72 = .ok (.iconst 0, 1) := by decide +kernel
theorem dX5_init_73 : decode cX5_init 73 = .ok (.putfield 43, 3) := by decide +kernel
theorem dX5_init_76 : decode cX5_init 76 = .ok (.return_, 1) := by decide +kernel
set_option maxRecDepth 20000 in
theorem T_X5_init {Q : Option Value → ah_T → Prop} {h : ah_T} (t : Nat) (hk_t : ah_k h t = 5) (ht : (∀ h1, h1 = ah_si h t 0 (-1) → (∀ w5, w5 = ah_x h1 → (∀ h7, h7 = ah_nw h1 14 401 → (¬ t = ah_x h1) ∧ (∀ h14, h14 = ah_sr h7 t 1 (some w5) → (∀ w18, w18 = ah_x h14 → (∀ h20, h20 = ah_nw h14 14 401 → (¬ t = ah_x h14) ∧ (∀ h27, h27 = ah_sr h20 t 2 (some w18) → (∀ w31, w31 = ah_x h27 → (∀ h33, h33 = ah_nw h27 14 500 → (¬ t = ah_x h27) ∧ (∀ h40, h40 = ah_sr h33 t 3 (some w31) → (∀ w44, w44 = ah_x h40 → (∀ h46, h46 = ah_nw h40 14 72 → (¬ t = ah_x h40) ∧ (∀ h53, h53 = ah_sr h46 t 4 (some w44) → (∀ w57, w57 = ah_x h53 → (∀ h59, h59 = ah_nw h53 14 5 → (¬ t = ah_x h53) ∧ (∀ h66, h66 = ah_sr h59 t 5 (some w57) → (∀ h70, h70 = ah_si h66 t 6 0 → (∀ h74, h74 = ah_si h70 t 7 0 → (∀ h78, h78 = ah_si h74 t 8 0 → (∀ h82, h82 = ah_si h78 t 9 0 → (∀ h86, h86 = ah_si h82 t 10 0 → Q none h86)))))))))))))))))))))) : Mt nX5_init [.ref t] h Q := by
  refine Mt.ofWp rfl (by exact (Nat.le_of_ble_eq_true rfl)) (Wp.fewer (L' := [some (.ref t)]) (show ab_leL _ _ from ⟨rfl, trivial⟩) ?_)
  refine ab_aload_n (i := 0) dX5_init_0 rfl rfl ?_
  refine ab_obj (tb_1 (List.mem_of_getElem? (i := 125) (by decide +kernel)) rfl) in_obj co_obj (Nat.le_of_ble_eq_true rfl) (Nat.le_of_ble_eq_true rfl) dX5_init_1 ?_
  refine ab_aload_n (i := 0) dX5_init_4 rfl rfl ?_
  refine ab_iconst (v := (-1)) dX5_init_5 (by decide) ?_
  refine ab_putI f_X5_9 (Or.inl rfl) rfl hk_t rfl rfl dX5_init_6 ?_
  refine Wp.nm fun h1 e2 => ?_
  have ht := ht h1 e2
  have hk4 : ah_k h1 t = 5 := by rw [e2]; exact hk_t
  refine ab_aload_n (i := 0) dX5_init_9 rfl rfl ?_
  refine ab_sipush (v := 401) dX5_init_10 (by decide) ?_
  refine ab_newa (N := 401) 14 1 .int (by decide) rfl wa_int (by decide) (by decide) (by decide) (Nat.le_of_ble_eq_true rfl) (Nat.le_of_ble_eq_true rfl) dX5_init_13 ?_
  obtain ⟨w5, ew6⟩ : ∃ z, z = ah_x h1 := ⟨_, rfl⟩
  rw [← ew6]
  have ht := ht w5 ew6
  refine Wp.nm fun h7 e8 => ?_
  have ht := ht h7 e8
  have hc11 := ht.1
  have ht := ht.2
  have hk10 : ah_k h7 t = 5 := by rw [e8, ah_k_nw, if_neg hc11]; exact hk4
  have hk12 : ah_k h7 w5 = 14 := by rw [e8, ew6, ah_k_nw, if_pos rfl]
  have hn13 : ah_n h7 w5 = 401 := by rw [e8, ew6, ah_n_nw, if_pos rfl]
  refine ab_putR (r := (some w5)) f_X5_15 (Or.inr ⟨rfl, rfl, rfl⟩) rfl hk10 (fun x => by cases x <;> rfl) (fun x => by cases x <;> rfl) dX5_init_15 ?_
  refine Wp.nm fun h14 e15 => ?_
  have ht := ht h14 e15
  have hk17 : ah_k h14 t = 5 := by rw [e15]; exact hk10
  refine ab_aload_n (i := 0) dX5_init_18 rfl rfl ?_
  refine ab_sipush (v := 401) dX5_init_19 (by decide) ?_
  refine ab_newa (N := 401) 14 1 .int (by decide) rfl wa_int (by decide) (by decide) (by decide) (Nat.le_of_ble_eq_true rfl) (Nat.le_of_ble_eq_true rfl) dX5_init_22 ?_
  obtain ⟨w18, ew19⟩ : ∃ z, z = ah_x h14 := ⟨_, rfl⟩
  rw [← ew19]
  have ht := ht w18 ew19
  refine Wp.nm fun h20 e21 => ?_
  have ht := ht h20 e21
  have hc24 := ht.1
  have ht := ht.2
  have hk23 : ah_k h20 t = 5 := by rw [e21, ah_k_nw, if_neg hc24]; exact hk17
  have hk25 : ah_k h20 w18 = 14 := by rw [e21, ew19, ah_k_nw, if_pos rfl]
  have hn26 : ah_n h20 w18 = 401 := by rw [e21, ew19, ah_n_nw, if_pos rfl]
  refine ab_putR (r := (some w18)) f_X5_19 (Or.inr ⟨rfl, rfl, rfl⟩) rfl hk23 (fun x => by cases x <;> rfl) (fun x => by cases x <;> rfl) dX5_init_24 ?_
  refine Wp.nm fun h27 e28 => ?_
  have ht := ht h27 e28
  have hk30 : ah_k h27 t = 5 := by rw [e28]; exact hk23
  refine ab_aload_n (i := 0) dX5_init_27 rfl rfl ?_
  refine ab_sipush (v := 500) dX5_init_28 (by decide) ?_
  refine ab_newa (N := 500) 14 1 .int (by decide) rfl wa_int (by decide) (by decide) (by decide) (Nat.le_of_ble_eq_true rfl) (Nat.le_of_ble_eq_true rfl) dX5_init_31 ?_
  obtain ⟨w31, ew32⟩ : ∃ z, z = ah_x h27 := ⟨_, rfl⟩
  rw [← ew32]
  have ht := ht w31 ew32
  refine Wp.nm fun h33 e34 => ?_
  have ht := ht h33 e34
  have hc37 := ht.1
  have ht := ht.2
  have hk36 : ah_k h33 t = 5 := by rw [e34, ah_k_nw, if_neg hc37]; exact hk30
  have hk38 : ah_k h33 w31 = 14 := by rw [e34, ew32, ah_k_nw, if_pos rfl]
  have hn39 : ah_n h33 w31 = 500 := by rw [e34, ew32, ah_n_nw, if_pos rfl]
  refine ab_putR (r := (some w31)) f_X5_22 (Or.inr ⟨rfl, rfl, rfl⟩) rfl hk36 (fun x => by cases x <;> rfl) (fun x => by cases x <;> rfl) dX5_init_33 ?_
  refine Wp.nm fun h40 e41 => ?_
  have ht := ht h40 e41
  have hk43 : ah_k h40 t = 5 := by rw [e41]; exact hk36
  refine ab_aload_n (i := 0) dX5_init_36 rfl rfl ?_
  refine ab_bipush (v := 72) dX5_init_37 (by decide) ?_
  refine ab_newa (N := 72) 14 1 .int (by decide) rfl wa_int (by decide) (by decide) (by decide) (Nat.le_of_ble_eq_true rfl) (Nat.le_of_ble_eq_true rfl) dX5_init_39 ?_
  obtain ⟨w44, ew45⟩ : ∃ z, z = ah_x h40 := ⟨_, rfl⟩
  rw [← ew45]
  have ht := ht w44 ew45
  refine Wp.nm fun h46 e47 => ?_
  have ht := ht h46 e47
  have hc50 := ht.1
  have ht := ht.2
  have hk49 : ah_k h46 t = 5 := by rw [e47, ah_k_nw, if_neg hc50]; exact hk43
  have hk51 : ah_k h46 w44 = 14 := by rw [e47, ew45, ah_k_nw, if_pos rfl]
  have hn52 : ah_n h46 w44 = 72 := by rw [e47, ew45, ah_n_nw, if_pos rfl]
  refine ab_putR (r := (some w44)) f_X5_25 (Or.inr ⟨rfl, rfl, rfl⟩) rfl hk49 (fun x => by cases x <;> rfl) (fun x => by cases x <;> rfl) dX5_init_41 ?_
  refine Wp.nm fun h53 e54 => ?_
  have ht := ht h53 e54
  have hk56 : ah_k h53 t = 5 := by rw [e54]; exact hk49
  refine ab_aload_n (i := 0) dX5_init_44 rfl rfl ?_
  refine ab_iconst (v := 5) dX5_init_45 (by decide) ?_
  refine ab_newa (N := 5) 14 1 .int (by decide) rfl wa_int (by decide) (by decide) (by decide) (Nat.le_of_ble_eq_true rfl) (Nat.le_of_ble_eq_true rfl) dX5_init_46 ?_
  obtain ⟨w57, ew58⟩ : ∃ z, z = ah_x h53 := ⟨_, rfl⟩
  rw [← ew58]
  have ht := ht w57 ew58
  refine Wp.nm fun h59 e60 => ?_
  have ht := ht h59 e60
  have hc63 := ht.1
  have ht := ht.2
  have hk62 : ah_k h59 t = 5 := by rw [e60, ah_k_nw, if_neg hc63]; exact hk56
  have hk64 : ah_k h59 w57 = 14 := by rw [e60, ew58, ah_k_nw, if_pos rfl]
  have hn65 : ah_n h59 w57 = 5 := by rw [e60, ew58, ah_n_nw, if_pos rfl]
  refine ab_putR (r := (some w57)) f_X5_28 (Or.inr ⟨rfl, rfl, rfl⟩) rfl hk62 (fun x => by cases x <;> rfl) (fun x => by cases x <;> rfl) dX5_init_48 ?_
  refine Wp.nm fun h66 e67 => ?_
  have ht := ht h66 e67
  have hk69 : ah_k h66 t = 5 := by rw [e67]; exact hk62
  refine ab_aload_n (i := 0) dX5_init_51 rfl rfl ?_
  refine ab_iconst (v := 0) dX5_init_52 (by decide) ?_
  refine ab_putI f_X5_31 (Or.inl rfl) rfl hk69 rfl rfl dX5_init_53 ?_
  refine Wp.nm fun h70 e71 => ?_
  have ht := ht h70 e71
  have hk73 : ah_k h70 t = 5 := by rw [e71]; exact hk69
  refine ab_aload_n (i := 0) dX5_init_56 rfl rfl ?_
  refine ab_iconst (v := 0) dX5_init_57 (by decide) ?_
  refine ab_putI f_X5_34 (Or.inl rfl) rfl hk73 rfl rfl dX5_init_58 ?_
  refine Wp.nm fun h74 e75 => ?_
  have ht := ht h74 e75
  have hk77 : ah_k h74 t = 5 := by rw [e75]; exact hk73
  refine ab_aload_n (i := 0) dX5_init_61 rfl rfl ?_
  refine ab_iconst (v := 0) dX5_init_62 (by decide) ?_
  refine ab_putI f_X5_37 (Or.inl rfl) rfl hk77 rfl rfl dX5_init_63 ?_
  refine Wp.nm fun h78 e79 => ?_
  have ht := ht h78 e79
  have hk81 : ah_k h78 t = 5 := by rw [e79]; exact hk77
  refine ab_aload_n (i := 0) dX5_init_66 rfl rfl ?_
  refine ab_iconst (v := 0) dX5_init_67 (by decide) ?_
  refine ab_putI f_X5_40 (Or.inl rfl) rfl hk81 rfl rfl dX5_init_68 ?_
  refine Wp.nm fun h82 e83 => ?_
  have ht := ht h82 e83
  have hk85 : ah_k h82 t = 5 := by rw [e83]; exact hk81
  refine ab_aload_n (i := 0) dX5_init_71 rfl rfl ?_
  refine ab_iconst (v := 0) dX5_init_72 (by decide) ?_
  refine ab_putI f_X5_43 (Or.inl rfl) rfl hk85 rfl rfl dX5_init_73 ?_
  refine Wp.nm fun h86 e87 => ?_
  have ht := ht h86 e87
  have hk89 : ah_k h86 t = 5 := by rw [e87]; exact hk85
  exact ab_vret rfl dX5_init_76 (Nat.le_of_ble_eq_true rfl) (by first | exact (Nat.le_of_ble_eq_true rfl) | assumption) ht
theorem dX6_init_0 : decode cX6_init 0 = .ok (.aload_n 0, 1) := by decide +kernel
theorem dX6_init_1 : decode cX6_init 1 = .ok (.invokespecial 3, 3) := by decide +kernel
theorem dX6_init_4 : decode cX6_init 4 = .ok (.aload_n 0, 1) := by decide +kernel
theorem dX6_init_5 : decode cX6_init 5 = .ok (.bipush 12, 2) := by decide +kernel
theorem dX6_init_7 : decode cX6_init 7 = .ok (.newarray .int, 2) := by decide +kernel
theorem dX6_init_9 : decode cX6_init 9 = .ok (.putfield 9, 3) := by decide +kernel
theorem dX6_init_12 : decode cX6_init 12 = .ok (.aload_n 0, 1) := by decide +kernel
theorem dX6_init_13 : decode cX6_init 13 = .ok (.bipush 12, 2) := by decide +kernel
theorem dX6_init_15 : decode cX6_init 15 = .ok (.newarray .int, 2) := by decide +kernel
theorem dX6_init_17 : decode cX6_init 17 = .ok (.putfield 15, 3) := by decide +kernel
theorem dX6_init_20 : decode cX6_init 20 = .ok (.aload_n 0, 1) := by decide +kernel
theorem dX6_init_21 : decode cX6_init 21 = .ok (.iconst (-1), 1) := by decide +kernel
theorem dX6_init_22 : decode cX6_init 22 = .ok (.putfield 18, 3) := by decide +kernel
theorem dX6_init_25 : decode cX6_init 25 = .ok (.aload_n 0, 1) := by decide +kernel
theorem dX6_init_26 : decode cX6_init 26 = .ok (.bipush 10, 2) := by decide +kernel
theorem dX6_init_28 : decode cX6_init 28 = .ok (.newarray .int, 2) := by decide +kernel
theorem dX6_init_30 : decode cX6_init 30 = .ok (.putfield 22, 3) := by decide +kernel
theorem dX6_init_33 : decode cX6_init 33 = .ok (.aload_n 0, 1) := by decide +kernel
theorem dX6_init_34 : decode cX6_init 34 = .ok (.sipush 144, 3) := by decide +kernel
theorem dX6_init_37 : decode cX6_init 37 = .ok (.newarray .int, 2) := by decide +kernel
theorem dX6_init_39 : decode cX6_init 39 = .ok (.putfield 25, 3) := by decide +kernel
theorem dX6_init_42 : decode cX6_init 42 = .ok (.aload_n 0, 1) := by decide +kernel
theorem dX6_init_43 : decode cX6_init 43 = .ok (.sipush 144, 3) := by decide +kernel
theorem dX6_init_46 : decode cX6_init 46 = .ok (.newarray .int, 2) := by decide +kernel
theorem dX6_init_48 : decode cX6_init 48 = .ok (.putfield 28, 3) := by decide +kernel
theorem dX6_init_51 : decode cX6_init 51 = .ok (.aload_n 0, 1) := by decide +kernel
theorem dX6_init_52 : decode cX6_init 52 = .ok (.bipush 120, 2) := by decide +kernel
theorem dX6_init_54 : decode cX6_init 54 = .ok (.newarray .int, 2) := by decide +kernel
theorem dX6_init_56 : decode cX6_init 56 = .ok (.putfield 31, 3) := by decide +kernel
theorem dX6_init_59 : decode cX6_init 59 = .ok (.aload_n 0, 1) := by decide +kernel
theorem dX6_init_60 : decode cX6_init 60 = .ok (.bipush 10, 2) := by decide +kernel
theorem dX6_init_62 : decode cX6_init 62 = .ok (.newarray .int, 2) := by decide +kernel
theorem dX6_init_64 : decode cX6_init 64 = .ok (.putfield 34, 3) := by decide +kernel
theorem dX6_init_67 : decode cX6_init 67 = .ok (.aload_n 0, 1) := by decide +kernel
theorem dX6_init_68 : decode cX6_init 68 = .ok (.bipush 10, 2) := by decide +kernel
theorem dX6_init_70 : decode cX6_init 70 = .ok (.newarray .int, 2) := by decide +kernel
theorem dX6_init_72 : decode cX6_init 72 = .ok (.putfield 37, 3) := by decide +kernel
theorem dX6_init_75 : decode cX6_init 75 = .ok (.aload_n 0, 1) := by decide +kernel
theorem dX6_init_76 : decode cX6_init 76 = .ok (.iconst 0, 1) := by decide +kernel
theorem dX6_init_77 : decode cX6_init 77 = .ok (.putfield 40, 3) := by decide +kernel
theorem dX6_init_80 : decode cX6_init 80 = .ok (.aload_n 0, 1) := by decide +kernel
theorem dX6_init_81 : decode cX6_init 81 = .ok (.aconst_null, 1) := by decide +kernel
theorem dX6_init_82 : decode cX6_init 82 = .ok (.putfield 43, 3) := by decide +kernel
theorem dX6_init_85 : decode cX6_init 85 = .ok (.aload_n 0, 1) := by decide +kernel
theorem dX6_init_86 : decode cX6_init 86 = .ok (.iconst 0, 1) := by decide +kernel
theorem dX6_init_87 : decode cX6_init 87 = .ok (.putfield 46, 3) := by decide +kernel
theorem dX6_init_90 : decode cX6_init 90 = .ok (.aload_n 0, 1) := by decide +kernel
theorem dX6_init_91 : decode cX6_init 91 = .ok (.iconst (-1), 1) := by decide +kernel
theorem dX6_init_92 : decode cX6_init 92 = .ok (.putfield 50, 3) := by decide +kernel
theorem dX6_init_95 : decode cX6_init 95 = .ok (.aload_n 0, 1) := by decide +kernel
theorem dX6_init_96 : decode cX6_init 96 = .ok (.aload_n 1, 1) := by decide +kernel
theorem dX6_init_97 : decode cX6_init 97 = .ok (.putfield 53, 3) := by decide +kernel
theorem dX6_init_100 : decode cX6_init 100 = .ok (.return_, 1) := by decide +kernel
set_option maxRecDepth 20000 in
theorem T_X6_init {Q : Option Value → ah_T → Prop} {h : ah_T} (t : Nat) (a1 : Nat) (hk_t : ah_k h t = 6) (ht : (∀ w1, w1 = ah_x h → (∀ h3, h3 = ah_nw h 14 12 → (¬ t = ah_x h) ∧ (∀ h10, h10 = ah_sr h3 t 0 (some w1) → (∀ w14, w14 = ah_x h10 → (∀ h16, h16 = ah_nw h10 14 12 → (¬ t = ah_x h10) ∧ (∀ h23, h23 = ah_sr h16 t 1 (some w14) → (∀ h27, h27 = ah_si h23 t 2 (-1) → (∀ w31, w31 = ah_x h27 → (∀ h33, h33 = ah_nw h27 14 10 → (¬ t = ah_x h27) ∧ (∀ h40, h40 = ah_sr h33 t 3 (some w31) → (∀ w44, w44 = ah_x h40 → (∀ h46, h46 = ah_nw h40 14 144 → (¬ t = ah_x h40) ∧ (∀ h53, h53 = ah_sr h46 t 5 (some w44) → (∀ w57, w57 = ah_x h53 → (∀ h59, h59 = ah_nw h53 14 144 → (¬ t = ah_x h53) ∧ (∀ h66, h66 = ah_sr h59 t 6 (some w57) → (∀ w70, w70 = ah_x h66 → (∀ h72, h72 = ah_nw h66 14 120 → (¬ t = ah_x h66) ∧ (∀ h79, h79 = ah_sr h72 t 7 (some w70) → (∀ w83, w83 = ah_x h79 → (∀ h85, h85 = ah_nw h79 14 10 → (¬ t = ah_x h79) ∧ (∀ h92, h92 = ah_sr h85 t 8 (some w83) → (∀ w96, w96 = ah_x h92 → (∀ h98, h98 = ah_nw h92 14 10 → (¬ t = ah_x h92) ∧ (∀ h105, h105 = ah_sr h98 t 9 (some w96) → (∀ h109, h109 = ah_si h105 t 10 0 → (∀ h113, h113 = ah_sr h109 t 11 none → (∀ h117, h117 = ah_si h113 t 12 0 → (∀ h121, h121 = ah_si h117 t 13 (-1) → (∀ h125, h125 = ah_sr h121 t 4 (some a1) → Q none h125))))))))))))))))))))))))))))))) : Mt nX6_init [.ref t, .ref a1] h Q := by
  refine Mt.ofWp rfl (by exact (Nat.le_of_ble_eq_true rfl)) (Wp.fewer (L' := [some (.ref t), some (.ref a1)]) (show ab_leL _ _ from ⟨rfl, ⟨rfl, trivial⟩⟩) ?_)
  refine ab_aload_n (i := 0) dX6_init_0 rfl rfl ?_
  refine ab_obj (tb_1 (List.mem_of_getElem? (i := 186) (by decide +kernel)) rfl) in_obj co_obj (Nat.le_of_ble_eq_true rfl) (Nat.le_of_ble_eq_true rfl) dX6_init_1 ?_
  refine ab_aload_n (i := 0) dX6_init_4 rfl rfl ?_
  refine ab_bipush (v := 12) dX6_init_5 (by decide) ?_
  refine ab_newa (N := 12) 14 1 .int (by decide) rfl wa_int (by decide) (by decide) (by decide) (Nat.le_of_ble_eq_true rfl) (Nat.le_of_ble_eq_true rfl) dX6_init_7 ?_
  obtain ⟨w1, ew2⟩ : ∃ z, z = ah_x h := ⟨_, rfl⟩
  rw [← ew2]
  have ht := ht w1 ew2
  refine Wp.nm fun h3 e4 => ?_
  have ht := ht h3 e4
  have hc7 := ht.1
  have ht := ht.2
  have hk6 : ah_k h3 t = 6 := by rw [e4, ah_k_nw, if_neg hc7]; exact hk_t
  have hk8 : ah_k h3 w1 = 14 := by rw [e4, ew2, ah_k_nw, if_pos rfl]
  have hn9 : ah_n h3 w1 = 12 := by rw [e4, ew2, ah_n_nw, if_pos rfl]
  refine ab_putR (r := (some w1)) f_X6_9 (Or.inr ⟨rfl, rfl, rfl⟩) rfl hk6 (fun x => by cases x <;> rfl) (fun x => by cases x <;> rfl) dX6_init_9 ?_
  refine Wp.nm fun h10 e11 => ?_
  have ht := ht h10 e11
  have hk13 : ah_k h10 t = 6 := by rw [e11]; exact hk6
  refine ab_aload_n (i := 0) dX6_init_12 rfl rfl ?_
  refine ab_bipush (v := 12) dX6_init_13 (by decide) ?_
  refine ab_newa (N := 12) 14 1 .int (by decide) rfl wa_int (by decide) (by decide) (by decide) (Nat.le_of_ble_eq_true rfl) (Nat.le_of_ble_eq_true rfl) dX6_init_15 ?_
  obtain ⟨w14, ew15⟩ : ∃ z, z = ah_x h10 := ⟨_, rfl⟩
  rw [← ew15]
  have ht := ht w14 ew15
  refine Wp.nm fun h16 e17 => ?_
  have ht := ht h16 e17
  have hc20 := ht.1
  have ht := ht.2
  have hk19 : ah_k h16 t = 6 := by rw [e17, ah_k_nw, if_neg hc20]; exact hk13
  have hk21 : ah_k h16 w14 = 14 := by rw [e17, ew15, ah_k_nw, if_pos rfl]
  have hn22 : ah_n h16 w14 = 12 := by rw [e17, ew15, ah_n_nw, if_pos rfl]
  refine ab_putR (r := (some w14)) f_X6_15 (Or.inr ⟨rfl, rfl, rfl⟩) rfl hk19 (fun x => by cases x <;> rfl) (fun x => by cases x <;> rfl) dX6_init_17 ?_
  refine Wp.nm fun h23 e24 => ?_
  have ht := ht h23 e24
  have hk26 : ah_k h23 t = 6 := by rw [e24]; exact hk19
  refine ab_aload_n (i := 0) dX6_init_20 rfl rfl ?_
  refine ab_iconst (v := (-1)) dX6_init_21 (by decide) ?_
  refine ab_putI f_X6_18 (Or.inl rfl) rfl hk26 rfl rfl dX6_init_22 ?_
  refine Wp.nm fun h27 e28 => ?_
  have ht := ht h27 e28
  have hk30 : ah_k h27 t = 6 := by rw [e28]; exact hk26
  refine ab_aload_n (i := 0) dX6_init_25 rfl rfl ?_
  refine ab_bipush (v := 10) dX6_init_26 (by decide) ?_
  refine ab_newa (N := 10) 14 1 .int (by decide) rfl wa_int (by decide) (by decide) (by decide) (Nat.le_of_ble_eq_true rfl) (Nat.le_of_ble_eq_true rfl) dX6_init_28 ?_
  obtain ⟨w31, ew32⟩ : ∃ z, z = ah_x h27 := ⟨_, rfl⟩
  rw [← ew32]
  have ht := ht w31 ew32
  refine Wp.nm fun h33 e34 => ?_
  have ht := ht h33 e34
  have hc37 := ht.1
  have ht := ht.2
  have hk36 : ah_k h33 t = 6 := by rw [e34, ah_k_nw, if_neg hc37]; exact hk30
  have hk38 : ah_k h33 w31 = 14 := by rw [e34, ew32, ah_k_nw, if_pos rfl]
  have hn39 : ah_n h33 w31 = 10 := by rw [e34, ew32, ah_n_nw, if_pos rfl]
  refine ab_putR (r := (some w31)) f_X6_22 (Or.inr ⟨rfl, rfl, rfl⟩) rfl hk36 (fun x => by cases x <;> rfl) (fun x => by cases x <;> rfl) dX6_init_30 ?_
  refine Wp.nm fun h40 e41 => ?_
  have ht := ht h40 e41
  have hk43 : ah_k h40 t = 6 := by rw [e41]; exact hk36
  refine ab_aload_n (i := 0) dX6_init_33 rfl rfl ?_
  refine ab_sipush (v := 144) dX6_init_34 (by decide) ?_
  refine ab_newa (N := 144) 14 1 .int (by decide) rfl wa_int (by decide) (by decide) (by decide) (Nat.le_of_ble_eq_true rfl) (Nat.le_of_ble_eq_true rfl) dX6_init_37 ?_
  obtain ⟨w44, ew45⟩ : ∃ z, z = ah_x h40 := ⟨_, rfl⟩
  rw [← ew45]
  have ht := ht w44 ew45
  refine Wp.nm fun h46 e47 => ?_
  have ht := ht h46 e47
  have hc50 := ht.1
  have ht := ht.2
  have hk49 : ah_k h46 t = 6 := by rw [e47, ah_k_nw, if_neg hc50]; exact hk43
  have hk51 : ah_k h46 w44 = 14 := by rw [e47, ew45, ah_k_nw, if_pos rfl]
  have hn52 : ah_n h46 w44 = 144 := by rw [e47, ew45, ah_n_nw, if_pos rfl]
  refine ab_putR (r := (some w44)) f_X6_25 (Or.inr ⟨rfl, rfl, rfl⟩) rfl hk49 (fun x => by cases x <;> rfl) (fun x => by cases x <;> rfl) dX6_init_39 ?_
  refine Wp.nm fun h53 e54 => ?_
  have ht := ht h53 e54
  have hk56 : ah_k h53 t = 6 := by rw [e54]; exact hk49
  refine ab_aload_n (i := 0) dX6_init_42 rfl rfl ?_
  refine ab_sipush (v := 144) dX6_init_43 (by decide) ?_
  refine ab_newa (N := 144) 14 1 .int (by decide) rfl wa_int (by decide) (by decide) (by decide) (Nat.le_of_ble_eq_true rfl) (Nat.le_of_ble_eq_true rfl) dX6_init_46 ?_
  obtain ⟨w57, ew58⟩ : ∃ z, z = ah_x h53 := ⟨_, rfl⟩
  rw [← ew58]
  have ht := ht w57 ew58
  refine Wp.nm fun h59 e60 => ?_
  have ht := ht h59 e60
  have hc63 := ht.1
  have ht := ht.2
  have hk62 : ah_k h59 t = 6 := by rw [e60, ah_k_nw, if_neg hc63]; exact hk56
  have hk64 : ah_k h59 w57 = 14 := by rw [e60, ew58, ah_k_nw, if_pos rfl]
  have hn65 : ah_n h59 w57 = 144 := by rw [e60, ew58, ah_n_nw, if_pos rfl]
  refine ab_putR (r := (some w57)) f_X6_28 (Or.inr ⟨rfl, rfl, rfl⟩) rfl hk62 (fun x => by cases x <;> rfl) (fun x => by cases x <;> rfl) dX6_init_48 ?_
  refine Wp.nm fun h66 e67 => ?_
  have ht := ht h66 e67
  have hk69 : ah_k h66 t = 6 := by rw [e67]; exact hk62
  refine ab_aload_n (i := 0) dX6_init_51 rfl rfl ?_
  refine ab_bipush (v := 120) dX6_init_52 (by decide) ?_
  refine ab_newa (N := 120) 14 1 .int (by decide) rfl wa_int (by decide) (by decide) (by decide) (Nat.le_of_ble_eq_true rfl) (Nat.le_of_ble_eq_true rfl) dX6_init_54 ?_
  obtain ⟨w70, ew71⟩ : ∃ z, z = ah_x h66 := ⟨_, rfl⟩
  rw [← ew71]
  have ht := ht w70 ew71
  refine Wp.nm fun h72 e73 => ?_
  have ht := ht h72 e73
  have hc76 := ht.1
  have ht := ht.2
  have hk75 : ah_k h72 t = 6 := by rw [e73, ah_k_nw, if_neg hc76]; exact hk69
  have hk77 : ah_k h72 w70 = 14 := by rw [e73, ew71, ah_k_nw, if_pos rfl]
  have hn78 : ah_n h72 w70 = 120 := by rw [e73, ew71, ah_n_nw, if_pos rfl]
  refine ab_putR (r := (some w70)) f_X6_31 (Or.inr ⟨rfl, rfl, rfl⟩) rfl hk75 (fun x => by cases x <;> rfl) (fun x => by cases x <;> rfl) dX6_init_56 ?_
  refine Wp.nm fun h79 e80 => ?_
  have ht := ht h79 e80
  have hk82 : ah_k h79 t = 6 := by rw [e80]; exact hk75
  refine ab_aload_n (i := 0) dX6_init_59 rfl rfl ?_
  refine ab_bipush (v := 10) dX6_init_60 (by decide) ?_
  refine ab_newa (N := 10) 14 1 .int (by decide) rfl wa_int (by decide) (by decide) (by decide) (Nat.le_of_ble_eq_true rfl) (Nat.le_of_ble_eq_true rfl) dX6_init_62 ?_
  obtain ⟨w83, ew84⟩ : ∃ z, z = ah_x h79 := ⟨_, rfl⟩
  rw [← ew84]
  have ht := ht w83 ew84
  refine Wp.nm fun h85 e86 => ?_
  have ht := ht h85 e86
  have hc89 := ht.1
  have ht := ht.2
  have hk88 : ah_k h85 t = 6 := by rw [e86, ah_k_nw, if_neg hc89]; exact hk82
  have hk90 : ah_k h85 w83 = 14 := by rw [e86, ew84, ah_k_nw, if_pos rfl]
  have hn91 : ah_n h85 w83 = 10 := by rw [e86, ew84, ah_n_nw, if_pos rfl]
  refine ab_putR (r := (some w83)) f_X6_34 (Or.inr ⟨rfl, rfl, rfl⟩) rfl hk88 (fun x => by cases x <;> rfl) (fun x => by cases x <;> rfl) dX6_init_64 ?_
  refine Wp.nm fun h92 e93 => ?_
  have ht := ht h92 e93
  have hk95 : ah_k h92 t = 6 := by rw [e93]; exact hk88
  refine ab_aload_n (i := 0) dX6_init_67 rfl rfl ?_
  refine ab_bipush (v := 10) dX6_init_68 (by decide) ?_
  refine ab_newa (N := 10) 14 1 .int (by decide) rfl wa_int (by decide) (by decide) (by decide) (Nat.le_of_ble_eq_true rfl) (Nat.le_of_ble_eq_true rfl) dX6_init_70 ?_
  obtain ⟨w96, ew97⟩ : ∃ z, z = ah_x h92 := ⟨_, rfl⟩
  rw [← ew97]
  have ht := ht w96 ew97
  refine Wp.nm fun h98 e99 => ?_
  have ht := ht h98 e99
  have hc102 := ht.1
  have ht := ht.2
  have hk101 : ah_k h98 t = 6 := by rw [e99, ah_k_nw, if_neg hc102]; exact hk95
  have hk103 : ah_k h98 w96 = 14 := by rw [e99, ew97, ah_k_nw, if_pos rfl]
  have hn104 : ah_n h98 w96 = 10 := by rw [e99, ew97, ah_n_nw, if_pos rfl]
  refine ab_putR (r := (some w96)) f_X6_37 (Or.inr ⟨rfl, rfl, rfl⟩) rfl hk101 (fun x => by cases x <;> rfl) (fun x => by cases x <;> rfl) dX6_init_72 ?_
  refine Wp.nm fun h105 e106 => ?_
  have ht := ht h105 e106
  have hk108 : ah_k h105 t = 6 := by rw [e106]; exact hk101
  refine ab_aload_n (i := 0) dX6_init_75 rfl rfl ?_
  refine ab_iconst (v := 0) dX6_init_76 (by decide) ?_
  refine ab_putI f_X6_40 (Or.inl rfl) rfl hk108 rfl rfl dX6_init_77 ?_
  refine Wp.nm fun h109 e110 => ?_
  have ht := ht h109 e110
  have hk112 : ah_k h109 t = 6 := by rw [e110]; exact hk108
  refine ab_aload_n (i := 0) dX6_init_80 rfl rfl ?_
  refine ab_null dX6_init_81 ?_
  refine ab_putR (r := none) f_X6_43 (Or.inl rfl) rfl hk112 (fun x => by cases x <;> rfl) (fun x => by cases x <;> rfl) dX6_init_82 ?_
  refine Wp.nm fun h113 e114 => ?_
  have ht := ht h113 e114
  have hk116 : ah_k h113 t = 6 := by rw [e114]; exact hk112
  refine ab_aload_n (i := 0) dX6_init_85 rfl rfl ?_
  refine ab_iconst (v := 0) dX6_init_86 (by decide) ?_
  refine ab_putI f_X6_46 (Or.inl rfl) rfl hk116 rfl rfl dX6_init_87 ?_
  refine Wp.nm fun h117 e118 => ?_
  have ht := ht h117 e118
  have hk120 : ah_k h117 t = 6 := by rw [e118]; exact hk116
  refine ab_aload_n (i := 0) dX6_init_90 rfl rfl ?_
  refine ab_iconst (v := (-1)) dX6_init_91 (by decide) ?_
  refine ab_putI f_X6_50 (Or.inl rfl) rfl hk120 rfl rfl dX6_init_92 ?_
  refine Wp.nm fun h121 e122 => ?_
  have ht := ht h121 e122
  have hk124 : ah_k h121 t = 6 := by rw [e122]; exact hk120
  refine ab_aload_n (i := 0) dX6_init_95 rfl rfl ?_
  refine ab_aload_n (i := 1) dX6_init_96 rfl rfl ?_
  refine ab_putR (r := (some a1)) f_X6_53 (Or.inr ⟨rfl, rfl, rfl⟩) rfl hk124 (fun x => by cases x <;> rfl) (fun x => by cases x <;> rfl) dX6_init_97 ?_
  refine Wp.nm fun h125 e126 => ?_
  have ht := ht h125 e126
  have hk128 : ah_k h125 t = 6 := by rw [e126]; exact hk124
  exact ab_vret rfl dX6_init_100 (Nat.le_of_ble_eq_true rfl) (by first | exact (Nat.le_of_ble_eq_true rfl) | assumption) ht
theorem dX8_init_0 : decode cX8_init 0 = .ok (.aload_n 0, 1) := by decide +kernel
theorem dX8_init_1 : decode cX8_init 1 = .ok (.invokespecial 3, 3) := by decide +kernel
theorem dX8_init_4 : decode cX8_init 4 = .ok (.aload_n 0, 1) := by decide +kernel
theorem dX8_init_5 : decode cX8_init 5 = .ok (.aconst_null, 1) := by decide +kernel
theorem dX8_init_6 : decode cX8_init 6 = .ok (.putfield 9, 3) := by decide +kernel
theorem dX8_init_9 : decode cX8_init 9 = .ok (.aload_n 0, 1) := by decide +kernel
theorem dX8_init_10 : decode cX8_init 10 = .ok (.iconst 0, 1) := by decide +kernel
theorem dX8_init_11 : decode cX8_init 11 = .ok (.putfield 15, 3) := by decide +kernel
theorem dX8_init_14 : decode cX8_init 14 = .ok (.aload_n 0, 1) := by decide +kernel
theorem dX8_init_15 : decode cX8_init 15 = .ok (.iconst 0, 1) := by decide +kernel
theorem dX8_init_16 : decode cX8_init 16 = .ok (.putfield 19, 3) := by decide +kernel
theorem dX8_init_19 : decode cX8_init 19 = .ok (.aload_n 0, 1) := by decide +kernel
theorem dX8_init_20 : decode cX8_init 20 = .ok (.sipush 4096, 3) := by decide +kernel
theorem dX8_init_23 : decode cX8_init 23 = .ok (.newarray .long, 2) := by decide +kernel
theorem dX8_init_25 : decode cX8_init 25 = .ok (.putfield 22, 3) := by decide +kernel
theorem dX8_init_28 : decode cX8_init 28 = .ok (.aload_n 0, 1) := by decide +kernel
theorem dX8_init_29 : decode cX8_init 29 = .ok (.lconst 1, 1) := by decide +kernel
theorem dX8_init_30 : decode cX8_init 30 = .ok (.putfield 26, 3) := by decide +kernel
theorem dX8_init_33 : decode cX8_init 33 = .ok (.aload_n 0, 1) := by decide +kernel
theorem dX8_init_34 : decode cX8_init 34 = .ok (.sipush 2400, 3) := by decide +kernel
theorem dX8_init_37 : decode cX8_init 37 = .ok (.newarray .int, 2) := by decide +kernel
theorem dX8_init_39 : decode cX8_init 39 = .ok (.putfield 30, 3) := by decide +kernel
theorem dX8_init_42 : decode cX8_init 42 = .ok (.aload_n 0, 1) := by decide +kernel
theorem dX8_init_43 : decode cX8_init 43 = .ok (.sipush 8640, 3) := by decide +kernel
theorem dX8_init_46 : decode cX8_init 46 = .ok (.newarray .int, 2) := by decide +kernel
theorem dX8_init_48 : decode cX8_init 48 = .ok (.putfield 34, 3) := by decide +kernel
theorem dX8_init_51 : decode cX8_init 51 = .ok (.aload_n 0, 1) := by decide +kernel
theorem dX8_init_52 : decode cX8_init 52 = .ok (.sipush 1200, 3) := by decide +kernel
theorem dX8_init_55 : decode cX8_init 55 = .ok (.newarray .int, 2) := by decide +kernel
theorem dX8_init_57 : decode cX8_init 57 = .ok (.putfield 37, 3) := by decide +kernel
theorem dX8_init_60 : decode cX8_init 60 = .ok (.aload_n 0, 1) := by decide +kernel
theorem dX8_init_61 : decode cX8_init 61 = .ok (.aload_n 1, 1) := by decide +kernel
theorem dX8_init_62 : decode cX8_init 62 = .ok (.putfield 40, 3) := by decide +kernel
theorem dX8_init_65 : decode cX8_init 65 = .ok (.aload_n 0, 1) := by decide +kernel
theorem dX8_init_66 : decode cX8_init 66 = .ok (.aload_n 2, 1) := by decide +kernel
theorem dX8_init_67 : decode cX8_init 67 = .ok (.putfield 44, 3) := by decide +kernel
theorem dX8_init_70 : decode cX8_init 70 = .ok (.aload_n 0, 1) := by decide +kernel
theorem dX8_init_71 : decode cX8_init 71 = .ok (.aload_n 3, 1) := by decide +kernel
theorem dX8_init_72 : decode cX8_init 72 = .ok (.putfield 48, 3) := by decide +kernel
theorem dX8_init_75 : decode cX8_init 75 = .ok (.return_, 1) := by decide +kernel
set_option maxRecDepth 20000 in
theorem T_X8_init {Q : Option Value → ah_T → Prop} {h : ah_T} (t : Nat) (a1 : Nat) (a2 : Nat) (a3 : Nat) (hk_t : ah_k h t = 8) (ht : (∀ h1, h1 = ah_sr h t 3 none → (∀ h5, h5 = ah_si h1 t 4 0 → (∀ h9, h9 = ah_si h5 t 5 0 → (∀ w13, w13 = ah_x h9 → (∀ h15, h15 = ah_nw h9 15 4096 → (¬ t = ah_x h9) ∧ (∀ h22, h22 = ah_sr h15 t 6 (some w13) → (∀ h26, h26 = ah_sl h22 t 7 (1 : Int64) → (∀ w30, w30 = ah_x h26 → (∀ h32, h32 = ah_nw h26 14 2400 → (¬ t = ah_x h26) ∧ (∀ h39, h39 = ah_sr h32 t 8 (some w30) → (∀ w43, w43 = ah_x h39 → (∀ h45, h45 = ah_nw h39 14 8640 → (¬ t = ah_x h39) ∧ (∀ h52, h52 = ah_sr h45 t 9 (some w43) → (∀ w56, w56 = ah_x h52 → (∀ h58, h58 = ah_nw h52 14 1200 → (¬ t = ah_x h52) ∧ (∀ h65, h65 = ah_sr h58 t 10 (some w56) → (∀ h69, h69 = ah_sr h65 t 0 (some a1) → (∀ h73, h73 = ah_sr h69 t 1 (some a2) → (∀ h77, h77 = ah_sr h73 t 2 (some a3) → Q none h77)))))))))))))))))))) : Mt nX8_init [.ref t, .ref a1, .ref a2, .ref a3] h Q := by
  refine Mt.ofWp rfl (by exact (Nat.le_of_ble_eq_true rfl)) (Wp.fewer (L' := [some (.ref t), some (.ref a1), some (.ref a2), some (.ref a3)]) (show ab_leL _ _ from ⟨rfl, ⟨rfl, ⟨rfl, ⟨rfl, trivial⟩⟩⟩⟩) ?_)
  refine ab_aload_n (i := 0) dX8_init_0 rfl rfl ?_
  refine ab_obj (tb_1 (List.mem_of_getElem? (i := 239) (by decide +kernel)) rfl) in_obj co_obj (Nat.le_of_ble_eq_true rfl) (Nat.le_of_ble_eq_true rfl) dX8_init_1 ?_
  refine ab_aload_n (i := 0) dX8_init_4 rfl rfl ?_
  refine ab_null dX8_init_5 ?_
  refine ab_putR (r := none) f_X8_9 (Or.inl rfl) rfl hk_t (fun x => by cases x <;> rfl) (fun x => by cases x <;> rfl) dX8_init_6 ?_
  refine Wp.nm fun h1 e2 => ?_
  have ht := ht h1 e2
  have hk4 : ah_k h1 t = 8 := by rw [e2]; exact hk_t
  refine ab_aload_n (i := 0) dX8_init_9 rfl rfl ?_
  refine ab_iconst (v := 0) dX8_init_10 (by decide) ?_
  refine ab_putI f_X8_15 (Or.inl rfl) rfl hk4 rfl rfl dX8_init_11 ?_
  refine Wp.nm fun h5 e6 => ?_
  have ht := ht h5 e6
  have hk8 : ah_k h5 t = 8 := by rw [e6]; exact hk4
  refine ab_aload_n (i := 0) dX8_init_14 rfl rfl ?_
  refine ab_iconst (v := 0) dX8_init_15 (by decide) ?_
  refine ab_putI f_X8_19 (Or.inl rfl) rfl hk8 rfl rfl dX8_init_16 ?_
  refine Wp.nm fun h9 e10 => ?_
  have ht := ht h9 e10
  have hk12 : ah_k h9 t = 8 := by rw [e10]; exact hk8
  refine ab_aload_n (i := 0) dX8_init_19 rfl rfl ?_
  refine ab_sipush (v := 4096) dX8_init_20 (by decide) ?_
  refine ab_newa (N := 4096) 15 2 .long (by decide) rfl wa_long (by decide) (by decide) (by decide) (Nat.le_of_ble_eq_true rfl) (Nat.le_of_ble_eq_true rfl) dX8_init_23 ?_
  obtain ⟨w13, ew14⟩ : ∃ z, z = ah_x h9 := ⟨_, rfl⟩
  rw [← ew14]
  have ht := ht w13 ew14
  refine Wp.nm fun h15 e16 => ?_
  have ht := ht h15 e16
  have hc19 := ht.1
  have ht := ht.2
  have hk18 : ah_k h15 t = 8 := by rw [e16, ah_k_nw, if_neg hc19]; exact hk12
  have hk20 : ah_k h15 w13 = 15 := by rw [e16, ew14, ah_k_nw, if_pos rfl]
  have hn21 : ah_n h15 w13 = 4096 := by rw [e16, ew14, ah_n_nw, if_pos rfl]
  refine ab_putR (r := (some w13)) f_X8_22 (Or.inr ⟨rfl, rfl, rfl⟩) rfl hk18 (fun x => by cases x <;> rfl) (fun x => by cases x <;> rfl) dX8_init_25 ?_
  refine Wp.nm fun h22 e23 => ?_
  have ht := ht h22 e23
  have hk25 : ah_k h22 t = 8 := by rw [e23]; exact hk18
  refine ab_aload_n (i := 0) dX8_init_28 rfl rfl ?_
  refine ab_lconst (v := 1) dX8_init_29 (by decide) ?_
  refine ab_putL f_X8_26 (Or.inl rfl) rfl hk25 dX8_init_30 ?_
  refine Wp.nm fun h26 e27 => ?_
  have ht := ht h26 e27
  have hk29 : ah_k h26 t = 8 := by rw [e27]; exact hk25
  refine ab_aload_n (i := 0) dX8_init_33 rfl rfl ?_
  refine ab_sipush (v := 2400) dX8_init_34 (by decide) ?_
  refine ab_newa (N := 2400) 14 1 .int (by decide) rfl wa_int (by decide) (by decide) (by decide) (Nat.le_of_ble_eq_true rfl) (Nat.le_of_ble_eq_true rfl) dX8_init_37 ?_
  obtain ⟨w30, ew31⟩ : ∃ z, z = ah_x h26 := ⟨_, rfl⟩
  rw [← ew31]
  have ht := ht w30 ew31
  refine Wp.nm fun h32 e33 => ?_
  have ht := ht h32 e33
  have hc36 := ht.1
  have ht := ht.2
  have hk35 : ah_k h32 t = 8 := by rw [e33, ah_k_nw, if_neg hc36]; exact hk29
  have hk37 : ah_k h32 w30 = 14 := by rw [e33, ew31, ah_k_nw, if_pos rfl]
  have hn38 : ah_n h32 w30 = 2400 := by rw [e33, ew31, ah_n_nw, if_pos rfl]
  refine ab_putR (r := (some w30)) f_X8_30 (Or.inr ⟨rfl, rfl, rfl⟩) rfl hk35 (fun x => by cases x <;> rfl) (fun x => by cases x <;> rfl) dX8_init_39 ?_
  refine Wp.nm fun h39 e40 => ?_
  have ht := ht h39 e40
  have hk42 : ah_k h39 t = 8 := by rw [e40]; exact hk35
  refine ab_aload_n (i := 0) dX8_init_42 rfl rfl ?_
  refine ab_sipush (v := 8640) dX8_init_43 (by decide) ?_
  refine ab_newa (N := 8640) 14 1 .int (by decide) rfl wa_int (by decide) (by decide) (by decide) (Nat.le_of_ble_eq_true rfl) (Nat.le_of_ble_eq_true rfl) dX8_init_46 ?_
  obtain ⟨w43, ew44⟩ : ∃ z, z = ah_x h39 := ⟨_, rfl⟩
  rw [← ew44]
  have ht := ht w43 ew44
  refine Wp.nm fun h45 e46 => ?_
  have ht := ht h45 e46
  have hc49 := ht.1
  have ht := ht.2
  have hk48 : ah_k h45 t = 8 := by rw [e46, ah_k_nw, if_neg hc49]; exact hk42
  have hk50 : ah_k h45 w43 = 14 := by rw [e46, ew44, ah_k_nw, if_pos rfl]
  have hn51 : ah_n h45 w43 = 8640 := by rw [e46, ew44, ah_n_nw, if_pos rfl]
  refine ab_putR (r := (some w43)) f_X8_34 (Or.inr ⟨rfl, rfl, rfl⟩) rfl hk48 (fun x => by cases x <;> rfl) (fun x => by cases x <;> rfl) dX8_init_48 ?_
  refine Wp.nm fun h52 e53 => ?_
  have ht := ht h52 e53
  have hk55 : ah_k h52 t = 8 := by rw [e53]; exact hk48
  refine ab_aload_n (i := 0) dX8_init_51 rfl rfl ?_
  refine ab_sipush (v := 1200) dX8_init_52 (by decide) ?_
  refine ab_newa (N := 1200) 14 1 .int (by decide) rfl wa_int (by decide) (by decide) (by decide) (Nat.le_of_ble_eq_true rfl) (Nat.le_of_ble_eq_true rfl) dX8_init_55 ?_
  obtain ⟨w56, ew57⟩ : ∃ z, z = ah_x h52 := ⟨_, rfl⟩
  rw [← ew57]
  have ht := ht w56 ew57
  refine Wp.nm fun h58 e59 => ?_
  have ht := ht h58 e59
  have hc62 := ht.1
  have ht := ht.2
  have hk61 : ah_k h58 t = 8 := by rw [e59, ah_k_nw, if_neg hc62]; exact hk55
  have hk63 : ah_k h58 w56 = 14 := by rw [e59, ew57, ah_k_nw, if_pos rfl]
  have hn64 : ah_n h58 w56 = 1200 := by rw [e59, ew57, ah_n_nw, if_pos rfl]
  refine ab_putR (r := (some w56)) f_X8_37 (Or.inr ⟨rfl, rfl, rfl⟩) rfl hk61 (fun x => by cases x <;> rfl) (fun x => by cases x <;> rfl) dX8_init_57 ?_
  refine Wp.nm fun h65 e66 => ?_
  have ht := ht h65 e66
  have hk68 : ah_k h65 t = 8 := by rw [e66]; exact hk61
  refine ab_aload_n (i := 0) dX8_init_60 rfl rfl ?_
  refine ab_aload_n (i := 1) dX8_init_61 rfl rfl ?_
  refine ab_putR (r := (some a1)) f_X8_40 (Or.inr ⟨rfl, rfl, rfl⟩) rfl hk68 (fun x => by cases x <;> rfl) (fun x => by cases x <;> rfl) dX8_init_62 ?_
  refine Wp.nm fun h69 e70 => ?_
  have ht := ht h69 e70
  have hk72 : ah_k h69 t = 8 := by rw [e70]; exact hk68
  refine ab_aload_n (i := 0) dX8_init_65 rfl rfl ?_
  refine ab_aload_n (i := 2) dX8_init_66 rfl rfl ?_
  refine ab_putR (r := (some a2)) f_X8_44 (Or.inr ⟨rfl, rfl, rfl⟩) rfl hk72 (fun x => by cases x <;> rfl) (fun x => by cases x <;> rfl) dX8_init_67 ?_
  refine Wp.nm fun h73 e74 => ?_
  have ht := ht h73 e74
  have hk76 : ah_k h73 t = 8 := by rw [e74]; exact hk72
  refine ab_aload_n (i := 0) dX8_init_70 rfl rfl ?_
  refine ab_aload_n (i := 3) dX8_init_71 rfl rfl ?_
  refine ab_putR (r := (some a3)) f_X8_48 (Or.inr ⟨rfl, rfl, rfl⟩) rfl hk76 (fun x => by cases x <;> rfl) (fun x => by cases x <;> rfl) dX8_init_72 ?_
  refine Wp.nm fun h77 e78 => ?_
  have ht := ht h77 e78
  have hk80 : ah_k h77 t = 8 := by rw [e78]; exact hk76
  exact ab_vret rfl dX8_init_75 (Nat.le_of_ble_eq_true rfl) (by first | exact (Nat.le_of_ble_eq_true rfl) | assumption) ht
theorem dX3_init_0 : decode cX3_init 0 = .ok (.aload_n 0, 1) := by decide +kernel
theorem dX3_init_1 : decode cX3_init 1 = .ok (.invokespecial 3, 3) := by decide +kernel
theorem dX3_init_4 : decode cX3_init 4 = .ok (.aload_n 0, 1) := by decide +kernel
theorem dX3_init_5 : decode cX3_init 5 = .ok (.iconst 0, 1) := by decide +kernel
theorem dX3_init_6 : decode cX3_init 6 = .ok (.putfield 9, 3) := by decide +kernel
theorem dX3_init_9 : decode cX3_init 9 = .ok (.aload_n 0, 1) := by decide +kernel
theorem dX3_init_10 : decode cX3_init 10 = .ok (.bipush 10, 2) := by decide +kernel
theorem dX3_init_12 : decode cX3_init 12 = .ok (.newarray .int, 2) := by decide +kernel
theorem dX3_init_14 : decode cX3_init 14 = .ok (.putfield 15, 3) := by decide +kernel
theorem dX3_init_17 : decode cX3_init 17 = .ok (.aload_n 0, 1) := by decide +kernel
theorem dX3_init_18 : decode cX3_init 18 = .ok (.bipush 10, 2) := by decide +kernel
theorem dX3_init_20 : decode cX3_init 20 = .ok (.newarray .int, 2) := by decide +kernel
theorem dX3_init_22 : decode cX3_init 22 = .ok (.putfield 19, 3) := by decide +kernel
theorem dX3_init_25 : decode cX3_init 25 = .ok (.aload_n 0, 1) := by decide +kernel
theorem dX3_init_26 : decode cX3_init 26 = .ok (.bipush 10, 2) := by decide +kernel
theorem dX3_init_28 : decode cX3_init 28 = .ok (.newarray .int, 2) := by decide +kernel
theorem dX3_init_30 : decode cX3_init 30 = .ok (.putfield 22, 3) := by decide +kernel
theorem dX3_init_33 : decode cX3_init 33 = .ok (.aload_n 0, 1) := by decide +kernel
theorem dX3_init_34 : decode cX3_init 34 = .ok (.bipush 10, 2) := by decide +kernel
theorem dX3_init_36 : decode cX3_init 36 = .ok (.newarray .int, 2) := by decide +kernel
theorem dX3_init_38 : decode cX3_init 38 = .ok (.putfield 25, 3) := by decide +kernel
theorem dX3_init_41 : decode cX3_init 41 = .ok (.aload_n 0, 1) := by decide +kernel
theorem dX3_init_42 : decode cX3_init 42 = .ok (.iconst 0, 1) := by decide +kernel
theorem dX3_init_43 : decode cX3_init 43 = .ok (.putfield 28, 3) := by decide +kernel
theorem dX3_init_46 : decode cX3_init 46 = .ok (.aload_n 0, 1) := by decide +kernel
theorem dX3_init_47 : decode cX3_init 47 = .ok (.iconst 0, 1) := by decide +kernel
theorem dX3_init_48 : decode cX3_init 48 = .ok (.putfield 31, 3) := by decide +kernel
theorem dX3_init_51 : decode cX3_init 51 = .ok (.aload_n 0, 1) := by decide +kernel
theorem dX3_init_52 : decode cX3_init 52 = .ok (.iconst 0, 1) := by decide +kernel
theorem dX3_init_53 : decode cX3_init 53 = .ok (.putfield 34, 3) := by decide +kernel
theorem dX3_init_56 : decode cX3_init 56 = .ok (.aload_n 0, 1) := by decide +kernel
theorem dX3_init_57 : decode cX3_init 57 = .ok (.iconst 0, 1) := by decide +kernel
theorem dX3_init_58 : decode cX3_init 58 = .ok (.putfield 37, 3) := by decide +kernel
theorem dX3_init_61 : decode cX3_init 61 = .ok (.aload_n 0, 1) := by decide +kernel
theorem dX3_init_62 : decode cX3_init 62 = .ok (.iconst 3, 1) := by decide +kernel
theorem dX3_init_63 : decode cX3_init 63 = .ok (.newarray .int, 2) := by decide +kernel
theorem dX3_init_65 : decode cX3_init 65 = .ok (.putfield 40, 3) := by decide +kernel
theorem dX3_init_68 : decode cX3_init 68 = .ok (.aload_n 0, 1) := by decide +kernel
theorem dX3_init_69 : decode cX3_init 69 = .ok (.sipush 360, 3) := by decide +kernel
theorem dX3_init_72 : decode cX3_init 72 = .ok (.newarray .int, 2) := by decide +kernel
theorem dX3_init_74 : decode cX3_init 74 = .ok (.putfield 43, 3) := by decide +kernel
theorem dX3_init_77 : decode cX3_init 77 = .ok (.aload_n 0, 1) := by decide +kernel
theorem dX3_init_78 : decode cX3_init 78 = .ok (.iconst 0, 1) := by decide +kernel
theorem dX3_init_79 : decode cX3_init 79 = .ok (.putfield 46, 3) := by decide +kernel
theorem dX3_init_82 : decode cX3_init 82 = .ok (.aload_n 0, 1) := by decide +kernel
theorem dX3_init_83 : decode cX3_init 83 = .ok (.iconst (-1), 1) := by decide +kernel
theorem dX3_init_84 : decode cX3_init 84 = .ok (.putfield 49, 3) := by decide +kernel
theorem dX3_init_87 : decode cX3_init 87 = .ok (.aload_n 0, 1) := by decide +kernel
theorem dX3_init_88 : decode cX3_init 88 = .ok (.bipush 120, 2) := by decide +kernel
theorem dX3_init_90 : decode cX3_init 90 = .ok (.newarray .int, 2) := by decide +kernel
theorem dX3_init_92 : decode cX3_init 92 = .ok (.putfield 52, 3) := by decide +kernel
theorem dX3_init_95 : decode cX3_init 95 = .ok (.aload_n 0, 1) := by decide +kernel
theorem dX3_init_96 : decode cX3_init 96 = .ok (.bipush 24, 2) := by decide +kernel
theorem dX3_init_98 : decode cX3_init 98 = .ok (.newarray .int, 2) := by decide +kernel
theorem dX3_init_100 : decode cX3_init 100 = .ok (.putfield 55, 3) := by decide +kernel
theorem dX3_init_103 : decode cX3_init 103 = .ok (.aload_n 0, 1) := by decide +kernel
theorem dX3_init_104 : decode cX3_init 104 = .ok (.bipush 10, 2) := by decide +kernel
theorem dX3_init_106 : decode cX3_init 106 = .ok (.newarray .int, 2) := by decide +kernel
theorem dX3_init_108 : decode cX3_init 108 = .ok (.putfield 58, 3) := by decide +kernel
theorem dX3_init_111 : decode cX3_init 111 = .ok (.aload_n 0, 1) := by decide +kernel
theorem dX3_init_112 : decode cX3_init 112 = .ok (.bipush 22, 2) := by decide +kernel
theorem dX3_init_114 : decode cX3_init 114 = .ok (.newarray .int, 2) := by decide +kernel
theorem dX3_init_116 : decode cX3_init 116 = .ok (.putfield 61, 3) := by decide +kernel
theorem dX3_init_119 : decode cX3_init 119 = .ok (.aload_n 0, 1) := by decide +kernel
theorem dX3_init_120 : decode cX3_init 120 = .ok (.aload_n 1, 1) := by decide +kernel
theorem dX3_init_121 : decode cX3_init 121 = .ok (.putfield 64, 3) := by decide +kernel
theorem dX3_init_124 : decode cX3_init 124 = .ok (.aload_n 0, 1) := by decide +kernel
theorem dX3_init_125 : decode cX3_init 125 = .ok (.aload_n 2, 1) := by decide +kernel
theorem dX3_init_126 : decode cX3_init 126 = .ok (.putfield 68, 3) := by decide +kernel
theorem dX3_init_129 : decode cX3_init 129 = .ok (.aload_n 0, 1) := by decide +kernel
theorem dX3_init_130 : decode cX3_init 130 = .ok (.aload_n 3, 1) := by decide +kernel
theorem dX3_init_131 : decode cX3_init 131 = .ok (.putfield 72, 3) := by decide +kernel
theorem dX3_init_134 : decode cX3_init 134 = .ok (.return_, 1) := by decide +kernel
set_option maxRecDepth 20000 in
theorem T_X3_init {Q : Option Value → ah_T → Prop} {h : ah_T} (t : Nat) (a1 : Nat) (a2 : Nat) (a3 : Nat) (hk_t : ah_k h t = 3) (ht : (∀ h1, h1 = ah_si h t 0 0 → (∀ w5, w5 = ah_x h1 → (∀ h7, h7 = ah_nw h1 14 10 → (¬ t = ah_x h1) ∧ (∀ h14, h14 = ah_sr h7 t 1 (some w5) → (∀ w18, w18 = ah_x h14 → (∀ h20, h20 = ah_nw h14 14 10 → (¬ t = ah_x h14) ∧ (∀ h27, h27 = ah_sr h20 t 2 (some w18) → (∀ w31, w31 = ah_x h27 → (∀ h33, h33 = ah_nw h27 14 10 → (¬ t = ah_x h27) ∧ (∀ h40, h40 = ah_sr h33 t 3 (some w31) → (∀ w44, w44 = ah_x h40 → (∀ h46, h46 = ah_nw h40 14 10 → (¬ t = ah_x h40) ∧ (∀ h53, h53 = ah_sr h46 t 4 (some w44) → (∀ h57, h57 = ah_si h53 t 5 0 → (∀ h61, h61 = ah_si h57 t 6 0 → (∀ h65, h65 = ah_si h61 t 7 0 → (∀ h69, h69 = ah_si h65 t 8 0 → (∀ w73, w73 = ah_x h69 → (∀ h75, h75 = ah_nw h69 14 3 → (¬ t = ah_x h69) ∧ (∀ h82, h82 = ah_sr h75 t 9 (some w73) → (∀ w86, w86 = ah_x h82 → (∀ h88, h88 = ah_nw h82 14 360 → (¬ t = ah_x h82) ∧ (∀ h95, h95 = ah_sr h88 t 10 (some w86) → (∀ h99, h99 = ah_si h95 t 14 0 → (∀ h103, h103 = ah_si h99 t 15 (-1) → (∀ w107, w107 = ah_x h103 → (∀ h109, h109 = ah_nw h103 14 120 → (¬ t = ah_x h103) ∧ (∀ h116, h116 = ah_sr h109 t 16 (some w107) → (∀ w120, w120 = ah_x h116 → (∀ h122, h122 = ah_nw h116 14 24 → (¬ t = ah_x h116) ∧ (∀ h129, h129 = ah_sr h122 t 17 (some w120) → (∀ w133, w133 = ah_x h129 → (∀ h135, h135 = ah_nw h129 14 10 → (¬ t = ah_x h129) ∧ (∀ h142, h142 = ah_sr h135 t 18 (some w133) → (∀ w146, w146 = ah_x h142 → (∀ h148, h148 = ah_nw h142 14 22 → (¬ t = ah_x h142) ∧ (∀ h155, h155 = ah_sr h148 t 19 (some w146) → (∀ h159, h159 = ah_sr h155 t 11 (some a1) → (∀ h163, h163 = ah_sr h159 t 12 (some a2) → (∀ h167, h167 = ah_sr h163 t 13 (some a3) → Q none h167))))))))))))))))))))))))))))))))))))))))) : Mt nX3_init [.ref t, .ref a1, .ref a2, .ref a3] h Q := by
  refine Mt.ofWp rfl (by exact (Nat.le_of_ble_eq_true rfl)) (Wp.fewer (L' := [some (.ref t), some (.ref a1), some (.ref a2), some (.ref a3)]) (show ab_leL _ _ from ⟨rfl, ⟨rfl, ⟨rfl, ⟨rfl, trivial⟩⟩⟩⟩) ?_)
  refine ab_aload_n (i := 0) dX3_init_0 rfl rfl ?_
  refine ab_obj (tb_2 (List.mem_of_getElem? (i := 40) (by decide +kernel)) rfl) in_obj co_obj (Nat.le_of_ble_eq_true rfl) (Nat.le_of_ble_eq_true rfl) dX3_init_1 ?_
  refine ab_aload_n (i := 0) dX3_init_4 rfl rfl ?_
  refine ab_iconst (v := 0) dX3_init_5 (by decide) ?_
  refine ab_putI f_X3_9 (Or.inl rfl) rfl hk_t rfl rfl dX3_init_6 ?_
  refine Wp.nm fun h1 e2 => ?_
  have ht := ht h1 e2
  have hk4 : ah_k h1 t = 3 := by rw [e2]; exact hk_t
  refine ab_aload_n (i := 0) dX3_init_9 rfl rfl ?_
  refine ab_bipush (v := 10) dX3_init_10 (by decide) ?_
  refine ab_newa (N := 10) 14 1 .int (by decide) rfl wa_int (by decide) (by decide) (by decide) (Nat.le_of_ble_eq_true rfl) (Nat.le_of_ble_eq_true rfl) dX3_init_12 ?_
  obtain ⟨w5, ew6⟩ : ∃ z, z = ah_x h1 := ⟨_, rfl⟩
  rw [← ew6]
  have ht := ht w5 ew6
  refine Wp.nm fun h7 e8 => ?_
  have ht := ht h7 e8
  have hc11 := ht.1
  have ht := ht.2
  have hk10 : ah_k h7 t = 3 := by rw [e8, ah_k_nw, if_neg hc11]; exact hk4
  have hk12 : ah_k h7 w5 = 14 := by rw [e8, ew6, ah_k_nw, if_pos rfl]
  have hn13 : ah_n h7 w5 = 10 := by rw [e8, ew6, ah_n_nw, if_pos rfl]
  refine ab_putR (r := (some w5)) f_X3_15 (Or.inr ⟨rfl, rfl, rfl⟩) rfl hk10 (fun x => by cases x <;> rfl) (fun x => by cases x <;> rfl) dX3_init_14 ?_
  refine Wp.nm fun h14 e15 => ?_
  have ht := ht h14 e15
  have hk17 : ah_k h14 t = 3 := by rw [e15]; exact hk10
  refine ab_aload_n (i := 0) dX3_init_17 rfl rfl ?_
  refine ab_bipush (v := 10) dX3_init_18 (by decide) ?_
  refine ab_newa (N := 10) 14 1 .int (by decide) rfl wa_int (by decide) (by decide) (by decide) (Nat.le_of_ble_eq_true rfl) (Nat.le_of_ble_eq_true rfl) dX3_init_20 ?_
  obtain ⟨w18, ew19⟩ : ∃ z, z = ah_x h14 := ⟨_, rfl⟩
  rw [← ew19]
  have ht := ht w18 ew19
  refine Wp.nm fun h20 e21 => ?_
  have ht := ht h20 e21
  have hc24 := ht.1
  have ht := ht.2
  have hk23 : ah_k h20 t = 3 := by rw [e21, ah_k_nw, if_neg hc24]; exact hk17
  have hk25 : ah_k h20 w18 = 14 := by rw [e21, ew19, ah_k_nw, if_pos rfl]
  have hn26 : ah_n h20 w18 = 10 := by rw [e21, ew19, ah_n_nw, if_pos rfl]
  refine ab_putR (r := (some w18)) f_X3_19 (Or.inr ⟨rfl, rfl, rfl⟩) rfl hk23 (fun x => by cases x <;> rfl) (fun x => by cases x <;> rfl) dX3_init_22 ?_
  refine Wp.nm fun h27 e28 => ?_
  have ht := ht h27 e28
  have hk30 : ah_k h27 t = 3 := by rw [e28]; exact hk23
  refine ab_aload_n (i := 0) dX3_init_25 rfl rfl ?_
  refine ab_bipush (v := 10) dX3_init_26 (by decide) ?_
  refine ab_newa (N := 10) 14 1 .int (by decide) rfl wa_int (by decide) (by decide) (by decide) (Nat.le_of_ble_eq_true rfl) (Nat.le_of_ble_eq_true rfl) dX3_init_28 ?_
  obtain ⟨w31, ew32⟩ : ∃ z, z = ah_x h27 := ⟨_, rfl⟩
  rw [← ew32]
  have ht := ht w31 ew32
  refine Wp.nm fun h33 e34 => ?_
  have ht := ht h33 e34
  have hc37 := ht.1
  have ht := ht.2
  have hk36 : ah_k h33 t = 3 := by rw [e34, ah_k_nw, if_neg hc37]; exact hk30
  have hk38 : ah_k h33 w31 = 14 := by rw [e34, ew32, ah_k_nw, if_pos rfl]
  have hn39 : ah_n h33 w31 = 10 := by rw [e34, ew32, ah_n_nw, if_pos rfl]
  refine ab_putR (r := (some w31)) f_X3_22 (Or.inr ⟨rfl, rfl, rfl⟩) rfl hk36 (fun x => by cases x <;> rfl) (fun x => by cases x <;> rfl) dX3_init_30 ?_
  refine Wp.nm fun h40 e41 => ?_
  have ht := ht h40 e41
  have hk43 : ah_k h40 t = 3 := by rw [e41]; exact hk36
  refine ab_aload_n (i := 0) dX3_init_33 rfl rfl ?_
  refine ab_bipush (v := 10) dX3_init_34 (by decide) ?_
  refine ab_newa (N := 10) 14 1 .int (by decide) rfl wa_int (by decide) (by decide) (by decide) (Nat.le_of_ble_eq_true rfl) (Nat.le_of_ble_eq_true rfl) dX3_init_36 ?_
  obtain ⟨w44, ew45⟩ : ∃ z, z = ah_x h40 := ⟨_, rfl⟩
  rw [← ew45]
  have ht := ht w44 ew45
  refine Wp.nm fun h46 e47 => ?_
  have ht := ht h46 e47
  have hc50 := ht.1
  have ht := ht.2
  have hk49 : ah_k h46 t = 3 := by rw [e47, ah_k_nw, if_neg hc50]; exact hk43
  have hk51 : ah_k h46 w44 = 14 := by rw [e47, ew45, ah_k_nw, if_pos rfl]
  have hn52 : ah_n h46 w44 = 10 := by rw [e47, ew45, ah_n_nw, if_pos rfl]
  refine ab_putR (r := (some w44)) f_X3_25 (Or.inr ⟨rfl, rfl, rfl⟩) rfl hk49 (fun x => by cases x <;> rfl) (fun x => by cases x <;> rfl) dX3_init_38 ?_
  refine Wp.nm fun h53 e54 => ?_
  have ht := ht h53 e54
  have hk56 : ah_k h53 t = 3 := by rw [e54]; exact hk49
  refine ab_aload_n (i := 0) dX3_init_41 rfl rfl ?_
  refine ab_iconst (v := 0) dX3_init_42 (by decide) ?_
  refine ab_putI f_X3_28 (Or.inl rfl) rfl hk56 rfl rfl dX3_init_43 ?_
  refine Wp.nm fun h57 e58 => ?_
  have ht := ht h57 e58
  have hk60 : ah_k h57 t = 3 := by rw [e58]; exact hk56
  refine ab_aload_n (i := 0) dX3_init_46 rfl rfl ?_
  refine ab_iconst (v := 0) dX3_init_47 (by decide) ?_
  refine ab_putI f_X3_31 (Or.inl rfl) rfl hk60 rfl rfl dX3_init_48 ?_
  refine Wp.nm fun h61 e62 => ?_
  have ht := ht h61 e62
  have hk64 : ah_k h61 t = 3 := by rw [e62]; exact hk60
  refine ab_aload_n (i := 0) dX3_init_51 rfl rfl ?_
  refine ab_iconst (v := 0) dX3_init_52 (by decide) ?_
  refine ab_putI f_X3_34 (Or.inl rfl) rfl hk64 rfl rfl dX3_init_53 ?_
  refine Wp.nm fun h65 e66 => ?_
  have ht := ht h65 e66
  have hk68 : ah_k h65 t = 3 := by rw [e66]; exact hk64
  refine ab_aload_n (i := 0) dX3_init_56 rfl rfl ?_
  refine ab_iconst (v := 0) dX3_init_57 (by decide) ?_
  refine ab_putI f_X3_37 (Or.inl rfl) rfl hk68 rfl rfl dX3_init_58 ?_
  refine Wp.nm fun h69 e70 => ?_
  have ht := ht h69 e70
  have hk72 : ah_k h69 t = 3 := by rw [e70]; exact hk68
  refine ab_aload_n (i := 0) dX3_init_61 rfl rfl ?_
  refine ab_iconst (v := 3) dX3_init_62 (by decide) ?_
  refine ab_newa (N := 3) 14 1 .int (by decide) rfl wa_int (by decide) (by decide) (by decide) (Nat.le_of_ble_eq_true rfl) (Nat.le_of_ble_eq_true rfl) dX3_init_63 ?_
  obtain ⟨w73, ew74⟩ : ∃ z, z = ah_x h69 := ⟨_, rfl⟩
  rw [← ew74]
  have ht := ht w73 ew74
  refine Wp.nm fun h75 e76 => ?_
  have ht := ht h75 e76
  have hc79 := ht.1
  have ht := ht.2
  have hk78 : ah_k h75 t = 3 := by rw [e76, ah_k_nw, if_neg hc79]; exact hk72
  have hk80 : ah_k h75 w73 = 14 := by rw [e76, ew74, ah_k_nw, if_pos rfl]
  have hn81 : ah_n h75 w73 = 3 := by rw [e76, ew74, ah_n_nw, if_pos rfl]
  refine ab_putR (r := (some w73)) f_X3_40 (Or.inr ⟨rfl, rfl, rfl⟩) rfl hk78 (fun x => by cases x <;> rfl) (fun x => by cases x <;> rfl) dX3_init_65 ?_
  refine Wp.nm fun h82 e83 => ?_
  have ht := ht h82 e83
  have hk85 : ah_k h82 t = 3 := by rw [e83]; exact hk78
  refine ab_aload_n (i := 0) dX3_init_68 rfl rfl ?_
  refine ab_sipush (v := 360) dX3_init_69 (by decide) ?_
  refine ab_newa (N := 360) 14 1 .int (by decide) rfl wa_int (by decide) (by decide) (by decide) (Nat.le_of_ble_eq_true rfl) (Nat.le_of_ble_eq_true rfl) dX3_init_72 ?_
  obtain ⟨w86, ew87⟩ : ∃ z, z = ah_x h82 := ⟨_, rfl⟩
  rw [← ew87]
  have ht := ht w86 ew87
  refine Wp.nm fun h88 e89 => ?_
  have ht := ht h88 e89
  have hc92 := ht.1
  have ht := ht.2
  have hk91 : ah_k h88 t = 3 := by rw [e89, ah_k_nw, if_neg hc92]; exact hk85
  have hk93 : ah_k h88 w86 = 14 := by rw [e89, ew87, ah_k_nw, if_pos rfl]
  have hn94 : ah_n h88 w86 = 360 := by rw [e89, ew87, ah_n_nw, if_pos rfl]
  refine ab_putR (r := (some w86)) f_X3_43 (Or.inr ⟨rfl, rfl, rfl⟩) rfl hk91 (fun x => by cases x <;> rfl) (fun x => by cases x <;> rfl) dX3_init_74 ?_
  refine Wp.nm fun h95 e96 => ?_
  have ht := ht h95 e96
  have hk98 : ah_k h95 t = 3 := by rw [e96]; exact hk91
  refine ab_aload_n (i := 0) dX3_init_77 rfl rfl ?_
  refine ab_iconst (v := 0) dX3_init_78 (by decide) ?_
  refine ab_putI f_X3_46 (Or.inl rfl) rfl hk98 rfl rfl dX3_init_79 ?_
  refine Wp.nm fun h99 e100 => ?_
  have ht := ht h99 e100
  have hk102 : ah_k h99 t = 3 := by rw [e100]; exact hk98
  refine ab_aload_n (i := 0) dX3_init_82 rfl rfl ?_
  refine ab_iconst (v := (-1)) dX3_init_83 (by decide) ?_
  refine ab_putI f_X3_49 (Or.inl rfl) rfl hk102 rfl rfl dX3_init_84 ?_
  refine Wp.nm fun h103 e104 => ?_
  have ht := ht h103 e104
  have hk106 : ah_k h103 t = 3 := by rw [e104]; exact hk102
  refine ab_aload_n (i := 0) dX3_init_87 rfl rfl ?_
  refine ab_bipush (v := 120) dX3_init_88 (by decide) ?_
  refine ab_newa (N := 120) 14 1 .int (by decide) rfl wa_int (by decide) (by decide) (by decide) (Nat.le_of_ble_eq_true rfl) (Nat.le_of_ble_eq_true rfl) dX3_init_90 ?_
  obtain ⟨w107, ew108⟩ : ∃ z, z = ah_x h103 := ⟨_, rfl⟩
  rw [← ew108]
  have ht := ht w107 ew108
  refine Wp.nm fun h109 e110 => ?_
  have ht := ht h109 e110
  have hc113 := ht.1
  have ht := ht.2
  have hk112 : ah_k h109 t = 3 := by rw [e110, ah_k_nw, if_neg hc113]; exact hk106
  have hk114 : ah_k h109 w107 = 14 := by rw [e110, ew108, ah_k_nw, if_pos rfl]
  have hn115 : ah_n h109 w107 = 120 := by rw [e110, ew108, ah_n_nw, if_pos rfl]
  refine ab_putR (r := (some w107)) f_X3_52 (Or.inr ⟨rfl, rfl, rfl⟩) rfl hk112 (fun x => by cases x <;> rfl) (fun x => by cases x <;> rfl) dX3_init_92 ?_
  refine Wp.nm fun h116 e117 => ?_
  have ht := ht h116 e117
  have hk119 : ah_k h116 t = 3 := by rw [e117]; exact hk112
  refine ab_aload_n (i := 0) dX3_init_95 rfl rfl ?_
  refine ab_bipush (v := 24) dX3_init_96 (by decide) ?_
  refine ab_newa (N := 24) 14 1 .int (by decide) rfl wa_int (by decide) (by decide) (by decide) (Nat.le_of_ble_eq_true rfl) (Nat.le_of_ble_eq_true rfl) dX3_init_98 ?_
  obtain ⟨w120, ew121⟩ : ∃ z, z = ah_x h116 := ⟨_, rfl⟩
  rw [← ew121]
  have ht := ht w120 ew121
  refine Wp.nm fun h122 e123 => ?_
  have ht := ht h122 e123
  have hc126 := ht.1
  have ht := ht.2
  have hk125 : ah_k h122 t = 3 := by rw [e123, ah_k_nw, if_neg hc126]; exact hk119
  have hk127 : ah_k h122 w120 = 14 := by rw [e123, ew121, ah_k_nw, if_pos rfl]
  have hn128 : ah_n h122 w120 = 24 := by rw [e123, ew121, ah_n_nw, if_pos rfl]
  refine ab_putR (r := (some w120)) f_X3_55 (Or.inr ⟨rfl, rfl, rfl⟩) rfl hk125 (fun x => by cases x <;> rfl) (fun x => by cases x <;> rfl) dX3_init_100 ?_
  refine Wp.nm fun h129 e130 => ?_
  have ht := ht h129 e130
  have hk132 : ah_k h129 t = 3 := by rw [e130]; exact hk125
  refine ab_aload_n (i := 0) dX3_init_103 rfl rfl ?_
  refine ab_bipush (v := 10) dX3_init_104 (by decide) ?_
  refine ab_newa (N := 10) 14 1 .int (by decide) rfl wa_int (by decide) (by decide) (by decide) (Nat.le_of_ble_eq_true rfl) (Nat.le_of_ble_eq_true rfl) dX3_init_106 ?_
  obtain ⟨w133, ew134⟩ : ∃ z, z = ah_x h129 := ⟨_, rfl⟩
  rw [← ew134]
  have ht := ht w133 ew134
  refine Wp.nm fun h135 e136 => ?_
  have ht := ht h135 e136
  have hc139 := ht.1
  have ht := ht.2
  have hk138 : ah_k h135 t = 3 := by rw [e136, ah_k_nw, if_neg hc139]; exact hk132
  have hk140 : ah_k h135 w133 = 14 := by rw [e136, ew134, ah_k_nw, if_pos rfl]
  have hn141 : ah_n h135 w133 = 10 := by rw [e136, ew134, ah_n_nw, if_pos rfl]
  refine ab_putR (r := (some w133)) f_X3_58 (Or.inr ⟨rfl, rfl, rfl⟩) rfl hk138 (fun x => by cases x <;> rfl) (fun x => by cases x <;> rfl) dX3_init_108 ?_
  refine Wp.nm fun h142 e143 => ?_
  have ht := ht h142 e143
  have hk145 : ah_k h142 t = 3 := by rw [e143]; exact hk138
  refine ab_aload_n (i := 0) dX3_init_111 rfl rfl ?_
  refine ab_bipush (v := 22) dX3_init_112 (by decide) ?_
  refine ab_newa (N := 22) 14 1 .int (by decide) rfl wa_int (by decide) (by decide) (by decide) (Nat.le_of_ble_eq_true rfl) (Nat.le_of_ble_eq_true rfl) dX3_init_114 ?_
  obtain ⟨w146, ew147⟩ : ∃ z, z = ah_x h142 := ⟨_, rfl⟩
  rw [← ew147]
  have ht := ht w146 ew147
  refine Wp.nm fun h148 e149 => ?_
  have ht := ht h148 e149
  have hc152 := ht.1
  have ht := ht.2
  have hk151 : ah_k h148 t = 3 := by rw [e149, ah_k_nw, if_neg hc152]; exact hk145
  have hk153 : ah_k h148 w146 = 14 := by rw [e149, ew147, ah_k_nw, if_pos rfl]
  have hn154 : ah_n h148 w146 = 22 := by rw [e149, ew147, ah_n_nw, if_pos rfl]
  refine ab_putR (r := (some w146)) f_X3_61 (Or.inr ⟨rfl, rfl, rfl⟩) rfl hk151 (fun x => by cases x <;> rfl) (fun x => by cases x <;> rfl) dX3_init_116 ?_
  refine Wp.nm fun h155 e156 => ?_
  have ht := ht h155 e156
  have hk158 : ah_k h155 t = 3 := by rw [e156]; exact hk151
  refine ab_aload_n (i := 0) dX3_init_119 rfl rfl ?_
  refine ab_aload_n (i := 1) dX3_init_120 rfl rfl ?_
  refine ab_putR (r := (some a1)) f_X3_64 (Or.inr ⟨rfl, rfl, rfl⟩) rfl hk158 (fun x => by cases x <;> rfl) (fun x => by cases x <;> rfl) dX3_init_121 ?_
  refine Wp.nm fun h159 e160 => ?_
  have ht := ht h159 e160
  have hk162 : ah_k h159 t = 3 := by rw [e160]; exact hk158
  refine ab_aload_n (i := 0) dX3_init_124 rfl rfl ?_
  refine ab_aload_n (i := 2) dX3_init_125 rfl rfl ?_
  refine ab_putR (r := (some a2)) f_X3_68 (Or.inr ⟨rfl, rfl, rfl⟩) rfl hk162 (fun x => by cases x <;> rfl) (fun x => by cases x <;> rfl) dX3_init_126 ?_
  refine Wp.nm fun h163 e164 => ?_
  have ht := ht h163 e164
  have hk166 : ah_k h163 t = 3 := by rw [e164]; exact hk162
  refine ab_aload_n (i := 0) dX3_init_129 rfl rfl ?_
  refine ab_aload_n (i := 3) dX3_init_130 rfl rfl ?_
  refine ab_putR (r := (some a3)) f_X3_72 (Or.inr ⟨rfl, rfl, rfl⟩) rfl hk166 (fun x => by cases x <;> rfl) (fun x => by cases x <;> rfl) dX3_init_131 ?_
  refine Wp.nm fun h167 e168 => ?_
  have ht := ht h167 e168
  have hk170 : ah_k h167 t = 3 := by rw [e168]; exact hk166
  exact ab_vret rfl dX3_init_134 (Nat.le_of_ble_eq_true rfl) (by first | exact (Nat.le_of_ble_eq_true rfl) | assumption) ht
theorem dX0_init_0 : decode cX0_init 0 = .ok (.aload_n 0, 1) := by decide +kernel
theorem dX0_init_1 : decode cX0_init 1 = .ok (.invokespecial 3, 3) := by decide +kernel
theorem dX0_init_4 : decode cX0_init 4 = .ok (.aload_n 0, 1) := by decide +kernel
theorem dX0_init_5 : decode cX0_init 5 = .ok (.bipush 120, 2) := by decide +kernel
theorem dX0_init_7 : decode cX0_init 7 = .ok (.newarray .int, 2) := by decide +kernel
theorem dX0_init_9 : decode cX0_init 9 = .ok (.putfield 9, 3) := by decide +kernel
theorem dX0_init_12 : decode cX0_init 12 = .ok (.aload_n 0, 1) := by decide +kernel
theorem dX0_init_13 : decode cX0_init 13 = .ok (.bipush 120, 2) := by decide +kernel
theorem dX0_init_15 : decode cX0_init 15 = .ok (.newarray .int, 2) := by decide +kernel
theorem dX0_init_17 : decode cX0_init 17 = .ok (.putfield 15, 3) := by decide +kernel
theorem dX0_init_20 : decode cX0_init 20 = .ok (.aload_n 0, 1) := by decide +kernel
theorem dX0_init_21 : decode cX0_init 21 = .ok (.sipush 1200, 3) := by decide +kernel
theorem dX0_init_24 : decode cX0_init 24 = .ok (.newarray .int, 2) := by decide +kernel
theorem dX0_init_26 : decode cX0_init 26 = .ok (.putfield 18, 3) := by decide +kernel
theorem dX0_init_29 : decode cX0_init 29 = .ok (.aload_n 0, 1) := by decide +kernel
theorem dX0_init_30 : decode cX0_init 30 = .ok (.iconst (-1), 1) := by decide +kernel
theorem dX0_init_31 : decode cX0_init 31 = .ok (.putfield 21, 3) := by decide +kernel
theorem dX0_init_34 : decode cX0_init 34 = .ok (.aload_n 0, 1) := by decide +kernel
theorem dX0_init_35 : decode cX0_init 35 = .ok (.bipush 120, 2) := by decide +kernel
theorem dX0_init_37 : decode cX0_init 37 = .ok (.newarray .int, 2) := by decide +kernel
theorem dX0_init_39 : decode cX0_init 39 = .ok (.putfield 25, 3) := by decide +kernel
theorem dX0_init_42 : decode cX0_init 42 = .ok (.aload_n 0, 1) := by decide +kernel
theorem dX0_init_43 : decode cX0_init 43 = .ok (.iconst 0, 1) := by decide +kernel
theorem dX0_init_44 : decode cX0_init 44 = .ok (.putfield 28, 3) := by decide +kernel
theorem dX0_init_47 : decode cX0_init 47 = .ok (.aload_n 0, 1) := by decide +kernel
theorem dX0_init_48 : decode cX0_init 48 = .ok (.bipush 120, 2) := by decide +kernel
theorem dX0_init_50 : decode cX0_init 50 = .ok (.newarray .int, 2) := by decide +kernel
theorem dX0_init_52 : decode cX0_init 52 = .ok (.putfield 32, 3) := by decide +kernel
theorem dX0_init_55 : decode cX0_init 55 = .ok (.aload_n 0, 1) := by decide +kernel
theorem dX0_init_56 : decode cX0_init 56 = .ok (.iconst 4, 1) := by decide +kernel
theorem dX0_init_57 : decode cX0_init 57 = .ok (.newarray .int, 2) := by decide +kernel
theorem dX0_init_59 : decode cX0_init 59 = .ok (.putfield 35, 3) := by decide +kernel
theorem dX0_init_62 : decode cX0_init 62 = .ok (.aload_n 0, 1) := by decide +kernel
theorem dX0_init_63 : decode cX0_init 63 = .ok (.bipush 120, 2) := by decide +kernel
theorem dX0_init_65 : decode cX0_init 65 = .ok (.newarray .int, 2) := by decide +kernel
theorem dX0_init_67 : decode cX0_init 67 = .ok (.putfield 38, 3) := by decide +kernel
theorem dX0_init_70 : decode cX0_init 70 = .ok (.aload_n 0, 1) := by decide +kernel
theorem dX0_init_71 : decode cX0_init 71 = .ok (.aload_n 1, 1) := by decide +kernel
theorem dX0_init_72 : decode cX0_init 72 = .ok (.putfield 41, 3) := by decide +kernel
theorem dX0_init_75 : decode cX0_init 75 = .ok (.aload_n 0, 1) := by decide +kernel
theorem dX0_init_76 : decode cX0_init 76 = .ok (.aload_n 2, 1) := by decide +kernel
theorem dX0_init_77 : decode cX0_init 77 = .ok (.putfield 45, 3) := by decide +kernel
theorem dX0_init_80 : decode cX0_init 80 = .ok (.aload_n 0, 1) := by decide +kernel
theorem dX0_init_81 : decode cX0_init 81 = .ok (.aload_n 3, 1) := by decide +kernel
theorem dX0_init_82 : decode cX0_init 82 = .ok (.putfield 49, 3) := by decide +kernel
theorem dX0_init_85 : decode cX0_init 85 = .ok (.aload_n 0, 1) := by decide +kernel
theorem dX0_init_86 : decode cX0_init 86 = .ok (.aload 4, 2) := by decide +kernel
theorem dX0_init_88 : decode cX0_init 88 = .ok (.putfield 53, 3) := by decide +kernel
theorem dX0_init_91 : decode cX0_init 91 = .ok (.return_, 1) := by decide +kernel
set_option maxRecDepth 20000 in
theorem T_X0_init {Q : Option Value → ah_T → Prop} {h : ah_T} (t : Nat) (a1 : Nat) (a2 : Nat) (a3 : Nat) (a4 : Nat) (hk_t : ah_k h t = 0) (ht : (∀ w1, w1 = ah_x h → (∀ h3, h3 = ah_nw h 14 120 → (¬ t = ah_x h) ∧ (∀ h10, h10 = ah_sr h3 t 0 (some w1) → (∀ w14, w14 = ah_x h10 → (∀ h16, h16 = ah_nw h10 14 120 → (¬ t = ah_x h10) ∧ (∀ h23, h23 = ah_sr h16 t 1 (some w14) → (∀ w27, w27 = ah_x h23 → (∀ h29, h29 = ah_nw h23 14 1200 → (¬ t = ah_x h23) ∧ (∀ h36, h36 = ah_sr h29 t 2 (some w27) → (∀ h40, h40 = ah_si h36 t 3 (-1) → (∀ w44, w44 = ah_x h40 → (∀ h46, h46 = ah_nw h40 14 120 → (¬ t = ah_x h40) ∧ (∀ h53, h53 = ah_sr h46 t 4 (some w44) → (∀ h57, h57 = ah_si h53 t 9 0 → (∀ w61, w61 = ah_x h57 → (∀ h63, h63 = ah_nw h57 14 120 → (¬ t = ah_x h57) ∧ (∀ h70, h70 = ah_sr h63 t 10 (some w61) → (∀ w74, w74 = ah_x h70 → (∀ h76, h76 = ah_nw h70 14 4 → (¬ t = ah_x h70) ∧ (∀ h83, h83 = ah_sr h76 t 11 (some w74) → (∀ w87, w87 = ah_x h83 → (∀ h89, h89 = ah_nw h83 14 120 → (¬ t = ah_x h83) ∧ (∀ h96, h96 = ah_sr h89 t 12 (some w87) → (∀ h100, h100 = ah_sr h96 t 5 (some a1) → (∀ h104, h104 = ah_sr h100 t 6 (some a2) → (∀ h108, h108 = ah_sr h104 t 7 (some a3) → (∀ h112, h112 = ah_sr h108 t 8 (some a4) → Q none h112)))))))))))))))))))))))))))) : Mt nX0_init [.ref t, .ref a1, .ref a2, .ref a3, .ref a4] h Q := by
  refine Mt.ofWp rfl (by exact (Nat.le_of_ble_eq_true rfl)) (Wp.fewer (L' := [some (.ref t), some (.ref a1), some (.ref a2), some (.ref a3), some (.ref a4)]) (show ab_leL _ _ from ⟨rfl, ⟨rfl, ⟨rfl, ⟨rfl, ⟨rfl, trivial⟩⟩⟩⟩⟩) ?_)
  refine ab_aload_n (i := 0) dX0_init_0 rfl rfl ?_
  refine ab_obj (tb_2 (List.mem_of_getElem? (i := 122) (by decide +kernel)) rfl) in_obj co_obj (Nat.le_of_ble_eq_true rfl) (Nat.le_of_ble_eq_true rfl) dX0_init_1 ?_
  refine ab_aload_n (i := 0) dX0_init_4 rfl rfl ?_
  refine ab_bipush (v := 120) dX0_init_5 (by decide) ?_
  refine ab_newa (N := 120) 14 1 .int (by decide) rfl wa_int (by decide) (by decide) (by decide) (Nat.le_of_ble_eq_true rfl) (Nat.le_of_ble_eq_true rfl) dX0_init_7 ?_
  obtain ⟨w1, ew2⟩ : ∃ z, z = ah_x h := ⟨_, rfl⟩
  rw [← ew2]
  have ht := ht w1 ew2
  refine Wp.nm fun h3 e4 => ?_
  have ht := ht h3 e4
  have hc7 := ht.1
  have ht := ht.2
  have hk6 : ah_k h3 t = 0 := by rw [e4, ah_k_nw, if_neg hc7]; exact hk_t
  have hk8 : ah_k h3 w1 = 14 := by rw [e4, ew2, ah_k_nw, if_pos rfl]
  have hn9 : ah_n h3 w1 = 120 := by rw [e4, ew2, ah_n_nw, if_pos rfl]
  refine ab_putR (r := (some w1)) f_X0_9 (Or.inr ⟨rfl, rfl, rfl⟩) rfl hk6 (fun x => by cases x <;> rfl) (fun x => by cases x <;> rfl) dX0_init_9 ?_
  refine Wp.nm fun h10 e11 => ?_
  have ht := ht h10 e11
  have hk13 : ah_k h10 t = 0 := by rw [e11]; exact hk6
  refine ab_aload_n (i := 0) dX0_init_12 rfl rfl ?_
  refine ab_bipush (v := 120) dX0_init_13 (by decide) ?_
  refine ab_newa (N := 120) 14 1 .int (by decide) rfl wa_int (by decide) (by decide) (by decide) (Nat.le_of_ble_eq_true rfl) (Nat.le_of_ble_eq_true rfl) dX0_init_15 ?_
  obtain ⟨w14, ew15⟩ : ∃ z, z = ah_x h10 := ⟨_, rfl⟩
  rw [← ew15]
  have ht := ht w14 ew15
  refine Wp.nm fun h16 e17 => ?_
  have ht := ht h16 e17
  have hc20 := ht.1
  have ht := ht.2
  have hk19 : ah_k h16 t = 0 := by rw [e17, ah_k_nw, if_neg hc20]; exact hk13
  have hk21 : ah_k h16 w14 = 14 := by rw [e17, ew15, ah_k_nw, if_pos rfl]
  have hn22 : ah_n h16 w14 = 120 := by rw [e17, ew15, ah_n_nw, if_pos rfl]
  refine ab_putR (r := (some w14)) f_X0_15 (Or.inr ⟨rfl, rfl, rfl⟩) rfl hk19 (fun x => by cases x <;> rfl) (fun x => by cases x <;> rfl) dX0_init_17 ?_
  refine Wp.nm fun h23 e24 => ?_
  have ht := ht h23 e24
  have hk26 : ah_k h23 t = 0 := by rw [e24]; exact hk19
  refine ab_aload_n (i := 0) dX0_init_20 rfl rfl ?_
  refine ab_sipush (v := 1200) dX0_init_21 (by decide) ?_
  refine ab_newa (N := 1200) 14 1 .int (by decide) rfl wa_int (by decide) (by decide) (by decide) (Nat.le_of_ble_eq_true rfl) (Nat.le_of_ble_eq_true rfl) dX0_init_24 ?_
  obtain ⟨w27, ew28⟩ : ∃ z, z = ah_x h23 := ⟨_, rfl⟩
  rw [← ew28]
  have ht := ht w27 ew28
  refine Wp.nm fun h29 e30 => ?_
  have ht := ht h29 e30
  have hc33 := ht.1
  have ht := ht.2
  have hk32 : ah_k h29 t = 0 := by rw [e30, ah_k_nw, if_neg hc33]; exact hk26
  have hk34 : ah_k h29 w27 = 14 := by rw [e30, ew28, ah_k_nw, if_pos rfl]
  have hn35 : ah_n h29 w27 = 1200 := by rw [e30, ew28, ah_n_nw, if_pos rfl]
  refine ab_putR (r := (some w27)) f_X0_18 (Or.inr ⟨rfl, rfl, rfl⟩) rfl hk32 (fun x => by cases x <;> rfl) (fun x => by cases x <;> rfl) dX0_init_26 ?_
  refine Wp.nm fun h36 e37 => ?_
  have ht := ht h36 e37
  have hk39 : ah_k h36 t = 0 := by rw [e37]; exact hk32
  refine ab_aload_n (i := 0) dX0_init_29 rfl rfl ?_
  refine ab_iconst (v := (-1)) dX0_init_30 (by decide) ?_
  refine ab_putI f_X0_21 (Or.inl rfl) rfl hk39 rfl rfl dX0_init_31 ?_
  refine Wp.nm fun h40 e41 => ?_
  have ht := ht h40 e41
  have hk43 : ah_k h40 t = 0 := by rw [e41]; exact hk39
  refine ab_aload_n (i := 0) dX0_init_34 rfl rfl ?_
  refine ab_bipush (v := 120) dX0_init_35 (by decide) ?_
  refine ab_newa (N := 120) 14 1 .int (by decide) rfl wa_int (by decide) (by decide) (by decide) (Nat.le_of_ble_eq_true rfl) (Nat.le_of_ble_eq_true rfl) dX0_init_37 ?_
  obtain ⟨w44, ew45⟩ : ∃ z, z = ah_x h40 := ⟨_, rfl⟩
  rw [← ew45]
  have ht := ht w44 ew45
  refine Wp.nm fun h46 e47 => ?_
  have ht := ht h46 e47
  have hc50 := ht.1
  have ht := ht.2
  have hk49 : ah_k h46 t = 0 := by rw [e47, ah_k_nw, if_neg hc50]; exact hk43
  have hk51 : ah_k h46 w44 = 14 := by rw [e47, ew45, ah_k_nw, if_pos rfl]
  have hn52 : ah_n h46 w44 = 120 := by rw [e47, ew45, ah_n_nw, if_pos rfl]
  refine ab_putR (r := (some w44)) f_X0_25 (Or.inr ⟨rfl, rfl, rfl⟩) rfl hk49 (fun x => by cases x <;> rfl) (fun x => by cases x <;> rfl) dX0_init_39 ?_
  refine Wp.nm fun h53 e54 => ?_
  have ht := ht h53 e54
  have hk56 : ah_k h53 t = 0 := by rw [e54]; exact hk49
  refine ab_aload_n (i := 0) dX0_init_42 rfl rfl ?_
  refine ab_iconst (v := 0) dX0_init_43 (by decide) ?_
  refine ab_putI f_X0_28 (Or.inl rfl) rfl hk56 rfl rfl dX0_init_44 ?_
  refine Wp.nm fun h57 e58 => ?_
  have ht := ht h57 e58
  have hk60 : ah_k h57 t = 0 := by rw [e58]; exact hk56
  refine ab_aload_n (i := 0) dX0_init_47 rfl rfl ?_
  refine ab_bipush (v := 120) dX0_init_48 (by decide) ?_
  refine ab_newa (N := 120) 14 1 .int (by decide) rfl wa_int (by decide) (by decide) (by decide) (Nat.le_of_ble_eq_true rfl) (Nat.le_of_ble_eq_true rfl) dX0_init_50 ?_
  obtain ⟨w61, ew62⟩ : ∃ z, z = ah_x h57 := ⟨_, rfl⟩
  rw [← ew62]
  have ht := ht w61 ew62
  refine Wp.nm fun h63 e64 => ?_
  have ht := ht h63 e64
  have hc67 := ht.1
  have ht := ht.2
  have hk66 : ah_k h63 t = 0 := by rw [e64, ah_k_nw, if_neg hc67]; exact hk60
  have hk68 : ah_k h63 w61 = 14 := by rw [e64, ew62, ah_k_nw, if_pos rfl]
  have hn69 : ah_n h63 w61 = 120 := by rw [e64, ew62, ah_n_nw, if_pos rfl]
  refine ab_putR (r := (some w61)) f_X0_32 (Or.inr ⟨rfl, rfl, rfl⟩) rfl hk66 (fun x => by cases x <;> rfl) (fun x => by cases x <;> rfl) dX0_init_52 ?_
  refine Wp.nm fun h70 e71 => ?_
  have ht := ht h70 e71
  have hk73 : ah_k h70 t = 0 := by rw [e71]; exact hk66
  refine ab_aload_n (i := 0) dX0_init_55 rfl rfl ?_
  refine ab_iconst (v := 4) dX0_init_56 (by decide) ?_
  refine ab_newa (N := 4) 14 1 .int (by decide) rfl wa_int (by decide) (by decide) (by decide) (Nat.le_of_ble_eq_true rfl) (Nat.le_of_ble_eq_true rfl) dX0_init_57 ?_
  obtain ⟨w74, ew75⟩ : ∃ z, z = ah_x h70 := ⟨_, rfl⟩
  rw [← ew75]
  have ht := ht w74 ew75
  refine Wp.nm fun h76 e77 => ?_
  have ht := ht h76 e77
  have hc80 := ht.1
  have ht := ht.2
  have hk79 : ah_k h76 t = 0 := by rw [e77, ah_k_nw, if_neg hc80]; exact hk73
  have hk81 : ah_k h76 w74 = 14 := by rw [e77, ew75, ah_k_nw, if_pos rfl]
  have hn82 : ah_n h76 w74 = 4 := by rw [e77, ew75, ah_n_nw, if_pos rfl]
  refine ab_putR (r := (some w74)) f_X0_35 (Or.inr ⟨rfl, rfl, rfl⟩) rfl hk79 (fun x => by cases x <;> rfl) (fun x => by cases x <;> rfl) dX0_init_59 ?_
  refine Wp.nm fun h83 e84 => ?_
  have ht := ht h83 e84
  have hk86 : ah_k h83 t = 0 := by rw [e84]; exact hk79
  refine ab_aload_n (i := 0) dX0_init_62 rfl rfl ?_
  refine ab_bipush (v := 120) dX0_init_63 (by decide) ?_
  refine ab_newa (N := 120) 14 1 .int (by decide) rfl wa_int (by decide) (by decide) (by decide) (Nat.le_of_ble_eq_true rfl) (Nat.le_of_ble_eq_true rfl) dX0_init_65 ?_
  obtain ⟨w87, ew88⟩ : ∃ z, z = ah_x h83 := ⟨_, rfl⟩
  rw [← ew88]
  have ht := ht w87 ew88
  refine Wp.nm fun h89 e90 => ?_
  have ht := ht h89 e90
  have hc93 := ht.1
  have ht := ht.2
  have hk92 : ah_k h89 t = 0 := by rw [e90, ah_k_nw, if_neg hc93]; exact hk86
  have hk94 : ah_k h89 w87 = 14 := by rw [e90, ew88, ah_k_nw, if_pos rfl]
  have hn95 : ah_n h89 w87 = 120 := by rw [e90, ew88, ah_n_nw, if_pos rfl]
  refine ab_putR (r := (some w87)) f_X0_38 (Or.inr ⟨rfl, rfl, rfl⟩) rfl hk92 (fun x => by cases x <;> rfl) (fun x => by cases x <;> rfl) dX0_init_67 ?_
  refine Wp.nm fun h96 e97 => ?_
  have ht := ht h96 e97
  have hk99 : ah_k h96 t = 0 := by rw [e97]; exact hk92
  refine ab_aload_n (i := 0) dX0_init_70 rfl rfl ?_
  refine ab_aload_n (i := 1) dX0_init_71 rfl rfl ?_
  refine ab_putR (r := (some a1)) f_X0_41 (Or.inr ⟨rfl, rfl, rfl⟩) rfl hk99 (fun x => by cases x <;> rfl) (fun x => by cases x <;> rfl) dX0_init_72 ?_
  refine Wp.nm fun h100 e101 => ?_
  have ht := ht h100 e101
  have hk103 : ah_k h100 t = 0 := by rw [e101]; exact hk99
  refine ab_aload_n (i := 0) dX0_init_75 rfl rfl ?_
  refine ab_aload_n (i := 2) dX0_init_76 rfl rfl ?_
  refine ab_putR (r := (some a2)) f_X0_45 (Or.inr ⟨rfl, rfl, rfl⟩) rfl hk103 (fun x => by cases x <;> rfl) (fun x => by cases x <;> rfl) dX0_init_77 ?_
  refine Wp.nm fun h104 e105 => ?_
  have ht := ht h104 e105
  have hk107 : ah_k h104 t = 0 := by rw [e105]; exact hk103
  refine ab_aload_n (i := 0) dX0_init_80 rfl rfl ?_
  refine ab_aload_n (i := 3) dX0_init_81 rfl rfl ?_
  refine ab_putR (r := (some a3)) f_X0_49 (Or.inr ⟨rfl, rfl, rfl⟩) rfl hk107 (fun x => by cases x <;> rfl) (fun x => by cases x <;> rfl) dX0_init_82 ?_
  refine Wp.nm fun h108 e109 => ?_
  have ht := ht h108 e109
  have hk111 : ah_k h108 t = 0 := by rw [e109]; exact hk107
  refine ab_aload_n (i := 0) dX0_init_85 rfl rfl ?_
  refine ab_aload (i := 4) dX0_init_86 rfl ?_
  refine ab_putR (r := (some a4)) f_X0_53 (Or.inr ⟨rfl, rfl, rfl⟩) rfl hk111 (fun x => by cases x <;> rfl) (fun x => by cases x <;> rfl) dX0_init_88 ?_
  refine Wp.nm fun h112 e113 => ?_
  have ht := ht h112 e113
  have hk115 : ah_k h112 t = 0 := by rw [e113]; exact hk111
  exact ab_vret rfl dX0_init_91 (Nat.le_of_ble_eq_true rfl) (by first | exact (Nat.le_of_ble_eq_true rfl) | assumption) ht
theorem dX1_init_0 : decode cX1_init 0 = .ok (.aload_n 0, 1) := by decide +kernel
theorem dX1_init_1 : decode cX1_init 1 = .ok (.invokespecial 3, 3) := by decide +kernel
theorem dX1_init_4 : decode cX1_init 4 = .ok (.aload_n 0, 1) := by decide +kernel
theorem dX1_init_5 : decode cX1_init 5 = .ok (.new 9, 3) := by decide +kernel
theorem dX1_init_8 : decode cX1_init 8 = .ok (.dup, 1) := by decide +kernel
theorem dX1_init_9 : decode cX1_init 9 = .ok (.bipush 72, 2) := by decide +kernel
theorem dX1_init_11 : decode cX1_init 11 = .ok (.iconst 1, 1) := by decide +kernel
theorem dX1_init_12 : decode cX1_init 12 = .ok (.invokespecial 11, 3) := by decide +kernel
theorem dX1_init_15 : decode cX1_init 15 = .ok (.putfield 14, 3) := by decide +kernel
theorem dX1_init_18 : decode cX1_init 18 = .ok (.aload_n 0, 1) := by decide +kernel
theorem dX1_init_19 : decode cX1_init 19 = .ok (.new 9, 3) := by decide +kernel
theorem dX1_init_22 : decode cX1_init 22 = .ok (.dup, 1) := by decide +kernel
theorem dX1_init_23 : decode cX1_init 23 = .ok (.bipush 60, 2) := by decide +kernel
theorem dX1_init_25 : decode cX1_init 25 = .ok (.iconst 1, 1) := by decide +kernel
theorem dX1_init_26 : decode cX1_init 26 = .ok (.invokespecial 11, 3) := by decide +kernel
theorem dX1_init_29 : decode cX1_init 29 = .ok (.putfield 20, 3) := by decide +kernel
theorem dX1_init_32 : decode cX1_init 32 = .ok (.aload_n 0, 1) := by decide +kernel
theorem dX1_init_33 : decode cX1_init 33 = .ok (.bipush 10, 2) := by decide +kernel
theorem dX1_init_35 : decode cX1_init 35 = .ok (.newarray .int, 2) := by decide +kernel
theorem dX1_init_37 : decode cX1_init 37 = .ok (.putfield 23, 3) := by decide +kernel
theorem dX1_init_40 : decode cX1_init 40 = .ok (.aload_n 0, 1) := by decide +kernel
theorem dX1_init_41 : decode cX1_init 41 = .ok (.bipush 10, 2) := by decide +kernel
theorem dX1_init_43 : decode cX1_init 43 = .ok (.newarray .int, 2) := by decide +kernel
theorem dX1_init_45 : decode cX1_init 45 = .ok (.putfield 27, 3) := by decide +kernel
theorem dX1_init_48 : decode cX1_init 48 = .ok (.aload_n 0, 1) := by decide +kernel
theorem dX1_init_49 : decode cX1_init 49 = .ok (.iconst (-1), 1) := by decide +kernel
theorem dX1_init_50 : decode cX1_init 50 = .ok (.putfield 30, 3) := by decide +kernel
theorem dX1_init_53 : decode cX1_init 53 = .ok (.aload_n 0, 1) := by decide +kernel
theorem dX1_init_54 : decode cX1_init 54 = .ok (.iconst 3, 1) := by decide +kernel
theorem dX1_init_55 : decode cX1_init 55 = .ok (.newarray .int, 2) := by decide +kernel
theorem dX1_init_57 : decode cX1_init 57 = .ok (.putfield 34, 3) := by decide +kernel
theorem dX1_init_60 : decode cX1_init 60 = .ok (.aload_n 0, 1) := by decide +kernel
theorem dX1_init_61 : decode cX1_init 61 = .ok (.iconst 0, 1) := by decide +kernel
theorem dX1_init_62 : decode cX1_init 62 = .ok (.putfield 37, 3) := by decide +kernel
theorem dX1_init_65 : decode cX1_init 65 = .ok (.aload_n 0, 1) := by decide +kernel
theorem dX1_init_66 : decode cX1_init 66 = .ok (.iconst 0, 1) := by decide +kernel
theorem dX1_init_67 : decode cX1_init 67 = .ok (.putfield 41, 3) := by decide +kernel
theorem dX1_init_70 : decode cX1_init 70 = .ok (.aload_n 0, 1) := by decide +kernel
theorem dX1_init_71 : decode cX1_init 71 = .ok (.iconst 0, 1) := by decide +kernel
theorem dX1_init_72 : decode cX1_init 72 = .ok (.putfield 44, 3) := by decide +kernel
theorem dX1_init_75 : decode cX1_init 75 = .ok (.aload_n 0, 1) := by decide +kernel
theorem dX1_init_76 : decode cX1_init 76 = .ok (.iconst 0, 1) := by decide +kernel
theorem dX1_init_77 : decode cX1_init 77 = .ok (.putfield 47, 3) := by decide +kernel
theorem dX1_init_80 : decode cX1_init 80 = .ok (.aload_n 0, 1) := by decide +kernel
theorem dX1_init_81 : decode cX1_init 81 = .ok (.iconst 4, 1) := by decide +kernel
theorem dX1_init_82 : decode cX1_init 82 = .ok (.newarray .int, 2) := by decide +kernel
theorem dX1_init_84 : decode cX1_init 84 = .ok (.putfield 50, 3) := by decide +kernel
theorem dX1_init_87 : decode cX1_init 87 = .ok (.aload_n 0, 1) := by decide +kernel
theorem dX1_init_88 : decode cX1_init 88 = .ok (.bipush 120, 2) := by decide +kernel
theorem dX1_init_90 : decode cX1_init 90 = .ok (.newarray .int, 2) := by decide +kernel
theorem dX1_init_92 : decode cX1_init 92 = .ok (.putfield 53, 3) := by decide +kernel
theorem dX1_init_95 : decode cX1_init 95 = .ok (.aload_n 0, 1) := by decide +kernel
theorem dX1_init_96 : decode cX1_init 96 = .ok (.bipush 120, 2) := by decide +kernel
theorem dX1_init_98 : decode cX1_init 98 = .ok (.newarray .int, 2) := by decide +kernel
theorem dX1_init_100 : decode cX1_init 100 = .ok (.putfield 56, 3) := by decide +kernel
theorem dX1_init_103 : decode cX1_init 103 = .ok (.aload_n 0, 1) := by decide +kernel
theorem dX1_init_104 : decode cX1_init 104 = .ok (.bipush 120, 2) := by decide +kernel
theorem dX1_init_106 : decode cX1_init 106 = .ok (.newarray .int, 2) := by decide +kernel
theorem dX1_init_108 : decode cX1_init 108 = .ok (.putfield 59, 3) := by decide +kernel
theorem dX1_init_111 : decode cX1_init 111 = .ok (.aload_n 0, 1) := by decide +kernel
theorem dX1_init_112 : decode cX1_init 112 = .ok (.iconst (-1), 1) := by decide +kernel
theorem dX1_init_113 : decode cX1_init 113 = .ok (.putfield 62, 3) := by decide +kernel
theorem dX1_init_116 : decode cX1_init 116 = .ok (.aload_n 0, 1) := by decide +kernel
theorem dX1_init_117 : decode cX1_init 117 = .ok (.aload_n 1, 1) := by decide +kernel
theorem dX1_init_118 : decode cX1_init 118 = .ok (.putfield 65, 3) := by decide +kernel
theorem dX1_init_121 : decode cX1_init 121 = .ok (.aload_n 0, 1) := by decide +kernel
theorem dX1_init_122 : decode cX1_init 122 = .ok (.aload_n 2, 1) := by decide +kernel
theorem dX1_init_123 : decode cX1_init 123 = .ok (.putfield 69, 3) := by decide +kernel
theorem dX1_init_126 : decode cX1_init 126 = .ok (.aload_n 0, 1) := by decide +kernel
theorem dX1_init_127 : decode cX1_init 127 = .ok (.aload_n 3, 1) := by decide +kernel
theorem dX1_init_128 : decode cX1_init 128 = .ok (.putfield 73, 3) := by decide +kernel
theorem dX1_init_131 : decode cX1_init 131 = .ok (.return_, 1) := by decide +kernel
set_option maxRecDepth 20000 in
theorem T_X1_init {Q : Option Value → ah_T → Prop} {h : ah_T} (t : Nat) (a1 : Nat) (a2 : Nat) (a3 : Nat) (hk_t : ah_k h t = 1) (ht : (∀ w1, w1 = ah_x h → (∀ h3, h3 = ah_nw h 7 0 → (¬ t = ah_x h) ∧ (Mt nX7_init [.ref w1, .int 72, .int 1] h3 (ab_qv fun h9 => ah_k h9 t = 1 ∧ ah_k h9 w1 = 7 ∧ (∀ h14, h14 = ah_sr h9 t 0 (some w1) → (∀ w18, w18 = ah_x h14 → (∀ h20, h20 = ah_nw h14 7 0 → (¬ t = ah_x h14) ∧ (Mt nX7_init [.ref w18, .int 60, .int 1] h20 (ab_qv fun h26 => ah_k h26 t = 1 ∧ ah_k h26 w18 = 7 ∧ (∀ h31, h31 = ah_sr h26 t 1 (some w18) → (∀ w35, w35 = ah_x h31 → (∀ h37, h37 = ah_nw h31 14 10 → (¬ t = ah_x h31) ∧ (∀ h44, h44 = ah_sr h37 t 2 (some w35) → (∀ w48, w48 = ah_x h44 → (∀ h50, h50 = ah_nw h44 14 10 → (¬ t = ah_x h44) ∧ (∀ h57, h57 = ah_sr h50 t 3 (some w48) → (∀ h61, h61 = ah_si h57 t 4 (-1) → (∀ w65, w65 = ah_x h61 → (∀ h67, h67 = ah_nw h61 14 3 → (¬ t = ah_x h61) ∧ (∀ h74, h74 = ah_sr h67 t 5 (some w65) → (∀ h78, h78 = ah_si h74 t 9 0 → (∀ h82, h82 = ah_si h78 t 10 0 → (∀ h86, h86 = ah_si h82 t 11 0 → (∀ h90, h90 = ah_si h86 t 12 0 → (∀ w94, w94 = ah_x h90 → (∀ h96, h96 = ah_nw h90 14 4 → (¬ t = ah_x h90) ∧ (∀ h103, h103 = ah_sr h96 t 13 (some w94) → (∀ w107, w107 = ah_x h103 → (∀ h109, h109 = ah_nw h103 14 120 → (¬ t = ah_x h103) ∧ (∀ h116, h116 = ah_sr h109 t 14 (some w107) → (∀ w120, w120 = ah_x h116 → (∀ h122, h122 = ah_nw h116 14 120 → (¬ t = ah_x h116) ∧ (∀ h129, h129 = ah_sr h122 t 15 (some w120) → (∀ w133, w133 = ah_x h129 → (∀ h135, h135 = ah_nw h129 14 120 → (¬ t = ah_x h129) ∧ (∀ h142, h142 = ah_sr h135 t 16 (some w133) → (∀ h146, h146 = ah_si h142 t 17 (-1) → (∀ h150, h150 = ah_sr h146 t 6 (some a1) → (∀ h154, h154 = ah_sr h150 t 7 (some a2) → (∀ h158, h158 = ah_sr h154 t 8 (some a3) → Q none h158))))))))))))))))))))))))))))))))))))))))) : Mt nX1_init [.ref t, .ref a1, .ref a2, .ref a3] h Q := by
  refine Mt.ofWp rfl (by exact (Nat.le_of_ble_eq_true rfl)) (Wp.fewer (L' := [some (.ref t), some (.ref a1), some (.ref a2), some (.ref a3)]) (show ab_leL _ _ from ⟨rfl, ⟨rfl, ⟨rfl, ⟨rfl, trivial⟩⟩⟩⟩) ?_)
  refine ab_aload_n (i := 0) dX1_init_0 rfl rfl ?_
  refine ab_obj (tb_2 (List.mem_of_getElem? (i := 173) (by decide +kernel)) rfl) in_obj co_obj (Nat.le_of_ble_eq_true rfl) (Nat.le_of_ble_eq_true rfl) dX1_init_1 ?_
  refine ab_aload_n (i := 0) dX1_init_4 rfl rfl ?_
  refine ab_new k_X1_9 (Nat.le_of_ble_eq_true rfl) (Nat.le_of_ble_eq_true rfl) dX1_init_5 ?_
  obtain ⟨w1, ew2⟩ : ∃ z, z = ah_x h := ⟨_, rfl⟩
  rw [← ew2]
  have ht := ht w1 ew2
  refine Wp.nm fun h3 e4 => ?_
  have ht := ht h3 e4
  have hc7 := ht.1
  have ht := ht.2
  have hk6 : ah_k h3 t = 1 := by rw [e4, ah_k_nw, if_neg hc7]; exact hk_t
  have hk8 : ah_k h3 w1 = 7 := by rw [e4, ew2, ah_k_nw, if_pos rfl]
  refine ab_dup dX1_init_8 rfl ?_
  refine ab_bipush (v := 72) dX1_init_9 (by decide) ?_
  refine ab_iconst (v := 1) dX1_init_11 (by decide) ?_
  refine ab_callI (b := w1) (As := [.int 72, .int 1]) ht (Y_X7_init) rfl rfl l_X1_11 in_X7_init rfl ⟨(Nat.le_of_ble_eq_true rfl), (Nat.le_of_ble_eq_true rfl), (Nat.le_of_ble_eq_true rfl), (Nat.le_of_ble_eq_true rfl)⟩ dX1_init_12 ?_
  rintro _ h9 ⟨rfl, hk12, hk13, ht⟩
  refine ab_putR (r := (some w1)) f_X1_14 (Or.inr ⟨rfl, rfl, rfl⟩) rfl hk12 (fun x => by cases x <;> rfl) (fun x => by cases x <;> rfl) dX1_init_15 ?_
  refine Wp.nm fun h14 e15 => ?_
  have ht := ht h14 e15
  have hk17 : ah_k h14 t = 1 := by rw [e15]; exact hk12
  refine ab_aload_n (i := 0) dX1_init_18 rfl rfl ?_
  refine ab_new k_X1_9 (Nat.le_of_ble_eq_true rfl) (Nat.le_of_ble_eq_true rfl) dX1_init_19 ?_
  obtain ⟨w18, ew19⟩ : ∃ z, z = ah_x h14 := ⟨_, rfl⟩
  rw [← ew19]
  have ht := ht w18 ew19
  refine Wp.nm fun h20 e21 => ?_
  have ht := ht h20 e21
  have hc24 := ht.1
  have ht := ht.2
  have hk23 : ah_k h20 t = 1 := by rw [e21, ah_k_nw, if_neg hc24]; exact hk17
  have hk25 : ah_k h20 w18 = 7 := by rw [e21, ew19, ah_k_nw, if_pos rfl]
  refine ab_dup dX1_init_22 rfl ?_
  refine ab_bipush (v := 60) dX1_init_23 (by decide) ?_
  refine ab_iconst (v := 1) dX1_init_25 (by decide) ?_
  refine ab_callI (b := w18) (As := [.int 60, .int 1]) ht (Y_X7_init) rfl rfl l_X1_11 in_X7_init rfl ⟨(Nat.le_of_ble_eq_true rfl), (Nat.le_of_ble_eq_true rfl), (Nat.le_of_ble_eq_true rfl), (Nat.le_of_ble_eq_true rfl)⟩ dX1_init_26 ?_
  rintro _ h26 ⟨rfl, hk29, hk30, ht⟩
  refine ab_putR (r := (some w18)) f_X1_20 (Or.inr ⟨rfl, rfl, rfl⟩) rfl hk29 (fun x => by cases x <;> rfl) (fun x => by cases x <;> rfl) dX1_init_29 ?_
  refine Wp.nm fun h31 e32 => ?_
  have ht := ht h31 e32
  have hk34 : ah_k h31 t = 1 := by rw [e32]; exact hk29
  refine ab_aload_n (i := 0) dX1_init_32 rfl rfl ?_
  refine ab_bipush (v := 10) dX1_init_33 (by decide) ?_
  refine ab_newa (N := 10) 14 1 .int (by decide) rfl wa_int (by decide) (by decide) (by decide) (Nat.le_of_ble_eq_true rfl) (Nat.le_of_ble_eq_true rfl) dX1_init_35 ?_
  obtain ⟨w35, ew36⟩ : ∃ z, z = ah_x h31 := ⟨_, rfl⟩
  rw [← ew36]
  have ht := ht w35 ew36
  refine Wp.nm fun h37 e38 => ?_
  have ht := ht h37 e38
  have hc41 := ht.1
  have ht := ht.2
  have hk40 : ah_k h37 t = 1 := by rw [e38, ah_k_nw, if_neg hc41]; exact hk34
  have hk42 : ah_k h37 w35 = 14 := by rw [e38, ew36, ah_k_nw, if_pos rfl]
  have hn43 : ah_n h37 w35 = 10 := by rw [e38, ew36, ah_n_nw, if_pos rfl]
  refine ab_putR (r := (some w35)) f_X1_23 (Or.inr ⟨rfl, rfl, rfl⟩) rfl hk40 (fun x => by cases x <;> rfl) (fun x => by cases x <;> rfl) dX1_init_37 ?_
  refine Wp.nm fun h44 e45 => ?_
  have ht := ht h44 e45
  have hk47 : ah_k h44 t = 1 := by rw [e45]; exact hk40
  refine ab_aload_n (i := 0) dX1_init_40 rfl rfl ?_
  refine ab_bipush (v := 10) dX1_init_41 (by decide) ?_
  refine ab_newa (N := 10) 14 1 .int (by decide) rfl wa_int (by decide) (by decide) (by decide) (Nat.le_of_ble_eq_true rfl) (Nat.le_of_ble_eq_true rfl) dX1_init_43 ?_
  obtain ⟨w48, ew49⟩ : ∃ z, z = ah_x h44 := ⟨_, rfl⟩
  rw [← ew49]
  have ht := ht w48 ew49
  refine Wp.nm fun h50 e51 => ?_
  have ht := ht h50 e51
  have hc54 := ht.1
  have ht := ht.2
  have hk53 : ah_k h50 t = 1 := by rw [e51, ah_k_nw, if_neg hc54]; exact hk47
  have hk55 : ah_k h50 w48 = 14 := by rw [e51, ew49, ah_k_nw, if_pos rfl]
  have hn56 : ah_n h50 w48 = 10 := by rw [e51, ew49, ah_n_nw, if_pos rfl]
  refine ab_putR (r := (some w48)) f_X1_27 (Or.inr ⟨rfl, rfl, rfl⟩) rfl hk53 (fun x => by cases x <;> rfl) (fun x => by cases x <;> rfl) dX1_init_45 ?_
  refine Wp.nm fun h57 e58 => ?_
  have ht := ht h57 e58
  have hk60 : ah_k h57 t = 1 := by rw [e58]; exact hk53
  refine ab_aload_n (i := 0) dX1_init_48 rfl rfl ?_
  refine ab_iconst (v := (-1)) dX1_init_49 (by decide) ?_
  refine ab_putI f_X1_30 (Or.inl rfl) rfl hk60 rfl rfl dX1_init_50 ?_
  refine Wp.nm fun h61 e62 => ?_
  have ht := ht h61 e62
  have hk64 : ah_k h61 t = 1 := by rw [e62]; exact hk60
  refine ab_aload_n (i := 0) dX1_init_53 rfl rfl ?_
  refine ab_iconst (v := 3) dX1_init_54 (by decide) ?_
  refine ab_newa (N := 3) 14 1 .int (by decide) rfl wa_int (by decide) (by decide) (by decide) (Nat.le_of_ble_eq_true rfl) (Nat.le_of_ble_eq_true rfl) dX1_init_55 ?_
  obtain ⟨w65, ew66⟩ : ∃ z, z = ah_x h61 := ⟨_, rfl⟩
  rw [← ew66]
  have ht := ht w65 ew66
  refine Wp.nm fun h67 e68 => ?_
  have ht := ht h67 e68
  have hc71 := ht.1
  have ht := ht.2
  have hk70 : ah_k h67 t = 1 := by rw [e68, ah_k_nw, if_neg hc71]; exact hk64
  have hk72 : ah_k h67 w65 = 14 := by rw [e68, ew66, ah_k_nw, if_pos rfl]
  have hn73 : ah_n h67 w65 = 3 := by rw [e68, ew66, ah_n_nw, if_pos rfl]
  refine ab_putR (r := (some w65)) f_X1_34 (Or.inr ⟨rfl, rfl, rfl⟩) rfl hk70 (fun x => by cases x <;> rfl) (fun x => by cases x <;> rfl) dX1_init_57 ?_
  refine Wp.nm fun h74 e75 => ?_
  have ht := ht h74 e75
  have hk77 : ah_k h74 t = 1 := by rw [e75]; exact hk70
  refine ab_aload_n (i := 0) dX1_init_60 rfl rfl ?_
  refine ab_iconst (v := 0) dX1_init_61 (by decide) ?_
  refine ab_putI f_X1_37 (Or.inl rfl) rfl hk77 rfl rfl dX1_init_62 ?_
  refine Wp.nm fun h78 e79 => ?_
  have ht := ht h78 e79
  have hk81 : ah_k h78 t = 1 := by rw [e79]; exact hk77
  refine ab_aload_n (i := 0) dX1_init_65 rfl rfl ?_
  refine ab_iconst (v := 0) dX1_init_66 (by decide) ?_
  refine ab_putI f_X1_41 (Or.inl rfl) rfl hk81 rfl rfl dX1_init_67 ?_
  refine Wp.nm fun h82 e83 => ?_
  have ht := ht h82 e83
  have hk85 : ah_k h82 t = 1 := by rw [e83]; exact hk81
  refine ab_aload_n (i := 0) dX1_init_70 rfl rfl ?_
  refine ab_iconst (v := 0) dX1_init_71 (by decide) ?_
  refine ab_putI f_X1_44 (Or.inl rfl) rfl hk85 rfl rfl dX1_init_72 ?_
  refine Wp.nm fun h86 e87 => ?_
  have ht := ht h86 e87
  have hk89 : ah_k h86 t = 1 := by rw [e87]; exact hk85
  refine ab_aload_n (i := 0) dX1_init_75 rfl rfl ?_
  refine ab_iconst (v := 0) dX1_init_76 (by decide) ?_
  refine ab_putI f_X1_47 (Or.inl rfl) rfl hk89 rfl rfl dX1_init_77 ?_
  refine Wp.nm fun h90 e91 => ?_
  have ht := ht h90 e91
  have hk93 : ah_k h90 t = 1 := by rw [e91]; exact hk89
  refine ab_aload_n (i := 0) dX1_init_80 rfl rfl ?_
  refine ab_iconst (v := 4) dX1_init_81 (by decide) ?_
  refine ab_newa (N := 4) 14 1 .int (by decide) rfl wa_int (by decide) (by decide) (by decide) (Nat.le_of_ble_eq_true rfl) (Nat.le_of_ble_eq_true rfl) dX1_init_82 ?_
  obtain ⟨w94, ew95⟩ : ∃ z, z = ah_x h90 := ⟨_, rfl⟩
  rw [← ew95]
  have ht := ht w94 ew95
  refine Wp.nm fun h96 e97 => ?_
  have ht := ht h96 e97
  have hc100 := ht.1
  have ht := ht.2
  have hk99 : ah_k h96 t = 1 := by rw [e97, ah_k_nw, if_neg hc100]; exact hk93
  have hk101 : ah_k h96 w94 = 14 := by rw [e97, ew95, ah_k_nw, if_pos rfl]
  have hn102 : ah_n h96 w94 = 4 := by rw [e97, ew95, ah_n_nw, if_pos rfl]
  refine ab_putR (r := (some w94)) f_X1_50 (Or.inr ⟨rfl, rfl, rfl⟩) rfl hk99 (fun x => by cases x <;> rfl) (fun x => by cases x <;> rfl) dX1_init_84 ?_
  refine Wp.nm fun h103 e104 => ?_
  have ht := ht h103 e104
  have hk106 : ah_k h103 t = 1 := by rw [e104]; exact hk99
  refine ab_aload_n (i := 0) dX1_init_87 rfl rfl ?_
  refine ab_bipush (v := 120) dX1_init_88 (by decide) ?_
  refine ab_newa (N := 120) 14 1 .int (by decide) rfl wa_int (by decide) (by decide) (by decide) (Nat.le_of_ble_eq_true rfl) (Nat.le_of_ble_eq_true rfl) dX1_init_90 ?_
  obtain ⟨w107, ew108⟩ : ∃ z, z = ah_x h103 := ⟨_, rfl⟩
  rw [← ew108]
  have ht := ht w107 ew108
  refine Wp.nm fun h109 e110 => ?_
  have ht := ht h109 e110
  have hc113 := ht.1
  have ht := ht.2
  have hk112 : ah_k h109 t = 1 := by rw [e110, ah_k_nw, if_neg hc113]; exact hk106
  have hk114 : ah_k h109 w107 = 14 := by rw [e110, ew108, ah_k_nw, if_pos rfl]
  have hn115 : ah_n h109 w107 = 120 := by rw [e110, ew108, ah_n_nw, if_pos rfl]
  refine ab_putR (r := (some w107)) f_X1_53 (Or.inr ⟨rfl, rfl, rfl⟩) rfl hk112 (fun x => by cases x <;> rfl) (fun x => by cases x <;> rfl) dX1_init_92 ?_
  refine Wp.nm fun h116 e117 => ?_
  have ht := ht h116 e117
  have hk119 : ah_k h116 t = 1 := by rw [e117]; exact hk112
  refine ab_aload_n (i := 0) dX1_init_95 rfl rfl ?_
  refine ab_bipush (v := 120) dX1_init_96 (by decide) ?_
  refine ab_newa (N := 120) 14 1 .int (by decide) rfl wa_int (by decide) (by decide) (by decide) (Nat.le_of_ble_eq_true rfl) (Nat.le_of_ble_eq_true rfl) dX1_init_98 ?_
  obtain ⟨w120, ew121⟩ : ∃ z, z = ah_x h116 := ⟨_, rfl⟩
  rw [← ew121]
  have ht := ht w120 ew121
  refine Wp.nm fun h122 e123 => ?_
  have ht := ht h122 e123
  have hc126 := ht.1
  have ht := ht.2
  have hk125 : ah_k h122 t = 1 := by rw [e123, ah_k_nw, if_neg hc126]; exact hk119
  have hk127 : ah_k h122 w120 = 14 := by rw [e123, ew121, ah_k_nw, if_pos rfl]
  have hn128 : ah_n h122 w120 = 120 := by rw [e123, ew121, ah_n_nw, if_pos rfl]
  refine ab_putR (r := (some w120)) f_X1_56 (Or.inr ⟨rfl, rfl, rfl⟩) rfl hk125 (fun x => by cases x <;> rfl) (fun x => by cases x <;> rfl) dX1_init_100 ?_
  refine Wp.nm fun h129 e130 => ?_
  have ht := ht h129 e130
  have hk132 : ah_k h129 t = 1 := by rw [e130]; exact hk125
  refine ab_aload_n (i := 0) dX1_init_103 rfl rfl ?_
  refine ab_bipush (v := 120) dX1_init_104 (by decide) ?_
  refine ab_newa (N := 120) 14 1 .int (by decide) rfl wa_int (by decide) (by decide) (by decide) (Nat.le_of_ble_eq_true rfl) (Nat.le_of_ble_eq_true rfl) dX1_init_106 ?_
  obtain ⟨w133, ew134⟩ : ∃ z, z = ah_x h129 := ⟨_, rfl⟩
  rw [← ew134]
  have ht := ht w133 ew134
  refine Wp.nm fun h135 e136 => ?_
  have ht := ht h135 e136
  have hc139 := ht.1
  have ht := ht.2
  have hk138 : ah_k h135 t = 1 := by rw [e136, ah_k_nw, if_neg hc139]; exact hk132
  have hk140 : ah_k h135 w133 = 14 := by rw [e136, ew134, ah_k_nw, if_pos rfl]
  have hn141 : ah_n h135 w133 = 120 := by rw [e136, ew134, ah_n_nw, if_pos rfl]
  refine ab_putR (r := (some w133)) f_X1_59 (Or.inr ⟨rfl, rfl, rfl⟩) rfl hk138 (fun x => by cases x <;> rfl) (fun x => by cases x <;> rfl) dX1_init_108 ?_
  refine Wp.nm fun h142 e143 => ?_
  have ht := ht h142 e143
  have hk145 : ah_k h142 t = 1 := by rw [e143]; exact hk138
  refine ab_aload_n (i := 0) dX1_init_111 rfl rfl ?_
  refine ab_iconst (v := (-1)) dX1_init_112 (by decide) ?_
  refine ab_putI f_X1_62 (Or.inl rfl) rfl hk145 rfl rfl dX1_init_113 ?_
  refine Wp.nm fun h146 e147 => ?_
  have ht := ht h146 e147
  have hk149 : ah_k h146 t = 1 := by rw [e147]; exact hk145
  refine ab_aload_n (i := 0) dX1_init_116 rfl rfl ?_
  refine ab_aload_n (i := 1) dX1_init_117 rfl rfl ?_
  refine ab_putR (r := (some a1)) f_X1_65 (Or.inr ⟨rfl, rfl, rfl⟩) rfl hk149 (fun x => by cases x <;> rfl) (fun x => by cases x <;> rfl) dX1_init_118 ?_
  refine Wp.nm fun h150 e151 => ?_
  have ht := ht h150 e151
  have hk153 : ah_k h150 t = 1 := by rw [e151]; exact hk149
  refine ab_aload_n (i := 0) dX1_init_121 rfl rfl ?_
  refine ab_aload_n (i := 2) dX1_init_122 rfl rfl ?_
  refine ab_putR (r := (some a2)) f_X1_69 (Or.inr ⟨rfl, rfl, rfl⟩) rfl hk153 (fun x => by cases x <;> rfl) (fun x => by cases x <;> rfl) dX1_init_123 ?_
  refine Wp.nm fun h154 e155 => ?_
  have ht := ht h154 e155
  have hk157 : ah_k h154 t = 1 := by rw [e155]; exact hk153
  refine ab_aload_n (i := 0) dX1_init_126 rfl rfl ?_
  refine ab_aload_n (i := 3) dX1_init_127 rfl rfl ?_
  refine ab_putR (r := (some a3)) f_X1_73 (Or.inr ⟨rfl, rfl, rfl⟩) rfl hk157 (fun x => by cases x <;> rfl) (fun x => by cases x <;> rfl) dX1_init_128 ?_
  refine Wp.nm fun h158 e159 => ?_
  have ht := ht h158 e159
  have hk161 : ah_k h158 t = 1 := by rw [e159]; exact hk157
  exact ab_vret rfl dX1_init_131 (Nat.le_of_ble_eq_true rfl) (by first | exact (Nat.le_of_ble_eq_true rfl) | assumption) ht
theorem dX4_init_0 : decode cX4_init 0 = .ok (.aload_n 0, 1) := by decide +kernel
theorem dX4_init_1 : decode cX4_init 1 = .ok (.invokespecial 3, 3) := by decide +kernel
theorem dX4_init_4 : decode cX4_init 4 = .ok (.aload_n 0, 1) := by decide +kernel
theorem dX4_init_5 : decode cX4_init 5 = .ok (.iconst 0, 1) := by decide +kernel
theorem dX4_init_6 : decode cX4_init 6 = .ok (.putfield 9, 3) := by decide +kernel
theorem dX4_init_9 : decode cX4_init 9 = .ok (.aload_n 0, 1) := by decide +kernel
theorem dX4_init_10 : decode cX4_init 10 = .ok (.iconst 0, 1) := by decide +kernel
theorem dX4_init_11 : decode cX4_init 11 = .ok (.putfield 15, 3) := by decide +kernel
theorem dX4_init_14 : decode cX4_init 14 = .ok (.aload_n 0, 1) := by decide +kernel
theorem dX4_init_15 : decode cX4_init 15 = .ok (.bipush 6, 2) := by decide +kernel
theorem dX4_init_17 : decode cX4_init 17 = .ok (.newarray .int, 2) := by decide +kernel
theorem dX4_init_19 : decode cX4_init 19 = .ok (.putfield 18, 3) := by decide +kernel
theorem dX4_init_22 : decode cX4_init 22 = .ok (.aload_n 0, 1) := by decide +kernel
theorem dX4_init_23 : decode cX4_init 23 = .ok (.iconst 0, 1) := by decide +kernel
theorem dX4_init_24 : decode cX4_init 24 = .ok (.putfield 22, 3) := by decide +kernel
theorem dX4_init_27 : decode cX4_init 27 = .ok (.aload_n 0, 1) := by decide +kernel
theorem dX4_init_28 : decode cX4_init 28 = .ok (.iconst 0, 1) := by decide +kernel
theorem dX4_init_29 : decode cX4_init 29 = .ok (.putfield 25, 3) := by decide +kernel
theorem dX4_init_32 : decode cX4_init 32 = .ok (.aload_n 0, 1) := by decide +kernel
theorem dX4_init_33 : decode cX4_init 33 = .ok (.iconst 4, 1) := by decide +kernel
theorem dX4_init_34 : decode cX4_init 34 = .ok (.newarray .int, 2) := by decide +kernel
theorem dX4_init_36 : decode cX4_init 36 = .ok (.putfield 28, 3) := by decide +kernel
theorem dX4_init_39 : decode cX4_init 39 = .ok (.aload_n 0, 1) := by decide +kernel
theorem dX4_init_40 : decode cX4_init 40 = .ok (.bipush 18, 2) := by decide +kernel
theorem dX4_init_42 : decode cX4_init 42 = .ok (.newarray .int, 2) := by decide +kernel
theorem dX4_init_44 : decode cX4_init 44 = .ok (.putfield 31, 3) := by decide +kernel
theorem dX4_init_47 : decode cX4_init 47 = .ok (.aload_n 0, 1) := by decide +kernel
theorem dX4_init_48 : decode cX4_init 48 = .ok (.bipush 18, 2) := by decide +kernel
theorem dX4_init_50 : decode cX4_init 50 = .ok (.newarray .int, 2) := by decide +kernel
theorem dX4_init_52 : decode cX4_init 52 = .ok (.putfield 34, 3) := by decide +kernel
theorem dX4_init_55 : decode cX4_init 55 = .ok (.aload_n 0, 1) := by decide +kernel
theorem dX4_init_56 : decode cX4_init 56 = .ok (.iconst 0, 1) := by decide +kernel
theorem dX4_init_57 : decode cX4_init 57 = .ok (.putfield 37, 3) := by decide +kernel
theorem dX4_init_60 : decode cX4_init 60 = .ok (.aload_n 0, 1) := by decide +kernel
theorem dX4_init_61 : decode cX4_init 61 = .ok (.sipush 144, 3) := by decide +kernel
theorem dX4_init_64 : decode cX4_init 64 = .ok (.newarray .int, 2) := by decide +kernel
theorem dX4_init_66 : decode cX4_init 66 = .ok (.putfield 41, 3) := by decide +kernel
theorem dX4_init_69 : decode cX4_init 69 = .ok (.aload_n 0, 1) := by decide +kernel
theorem dX4_init_70 : decode cX4_init 70 = .ok (.bipush 12, 2) := by decide +kernel
theorem dX4_init_72 : decode cX4_init 72 = .ok (.newarray .int, 2) := by decide +kernel
theorem dX4_init_74 : decode cX4_init 74 = .ok (.putfield 44, 3) := by decide +kernel
theorem dX4_init_77 : decode cX4_init 77 = .ok (.aload_n 0, 1) := by decide +kernel
theorem dX4_init_78 : decode cX4_init 78 = .ok (.bipush 12, 2) := by decide +kernel
theorem dX4_init_80 : decode cX4_init 80 = .ok (.newarray .int, 2) := by decide +kernel
theorem dX4_init_82 : decode cX4_init 82 = .ok (.putfield 47, 3) := by decide +kernel
theorem dX4_init_85 : decode cX4_init 85 = .ok (.aload_n 0, 1) := by decide +kernel
theorem dX4_init_86 : decode cX4_init 86 = .ok (.aload_n 1, 1) := by decide +kernel
theorem dX4_init_87 : decode cX4_init 87 = .ok (.putfield 50, 3) := by decide +kernel
theorem dX4_init_90 : decode cX4_init 90 = .ok (.aload_n 0, 1) := by decide +kernel
theorem dX4_init_91 : decode cX4_init 91 = .ok (.aload_n 2, 1) := by decide +kernel
theorem dX4_init_92 : decode cX4_init 92 = .ok (.putfield 54, 3) := by decide +kernel
theorem dX4_init_95 : decode cX4_init 95 = .ok (.aload_n 0, 1) := by decide +kernel
theorem dX4_init_96 : decode cX4_init 96 = .ok (.aload_n 3, 1) := by decide +kernel
theorem dX4_init_97 : decode cX4_init 97 = .ok (.putfield 58, 3) := by decide +kernel
theorem dX4_init_100 : decode cX4_init 100 = .ok (.aload_n 0, 1) := by decide +kernel
theorem dX4_init_101 : decode cX4_init 101 = .ok (.aload 4, 2) := by decide +kernel
theorem dX4_init_103 : decode cX4_init 103 = .ok (.putfield 62, 3) := by decide +kernel
theorem dX4_init_106 : decode cX4_init 106 = .ok (.return_, 1) := by decide +kernel
set_option maxRecDepth 20000 in
theorem T_X4_init {Q : Option Value → ah_T → Prop} {h : ah_T} (t : Nat) (a1 : Nat) (a2 : Nat) (a3 : Nat) (a4 : Nat) (hk_t : ah_k h t = 4) (ht : (∀ h1, h1 = ah_si h t 0 0 → (∀ h5, h5 = ah_si h1 t 1 0 → (∀ w9, w9 = ah_x h5 → (∀ h11, h11 = ah_nw h5 14 6 → (¬ t = ah_x h5) ∧ (∀ h18, h18 = ah_sr h11 t 2 (some w9) → (∀ h22, h22 = ah_si h18 t 3 0 → (∀ h26, h26 = ah_si h22 t 4 0 → (∀ w30, w30 = ah_x h26 → (∀ h32, h32 = ah_nw h26 14 4 → (¬ t = ah_x h26) ∧ (∀ h39, h39 = ah_sr h32 t 9 (some w30) → (∀ w43, w43 = ah_x h39 → (∀ h45, h45 = ah_nw h39 14 18 → (¬ t = ah_x h39) ∧ (∀ h52, h52 = ah_sr h45 t 10 (some w43) → (∀ w56, w56 = ah_x h52 → (∀ h58, h58 = ah_nw h52 14 18 → (¬ t = ah_x h52) ∧ (∀ h65, h65 = ah_sr h58 t 11 (some w56) → (∀ h69, h69 = ah_si h65 t 12 0 → (∀ w73, w73 = ah_x h69 → (∀ h75, h75 = ah_nw h69 14 144 → (¬ t = ah_x h69) ∧ (∀ h82, h82 = ah_sr h75 t 13 (some w73) → (∀ w86, w86 = ah_x h82 → (∀ h88, h88 = ah_nw h82 14 12 → (¬ t = ah_x h82) ∧ (∀ h95, h95 = ah_sr h88 t 14 (some w86) → (∀ w99, w99 = ah_x h95 → (∀ h101, h101 = ah_nw h95 14 12 → (¬ t = ah_x h95) ∧ (∀ h108, h108 = ah_sr h101 t 15 (some w99) → (∀ h112, h112 = ah_sr h108 t 5 (some a1) → (∀ h116, h116 = ah_sr h112 t 6 (some a2) → (∀ h120, h120 = ah_sr h116 t 7 (some a3) → (∀ h124, h124 = ah_sr h120 t 8 (some a4) → Q none h124))))))))))))))))))))))))))))))) : Mt nX4_init [.ref t, .ref a1, .ref a2, .ref a3, .ref a4] h Q := by
  refine Mt.ofWp rfl (by exact (Nat.le_of_ble_eq_true rfl)) (Wp.fewer (L' := [some (.ref t), some (.ref a1), some (.ref a2), some (.ref a3), some (.ref a4)]) (show ab_leL _ _ from ⟨rfl, ⟨rfl, ⟨rfl, ⟨rfl, ⟨rfl, trivial⟩⟩⟩⟩⟩) ?_)
  refine ab_aload_n (i := 0) dX4_init_0 rfl rfl ?_
  refine ab_obj (tb_3 (List.mem_of_getElem? (i := 2) (by decide +kernel)) rfl) in_obj co_obj (Nat.le_of_ble_eq_true rfl) (Nat.le_of_ble_eq_true rfl) dX4_init_1 ?_
  refine ab_aload_n (i := 0) dX4_init_4 rfl rfl ?_
  refine ab_iconst (v := 0) dX4_init_5 (by decide) ?_
  refine ab_putI f_X4_9 (Or.inl rfl) rfl hk_t rfl rfl dX4_init_6 ?_
  refine Wp.nm fun h1 e2 => ?_
  have ht := ht h1 e2
  have hk4 : ah_k h1 t = 4 := by rw [e2]; exact hk_t
  refine ab_aload_n (i := 0) dX4_init_9 rfl rfl ?_
  refine ab_iconst (v := 0) dX4_init_10 (by decide) ?_
  refine ab_putI f_X4_15 (Or.inl rfl) rfl hk4 rfl rfl dX4_init_11 ?_
  refine Wp.nm fun h5 e6 => ?_
  have ht := ht h5 e6
  have hk8 : ah_k h5 t = 4 := by rw [e6]; exact hk4
  refine ab_aload_n (i := 0) dX4_init_14 rfl rfl ?_
  refine ab_bipush (v := 6) dX4_init_15 (by decide) ?_
  refine ab_newa (N := 6) 14 1 .int (by decide) rfl wa_int (by decide) (by decide) (by decide) (Nat.le_of_ble_eq_true rfl) (Nat.le_of_ble_eq_true rfl) dX4_init_17 ?_
  obtain ⟨w9, ew10⟩ : ∃ z, z = ah_x h5 := ⟨_, rfl⟩
  rw [← ew10]
  have ht := ht w9 ew10
  refine Wp.nm fun h11 e12 => ?_
  have ht := ht h11 e12
  have hc15 := ht.1
  have ht := ht.2
  have hk14 : ah_k h11 t = 4 := by rw [e12, ah_k_nw, if_neg hc15]; exact hk8
  have hk16 : ah_k h11 w9 = 14 := by rw [e12, ew10, ah_k_nw, if_pos rfl]
  have hn17 : ah_n h11 w9 = 6 := by rw [e12, ew10, ah_n_nw, if_pos rfl]
  refine ab_putR (r := (some w9)) f_X4_18 (Or.inr ⟨rfl, rfl, rfl⟩) rfl hk14 (fun x => by cases x <;> rfl) (fun x => by cases x <;> rfl) dX4_init_19 ?_
  refine Wp.nm fun h18 e19 => ?_
  have ht := ht h18 e19
  have hk21 : ah_k h18 t = 4 := by rw [e19]; exact hk14
  refine ab_aload_n (i := 0) dX4_init_22 rfl rfl ?_
  refine ab_iconst (v := 0) dX4_init_23 (by decide) ?_
  refine ab_putI f_X4_22 (Or.inl rfl) rfl hk21 rfl rfl dX4_init_24 ?_
  refine Wp.nm fun h22 e23 => ?_
  have ht := ht h22 e23
  have hk25 : ah_k h22 t = 4 := by rw [e23]; exact hk21
  refine ab_aload_n (i := 0) dX4_init_27 rfl rfl ?_
  refine ab_iconst (v := 0) dX4_init_28 (by decide) ?_
  refine ab_putI f_X4_25 (Or.inl rfl) rfl hk25 rfl rfl dX4_init_29 ?_
  refine Wp.nm fun h26 e27 => ?_
  have ht := ht h26 e27
  have hk29 : ah_k h26 t = 4 := by rw [e27]; exact hk25
  refine ab_aload_n (i := 0) dX4_init_32 rfl rfl ?_
  refine ab_iconst (v := 4) dX4_init_33 (by decide) ?_
  refine ab_newa (N := 4) 14 1 .int (by decide) rfl wa_int (by decide) (by decide) (by decide) (Nat.le_of_ble_eq_true rfl) (Nat.le_of_ble_eq_true rfl) dX4_init_34 ?_
  obtain ⟨w30, ew31⟩ : ∃ z, z = ah_x h26 := ⟨_, rfl⟩
  rw [← ew31]
  have ht := ht w30 ew31
  refine Wp.nm fun h32 e33 => ?_
  have ht := ht h32 e33
  have hc36 := ht.1
  have ht := ht.2
  have hk35 : ah_k h32 t = 4 := by rw [e33, ah_k_nw, if_neg hc36]; exact hk29
  have hk37 : ah_k h32 w30 = 14 := by rw [e33, ew31, ah_k_nw, if_pos rfl]
  have hn38 : ah_n h32 w30 = 4 := by rw [e33, ew31, ah_n_nw, if_pos rfl]
  refine ab_putR (r := (some w30)) f_X4_28 (Or.inr ⟨rfl, rfl, rfl⟩) rfl hk35 (fun x => by cases x <;> rfl) (fun x => by cases x <;> rfl) dX4_init_36 ?_
  refine Wp.nm fun h39 e40 => ?_
  have ht := ht h39 e40
  have hk42 : ah_k h39 t = 4 := by rw [e40]; exact hk35
  refine ab_aload_n (i := 0) dX4_init_39 rfl rfl ?_
  refine ab_bipush (v := 18) dX4_init_40 (by decide) ?_
  refine ab_newa (N := 18) 14 1 .int (by decide) rfl wa_int (by decide) (by decide) (by decide) (Nat.le_of_ble_eq_true rfl) (Nat.le_of_ble_eq_true rfl) dX4_init_42 ?_
  obtain ⟨w43, ew44⟩ : ∃ z, z = ah_x h39 := ⟨_, rfl⟩
  rw [← ew44]
  have ht := ht w43 ew44
  refine Wp.nm fun h45 e46 => ?_
  have ht := ht h45 e46
  have hc49 := ht.1
  have ht := ht.2
  have hk48 : ah_k h45 t = 4 := by rw [e46, ah_k_nw, if_neg hc49]; exact hk42
  have hk50 : ah_k h45 w43 = 14 := by rw [e46, ew44, ah_k_nw, if_pos rfl]
  have hn51 : ah_n h45 w43 = 18 := by rw [e46, ew44, ah_n_nw, if_pos rfl]
  refine ab_putR (r := (some w43)) f_X4_31 (Or.inr ⟨rfl, rfl, rfl⟩) rfl hk48 (fun x => by cases x <;> rfl) (fun x => by cases x <;> rfl) dX4_init_44 ?_
  refine Wp.nm fun h52 e53 => ?_
  have ht := ht h52 e53
  have hk55 : ah_k h52 t = 4 := by rw [e53]; exact hk48
  refine ab_aload_n (i := 0) dX4_init_47 rfl rfl ?_
  refine ab_bipush (v := 18) dX4_init_48 (by decide) ?_
  refine ab_newa (N := 18) 14 1 .int (by decide) rfl wa_int (by decide) (by decide) (by decide) (Nat.le_of_ble_eq_true rfl) (Nat.le_of_ble_eq_true rfl) dX4_init_50 ?_
  obtain ⟨w56, ew57⟩ : ∃ z, z = ah_x h52 := ⟨_, rfl⟩
  rw [← ew57]
  have ht := ht w56 ew57
  refine Wp.nm fun h58 e59 => ?_
  have ht := ht h58 e59
  have hc62 := ht.1
  have ht := ht.2
  have hk61 : ah_k h58 t = 4 := by rw [e59, ah_k_nw, if_neg hc62]; exact hk55
  have hk63 : ah_k h58 w56 = 14 := by rw [e59, ew57, ah_k_nw, if_pos rfl]
  have hn64 : ah_n h58 w56 = 18 := by rw [e59, ew57, ah_n_nw, if_pos rfl]
  refine ab_putR (r := (some w56)) f_X4_34 (Or.inr ⟨rfl, rfl, rfl⟩) rfl hk61 (fun x => by cases x <;> rfl) (fun x => by cases x <;> rfl) dX4_init_52 ?_
  refine Wp.nm fun h65 e66 => ?_
  have ht := ht h65 e66
  have hk68 : ah_k h65 t = 4 := by rw [e66]; exact hk61
  refine ab_aload_n (i := 0) dX4_init_55 rfl rfl ?_
  refine ab_iconst (v := 0) dX4_init_56 (by decide) ?_
  refine ab_putI f_X4_37 (Or.inl rfl) rfl hk68 rfl rfl dX4_init_57 ?_
  refine Wp.nm fun h69 e70 => ?_
  have ht := ht h69 e70
  have hk72 : ah_k h69 t = 4 := by rw [e70]; exact hk68
  refine ab_aload_n (i := 0) dX4_init_60 rfl rfl ?_
  refine ab_sipush (v := 144) dX4_init_61 (by decide) ?_
  refine ab_newa (N := 144) 14 1 .int (by decide) rfl wa_int (by decide) (by decide) (by decide) (Nat.le_of_ble_eq_true rfl) (Nat.le_of_ble_eq_true rfl) dX4_init_64 ?_
  obtain ⟨w73, ew74⟩ : ∃ z, z = ah_x h69 := ⟨_, rfl⟩
  rw [← ew74]
  have ht := ht w73 ew74
  refine Wp.nm fun h75 e76 => ?_
  have ht := ht h75 e76
  have hc79 := ht.1
  have ht := ht.2
  have hk78 : ah_k h75 t = 4 := by rw [e76, ah_k_nw, if_neg hc79]; exact hk72
  have hk80 : ah_k h75 w73 = 14 := by rw [e76, ew74, ah_k_nw, if_pos rfl]
  have hn81 : ah_n h75 w73 = 144 := by rw [e76, ew74, ah_n_nw, if_pos rfl]
  refine ab_putR (r := (some w73)) f_X4_41 (Or.inr ⟨rfl, rfl, rfl⟩) rfl hk78 (fun x => by cases x <;> rfl) (fun x => by cases x <;> rfl) dX4_init_66 ?_
  refine Wp.nm fun h82 e83 => ?_
  have ht := ht h82 e83
  have hk85 : ah_k h82 t = 4 := by rw [e83]; exact hk78
  refine ab_aload_n (i := 0) dX4_init_69 rfl rfl ?_
  refine ab_bipush (v := 12) dX4_init_70 (by decide) ?_
  refine ab_newa (N := 12) 14 1 .int (by decide) rfl wa_int (by decide) (by decide) (by decide) (Nat.le_of_ble_eq_true rfl) (Nat.le_of_ble_eq_true rfl) dX4_init_72 ?_
  obtain ⟨w86, ew87⟩ : ∃ z, z = ah_x h82 := ⟨_, rfl⟩
  rw [← ew87]
  have ht := ht w86 ew87
  refine Wp.nm fun h88 e89 => ?_
  have ht := ht h88 e89
  have hc92 := ht.1
  have ht := ht.2
  have hk91 : ah_k h88 t = 4 := by rw [e89, ah_k_nw, if_neg hc92]; exact hk85
  have hk93 : ah_k h88 w86 = 14 := by rw [e89, ew87, ah_k_nw, if_pos rfl]
  have hn94 : ah_n h88 w86 = 12 := by rw [e89, ew87, ah_n_nw, if_pos rfl]
  refine ab_putR (r := (some w86)) f_X4_44 (Or.inr ⟨rfl, rfl, rfl⟩) rfl hk91 (fun x => by cases x <;> rfl) (fun x => by cases x <;> rfl) dX4_init_74 ?_
  refine Wp.nm fun h95 e96 => ?_
  have ht := ht h95 e96
  have hk98 : ah_k h95 t = 4 := by rw [e96]; exact hk91
  refine ab_aload_n (i := 0) dX4_init_77 rfl rfl ?_
  refine ab_bipush (v := 12) dX4_init_78 (by decide) ?_
  refine ab_newa (N := 12) 14 1 .int (by decide) rfl wa_int (by decide) (by decide) (by decide) (Nat.le_of_ble_eq_true rfl) (Nat.le_of_ble_eq_true rfl) dX4_init_80 ?_
  obtain ⟨w99, ew100⟩ : ∃ z, z = ah_x h95 := ⟨_, rfl⟩
  rw [← ew100]
  have ht := ht w99 ew100
  refine Wp.nm fun h101 e102 => ?_
  have ht := ht h101 e102
  have hc105 := ht.1
  have ht := ht.2
  have hk104 : ah_k h101 t = 4 := by rw [e102, ah_k_nw, if_neg hc105]; exact hk98
  have hk106 : ah_k h101 w99 = 14 := by rw [e102, ew100, ah_k_nw, if_pos rfl]
  have hn107 : ah_n h101 w99 = 12 := by rw [e102, ew100, ah_n_nw, if_pos rfl]
  refine ab_putR (r := (some w99)) f_X4_47 (Or.inr ⟨rfl, rfl, rfl⟩) rfl hk104 (fun x => by cases x <;> rfl) (fun x => by cases x <;> rfl) dX4_init_82 ?_
  refine Wp.nm fun h108 e109 => ?_
  have ht := ht h108 e109
  have hk111 : ah_k h108 t = 4 := by rw [e109]; exact hk104
  refine ab_aload_n (i := 0) dX4_init_85 rfl rfl ?_
  refine ab_aload_n (i := 1) dX4_init_86 rfl rfl ?_
  refine ab_putR (r := (some a1)) f_X4_50 (Or.inr ⟨rfl, rfl, rfl⟩) rfl hk111 (fun x => by cases x <;> rfl) (fun x => by cases x <;> rfl) dX4_init_87 ?_
  refine Wp.nm fun h112 e113 => ?_
  have ht := ht h112 e113
  have hk115 : ah_k h112 t = 4 := by rw [e113]; exact hk111
  refine ab_aload_n (i := 0) dX4_init_90 rfl rfl ?_
  refine ab_aload_n (i := 2) dX4_init_91 rfl rfl ?_
  refine ab_putR (r := (some a2)) f_X4_54 (Or.inr ⟨rfl, rfl, rfl⟩) rfl hk115 (fun x => by cases x <;> rfl) (fun x => by cases x <;> rfl) dX4_init_92 ?_
  refine Wp.nm fun h116 e117 => ?_
  have ht := ht h116 e117
  have hk119 : ah_k h116 t = 4 := by rw [e117]; exact hk115
  refine ab_aload_n (i := 0) dX4_init_95 rfl rfl ?_
  refine ab_aload_n (i := 3) dX4_init_96 rfl rfl ?_
  refine ab_putR (r := (some a3)) f_X4_58 (Or.inr ⟨rfl, rfl, rfl⟩) rfl hk119 (fun x => by cases x <;> rfl) (fun x => by cases x <;> rfl) dX4_init_97 ?_
  refine Wp.nm fun h120 e121 => ?_
  have ht := ht h120 e121
  have hk123 : ah_k h120 t = 4 := by rw [e121]; exact hk119
  refine ab_aload_n (i := 0) dX4_init_100 rfl rfl ?_
  refine ab_aload (i := 4) dX4_init_101 rfl ?_
  refine ab_putR (r := (some a4)) f_X4_62 (Or.inr ⟨rfl, rfl, rfl⟩) rfl hk123 (fun x => by cases x <;> rfl) (fun x => by cases x <;> rfl) dX4_init_103 ?_
  refine Wp.nm fun h124 e125 => ?_
  have ht := ht h124 e125
  have hk127 : ah_k h124 t = 4 := by rw [e125]; exact hk123
  exact ab_vret rfl dX4_init_106 (Nat.le_of_ble_eq_true rfl) (by first | exact (Nat.le_of_ble_eq_true rfl) | assumption) ht
theorem dX11_init_0 : decode cX11_init 0 = .ok (.aload_n 0, 1) := by decide +kernel
theorem dX11_init_1 : decode cX11_init 1 = .ok (.invokespecial 1, 3) := by decide +kernel
theorem dX11_init_4 : decode cX11_init 4 = .ok (.aload_n 0, 1) := by decide +kernel
theorem dX11_init_5 : decode cX11_init 5 = .ok (.new 7, 3) := by decide +kernel
theorem dX11_init_8 : decode cX11_init 8 = .ok (.dup, 1) := by decide +kernel
theorem dX11_init_9 : decode cX11_init 9 = .ok (.invokespecial 9, 3) := by decide +kernel
theorem dX11_init_12 : decode cX11_init 12 = .ok (.putfield 10, 3) := by decide +kernel
theorem dX11_init_15 : decode cX11_init 15 = .ok (.aload_n 0, 1) := by decide +kernel
theorem dX11_init_16 : decode cX11_init 16 = .ok (.iconst 2, 1) := by decide +kernel
theorem dX11_init_17 : decode cX11_init 17 = .ok (.anewarray 7, 3) := by decide +kernel
theorem dX11_init_20 : decode cX11_init 20 = .ok (.putfield 16, 3) := by decide +kernel
theorem dX11_init_23 : decode cX11_init 23 = .ok (.aload_n 0, 1) := by decide +kernel
theorem dX11_init_24 : decode cX11_init 24 = .ok (.sipush 400, 3) := by decide +kernel
theorem dX11_init_27 : decode cX11_init 27 = .ok (.newarray .int, 2) := by decide +kernel
theorem dX11_init_29 : decode cX11_init 29 = .ok (.putfield 20, 3) := by decide +kernel
theorem dX11_init_32 : decode cX11_init 32 = .ok (.aload_n 0, 1) := by decide +kernel
theorem dX11_init_33 : decode cX11_init 33 = .ok (.iconst 5, 1) := by decide +kernel
theorem dX11_init_34 : decode cX11_init 34 = .ok (.newarray .int, 2) := by decide +kernel
theorem dX11_init_36 : decode cX11_init 36 = .ok (.putfield 24, 3) := by decide +kernel
theorem dX11_init_39 : decode cX11_init 39 = .ok (.aload_n 0, 1) := by decide +kernel
theorem dX11_init_40 : decode cX11_init 40 = .ok (.bipush 120, 2) := by decide +kernel
theorem dX11_init_42 : decode cX11_init 42 = .ok (.newarray .int, 2) := by decide +kernel
theorem dX11_init_44 : decode cX11_init 44 = .ok (.putfield 27, 3) := by decide +kernel
theorem dX11_init_47 : decode cX11_init 47 = .ok (.aload_n 0, 1) := by decide +kernel
theorem dX11_init_48 : decode cX11_init 48 = .ok (.new 30, 3) := by decide +kernel
theorem dX11_init_51 : decode cX11_init 51 = .ok (.dup, 1) := by decide +kernel
theorem dX11_init_52 : decode cX11_init 52 = .ok (.invokespecial 32, 3) := by decide +kernel
theorem dX11_init_55 : decode cX11_init 55 = .ok (.putfield 33, 3) := by decide +kernel
theorem dX11_init_58 : decode cX11_init 58 = .ok (.aload_n 0, 1) := by decide +kernel
theorem dX11_init_59 : decode cX11_init 59 = .ok (.new 37, 3) := by decide +kernel
theorem dX11_init_62 : decode cX11_init 62 = .ok (.dup, 1) := by decide +kernel
theorem dX11_init_63 : decode cX11_init 63 = .ok (.invokespecial 39, 3) := by decide +kernel
theorem dX11_init_66 : decode cX11_init 66 = .ok (.putfield 40, 3) := by decide +kernel
theorem dX11_init_69 : decode cX11_init 69 = .ok (.aload_n 0, 1) := by decide +kernel
theorem dX11_init_70 : decode cX11_init 70 = .ok (.new 44, 3) := by decide +kernel
theorem dX11_init_73 : decode cX11_init 73 = .ok (.dup, 1) := by decide +kernel
theorem dX11_init_74 : decode cX11_init 74 = .ok (.aload_n 0, 1) := by decide +kernel
theorem dX11_init_75 : decode cX11_init 75 = .ok (.getfield 10, 3) := by decide +kernel
theorem dX11_init_78 : decode cX11_init 78 = .ok (.invokespecial 46, 3) := by decide +kernel
theorem dX11_init_81 : decode cX11_init 81 = .ok (.putfield 49, 3) := by decide +kernel
theorem dX11_init_84 : decode cX11_init 84 = .ok (.aload_n 0, 1) := by decide +kernel
theorem dX11_init_85 : decode cX11_init 85 = .ok (.new 53, 3) := by decide +kernel
theorem dX11_init_88 : decode cX11_init 88 = .ok (.dup, 1) := by decide +kernel
theorem dX11_init_89 : decode cX11_init 89 = .ok (.aload_n 0, 1) := by decide +kernel
theorem dX11_init_90 : decode cX11_init 90 = .ok (.getfield 10, 3) := by decide +kernel
theorem dX11_init_93 : decode cX11_init 93 = .ok (.aload_n 0, 1) := by decide +kernel
theorem dX11_init_94 : decode cX11_init 94 = .ok (.getfield 40, 3) := by decide +kernel
theorem dX11_init_97 : decode cX11_init 97 = .ok (.aload_n 0, 1) := by decide +kernel
theorem dX11_init_98 : decode cX11_init 98 = .ok (.getfield 49, 3) := by decide +kernel
theorem dX11_init_101 : decode cX11_init 101 = .ok (.invokespecial 55, 3) := by decide +kernel
theorem dX11_init_104 : decode cX11_init 104 = .ok (.putfield 58, 3) := by decide +kernel
theorem dX11_init_107 : decode cX11_init 107 = .ok (.aload_n 0, 1) := by decide +kernel
theorem dX11_init_108 : decode cX11_init 108 = .ok (.new 62, 3) := by decide +kernel
theorem dX11_init_111 : decode cX11_init 111 = .ok (.dup, 1) := by decide +kernel
theorem dX11_init_112 : decode cX11_init 112 = .ok (.aload_n 0, 1) := by decide +kernel
theorem dX11_init_113 : decode cX11_init 113 = .ok (.getfield 10, 3) := by decide +kernel
theorem dX11_init_116 : decode cX11_init 116 = .ok (.aload_n 0, 1) := by decide +kernel
theorem dX11_init_117 : decode cX11_init 117 = .ok (.getfield 49, 3) := by decide +kernel
theorem dX11_init_120 : decode cX11_init 120 = .ok (.aload_n 0, 1) := by decide +kernel
theorem dX11_init_121 : decode cX11_init 121 = .ok (.getfield 58, 3) := by decide +kernel
theorem dX11_init_124 : decode cX11_init 124 = .ok (.invokespecial 64, 3) := by decide +kernel
theorem dX11_init_127 : decode cX11_init 127 = .ok (.putfield 67, 3) := by decide +kernel
theorem dX11_init_130 : decode cX11_init 130 = .ok (.aload_n 0, 1) := by decide +kernel
theorem dX11_init_131 : decode cX11_init 131 = .ok (.new 71, 3) := by decide +kernel
theorem dX11_init_134 : decode cX11_init 134 = .ok (.dup, 1) := by decide +kernel
theorem dX11_init_135 : decode cX11_init 135 = .ok (.aload_n 0, 1) := by decide +kernel
theorem dX11_init_136 : decode cX11_init 136 = .ok (.getfield 10, 3) := by decide +kernel
theorem dX11_init_139 : decode cX11_init 139 = .ok (.aload_n 0, 1) := by decide +kernel
theorem dX11_init_140 : decode cX11_init 140 = .ok (.getfield 49, 3) := by decide +kernel
theorem dX11_init_143 : decode cX11_init 143 = .ok (.aload_n 0, 1) := by decide +kernel
theorem dX11_init_144 : decode cX11_init 144 = .ok (.getfield 58, 3) := by decide +kernel
theorem dX11_init_147 : decode cX11_init 147 = .ok (.aload_n 0, 1) := by decide +kernel
theorem dX11_init_148 : decode cX11_init 148 = .ok (.getfield 67, 3) := by decide +kernel
theorem dX11_init_151 : decode cX11_init 151 = .ok (.invokespecial 73, 3) := by decide +kernel
theorem dX11_init_154 : decode cX11_init 154 = .ok (.putfield 76, 3) := by decide +kernel
theorem dX11_init_157 : decode cX11_init 157 = .ok (.aload_n 0, 1) := by decide +kernel
theorem dX11_init_158 : decode cX11_init 158 = .ok (.new 80, 3) := by decide +kernel
theorem dX11_init_161 : decode cX11_init 161 = .ok (.dup, 1) := by decide +kernel
theorem dX11_init_162 : decode cX11_init 162 = .ok (.aload_n 0, 1) := by decide +kernel
theorem dX11_init_163 : decode cX11_init 163 = .ok (.getfield 10, 3) := by decide +kernel
theorem dX11_init_166 : decode cX11_init 166 = .ok (.aload_n 0, 1) := by decide +kernel
theorem dX11_init_167 : decode cX11_init 167 = .ok (.getfield 49, 3) := by decide +kernel
theorem dX11_init_170 : decode cX11_init 170 = .ok (.aload_n 0, 1) := by decide +kernel
theorem dX11_init_171 : decode cX11_init 171 = .ok (.getfield 67, 3) := by decide +kernel
theorem dX11_init_174 : decode cX11_init 174 = .ok (.invokespecial 82, 3) := by decide +kernel
theorem dX11_init_177 : decode cX11_init 177 = .ok (.putfield 85, 3) := by decide +kernel
theorem dX11_init_180 : decode cX11_init 180 = .ok (.aload_n 0, 1) := by decide +kernel
theorem dX11_init_181 : decode cX11_init 181 = .ok (.new 89, 3) := by decide +kernel
theorem dX11_init_184 : decode cX11_init 184 = .ok (.dup, 1) := by decide +kernel
theorem dX11_init_185 : decode cX11_init 185 = .ok (.aload_n 0, 1) := by decide +kernel
theorem dX11_init_186 : decode cX11_init 186 = .ok (.getfield 10, 3) := by decide +kernel
theorem dX11_init_189 : decode cX11_init 189 = .ok (.aload_n 0, 1) := by decide +kernel
theorem dX11_init_190 : decode cX11_init 190 = .ok (.getfield 49, 3) := by decide +kernel
theorem dX11_init_193 : decode cX11_init 193 = .ok (.aload_n 0, 1) := by decide +kernel
theorem dX11_init_194 : decode cX11_init 194 = .ok (.getfield 58, 3) := by decide +kernel
theorem dX11_init_197 : decode cX11_init 197 = .ok (.aload_n 0, 1) := by decide +kernel
theorem dX11_init_198 : decode cX11_init 198 = .ok (.getfield 67, 3) := by decide +kernel
theorem dX11_init_201 : decode cX11_init 201 = .ok (.invokespecial 91, 3) := by decide +kernel
theorem dX11_init_204 : decode cX11_init 204 = .ok (.putfield 92, 3) := by decide +kernel
theorem dX11_init_207 : decode cX11_init 207 = .ok (.aload_n 0, 1) := by decide +kernel
theorem dX11_init_208 : decode cX11_init 208 = .ok (.iconst 0, 1) := by decide +kernel
theorem dX11_init_209 : decode cX11_init 209 = .ok (.putfield 96, 3) := by decide +kernel
theorem dX11_init_212 : decode cX11_init 212 = .ok (.aload_n 0, 1) := by decide +kernel
theorem dX11_init_213 : decode cX11_init 213 = .ok (.iconst (-1), 1) := by decide +kernel
theorem dX11_init_214 : decode cX11_init 214 = .ok (.putfield 100, 3) := by decide +kernel
theorem dX11_init_217 : decode cX11_init 217 = .ok (.aload_n 0, 1) := by decide +kernel
theorem dX11_init_218 : decode cX11_init 218 = .ok (.iconst 0, 1) := by decide +kernel
theorem dX11_init_219 : decode cX11_init 219 = .ok (.putfield 103, 3) := by decide +kernel
theorem dX11_init_222 : decode cX11_init 222 = .ok (.aload_n 0, 1) := by decide +kernel
theorem dX11_init_223 : decode cX11_init 223 = .ok (.iconst (-1), 1) := by decide +kernel
theorem dX11_init_224 : decode cX11_init 224 = .ok (.putfield 106, 3) := by decide +kernel
theorem dX11_init_227 : decode cX11_init 227 = .ok (.aload_n 0, 1) := by decide +kernel
theorem dX11_init_228 : decode cX11_init 228 = .ok (.iconst 0, 1) := by decide +kernel
theorem dX11_init_229 : decode cX11_init 229 = .ok (.putfield 109, 3) := by decide +kernel
theorem dX11_init_232 : decode cX11_init 232 = .ok (.aload_n 0, 1) := by decide +kernel
theorem dX11_init_233 : decode cX11_init 233 = .ok (.iconst 1, 1) := by decide +kernel
theorem dX11_init_234 : decode cX11_init 234 = .ok (.putfield 112, 3) := by decide +kernel
theorem dX11_init_237 : decode cX11_init 237 = .ok (.aload_n 0, 1) := by decide +kernel
theorem dX11_init_238 : decode cX11_init 238 = .ok (.iconst 1, 1) := by decide +kernel
theorem dX11_init_239 : decode cX11_init 239 = .ok (.putfield 116, 3) := by decide +kernel
theorem dX11_init_242 : decode cX11_init 242 = .ok (.aload_n 0, 1) := by decide +kernel
theorem dX11_init_243 : decode cX11_init 243 = .ok (.getfield 27, 3) := by decide +kernel
theorem dX11_init_246 : decode cX11_init 246 = .ok (.iconst 0, 1) := by decide +kernel
theorem dX11_init_247 : decode cX11_init 247 = .ok (.iconst (-1), 1) := by decide +kernel
theorem dX11_init_248 : decode cX11_init 248 = .ok (.iastore, 1) := by decide +kernel
theorem dX11_init_249 : decode cX11_init 249 = .ok (.return_, 1) := by decide +kernel
set_option maxRecDepth 20000 in
theorem T_X11_init {Q : Option Value → ah_T → Prop} {h : ah_T} (t : Nat) (hk_t : ah_k h t = 11) (ht : (∀ w1, w1 = ah_x h → (∀ h3, h3 = ah_nw h 10 0 → (¬ t = ah_x h) ∧ (Mt nX10_init [.ref w1] h3 (ab_qv fun h9 => ah_k h9 t = 11 ∧ ah_k h9 w1 = 10 ∧ (∀ h14, h14 = ah_sr h9 t 0 (some w1) → (∀ w18, w18 = ah_x h14 → (∀ h20, h20 = ah_nw h14 18 2 → (¬ t = ah_x h14) ∧ (∀ h27, h27 = ah_sr h20 t 1 (some w18) → (∀ w31, w31 = ah_x h27 → (∀ h33, h33 = ah_nw h27 14 400 → (¬ t = ah_x h27) ∧ (∀ h40, h40 = ah_sr h33 t 2 (some w31) → (∀ w44, w44 = ah_x h40 → (∀ h46, h46 = ah_nw h40 14 5 → (¬ t = ah_x h40) ∧ (∀ h53, h53 = ah_sr h46 t 3 (some w44) → (∀ w57, w57 = ah_x h53 → (∀ h59, h59 = ah_nw h53 14 120 → (¬ t = ah_x h53) ∧ (∀ h66, h66 = ah_sr h59 t 4 (some w57) → (∀ w70, w70 = ah_x h66 → (∀ h72, h72 = ah_nw h66 5 0 → (¬ t = ah_x h66) ∧ (Mt nX5_init [.ref w70] h72 (ab_qv fun h78 => ah_k h78 t = 11 ∧ ah_k h78 w70 = 5 ∧ (∀ h83, h83 = ah_sr h78 t 5 (some w70) → (∀ w87, w87 = ah_x h83 → (∀ h89, h89 = ah_nw h83 2 0 → (¬ t = ah_x h83) ∧ (Mt nX2_init [.ref w87] h89 (ab_qv fun h95 => ah_k h95 t = 11 ∧ ah_k h95 w87 = 2 ∧ (∀ h100, h100 = ah_sr h95 t 6 (some w87) → (∀ w104, w104 = ah_x h100 → (∀ h106, h106 = ah_nw h100 6 0 → (¬ t = ah_x h100) ∧ (∃ b112, ah_r h106 t 0 = some b112 ∧ ah_k h106 b112 = 10 ∧ (Mt nX6_init [.ref w104, .ref b112] h106 (ab_qv fun h115 => ah_k h115 t = 11 ∧ ah_k h115 w104 = 6 ∧ ah_r h115 t 0 = some b112 ∧ ah_k h115 b112 = 10 ∧ (∀ h122, h122 = ah_sr h115 t 7 (some w104) → (∀ w126, w126 = ah_x h122 → (∀ h128, h128 = ah_nw h122 8 0 → (¬ t = ah_x h122) ∧ (∃ b134, ah_r h128 t 0 = some b134 ∧ ah_k h128 b134 = 10 ∧ (∃ b137, ah_r h128 t 6 = some b137 ∧ ah_k h128 b137 = 2 ∧ (∃ b140, ah_r h128 t 7 = some b140 ∧ ah_k h128 b140 = 6 ∧ (Mt nX8_init [.ref w126, .ref b134, .ref b137, .ref b140] h128 (ab_qv fun h143 => ah_k h143 t = 11 ∧ ah_k h143 w126 = 8 ∧ ah_r h143 t 0 = some b134 ∧ ah_k h143 b134 = 10 ∧ ah_r h143 t 6 = some b137 ∧ ah_k h143 b137 = 2 ∧ ah_r h143 t 7 = some b140 ∧ ah_k h143 b140 = 6 ∧ (∀ h154, h154 = ah_sr h143 t 8 (some w126) → (∀ w158, w158 = ah_x h154 → (∀ h160, h160 = ah_nw h154 3 0 → (¬ t = ah_x h154) ∧ (∃ b166, ah_r h160 t 0 = some b166 ∧ ah_k h160 b166 = 10 ∧ (∃ b169, ah_r h160 t 7 = some b169 ∧ ah_k h160 b169 = 6 ∧ (∃ b172, ah_r h160 t 8 = some b172 ∧ ah_k h160 b172 = 8 ∧ (Mt nX3_init [.ref w158, .ref b166, .ref b169, .ref b172] h160 (ab_qv fun h175 => ah_k h175 t = 11 ∧ ah_k h175 w158 = 3 ∧ ah_r h175 t 0 = some b166 ∧ ah_k h175 b166 = 10 ∧ ah_r h175 t 7 = some b169 ∧ ah_k h175 b169 = 6 ∧ ah_r h175 t 8 = some b172 ∧ ah_k h175 b172 = 8 ∧ (∀ h186, h186 = ah_sr h175 t 9 (some w158) → (∀ w190, w190 = ah_x h186 → (∀ h192, h192 = ah_nw h186 0 0 → (¬ t = ah_x h186) ∧ (∃ b198, ah_r h192 t 0 = some b198 ∧ ah_k h192 b198 = 10 ∧ (∃ b201, ah_r h192 t 7 = some b201 ∧ ah_k h192 b201 = 6 ∧ (∃ b204, ah_r h192 t 8 = some b204 ∧ ah_k h192 b204 = 8 ∧ (∃ b207, ah_r h192 t 9 = some b207 ∧ ah_k h192 b207 = 3 ∧ (Mt nX0_init [.ref w190, .ref b198, .ref b201, .ref b204, .ref b207] h192 (ab_qv fun h210 => ah_k h210 t = 11 ∧ ah_k h210 w190 = 0 ∧ ah_r h210 t 0 = some b198 ∧ ah_k h210 b198 = 10 ∧ ah_r h210 t 7 = some b201 ∧ ah_k h210 b201 = 6 ∧ ah_r h210 t 8 = some b204 ∧ ah_k h210 b204 = 8 ∧ ah_r h210 t 9 = some b207 ∧ ah_k h210 b207 = 3 ∧ (∀ h223, h223 = ah_sr h210 t 10 (some w190) → (∀ w227, w227 = ah_x h223 → (∀ h229, h229 = ah_nw h223 1 0 → (¬ t = ah_x h223) ∧ (∃ b235, ah_r h229 t 0 = some b235 ∧ ah_k h229 b235 = 10 ∧ (∃ b238, ah_r h229 t 7 = some b238 ∧ ah_k h229 b238 = 6 ∧ (∃ b241, ah_r h229 t 9 = some b241 ∧ ah_k h229 b241 = 3 ∧ (Mt nX1_init [.ref w227, .ref b235, .ref b238, .ref b241] h229 (ab_qv fun h244 => ah_k h244 t = 11 ∧ ah_k h244 w227 = 1 ∧ ah_r h244 t 0 = some b235 ∧ ah_k h244 b235 = 10 ∧ ah_r h244 t 7 = some b238 ∧ ah_k h244 b238 = 6 ∧ ah_r h244 t 9 = some b241 ∧ ah_k h244 b241 = 3 ∧ (∀ h255, h255 = ah_sr h244 t 11 (some w227) → (∀ w259, w259 = ah_x h255 → (∀ h261, h261 = ah_nw h255 4 0 → (¬ t = ah_x h255) ∧ (∃ b267, ah_r h261 t 0 = some b267 ∧ ah_k h261 b267 = 10 ∧ (∃ b270, ah_r h261 t 7 = some b270 ∧ ah_k h261 b270 = 6 ∧ (∃ b273, ah_r h261 t 8 = some b273 ∧ ah_k h261 b273 = 8 ∧ (∃ b276, ah_r h261 t 9 = some b276 ∧ ah_k h261 b276 = 3 ∧ (Mt nX4_init [.ref w259, .ref b267, .ref b270, .ref b273, .ref b276] h261 (ab_qv fun h279 => ah_k h279 t = 11 ∧ ah_k h279 w259 = 4 ∧ ah_r h279 t 0 = some b267 ∧ ah_k h279 b267 = 10 ∧ ah_r h279 t 7 = some b270 ∧ ah_k h279 b270 = 6 ∧ ah_r h279 t 8 = some b273 ∧ ah_k h279 b273 = 8 ∧ ah_r h279 t 9 = some b276 ∧ ah_k h279 b276 = 3 ∧ (∀ h292, h292 = ah_sr h279 t 12 (some w259) → (∀ h296, h296 = ah_si h292 t 13 0 → (∀ h300, h300 = ah_si h296 t 14 (-1) → (∀ h304, h304 = ah_si h300 t 15 0 → (∀ h308, h308 = ah_si h304 t 16 (-1) → (∀ h312, h312 = ah_si h308 t 17 0 → (∀ h316, h316 = ah_si h312 t 18 1 → (∀ h320, h320 = ah_si h316 t 19 1 → (∃ b324, ah_r h320 t 4 = some b324 ∧ ah_k h320 b324 = 14 ∧ (vp_in 0 (ah_n h320 b324)) ∧ (∀ h328, h328 = ah_si h320 b324 (Int32.toNatClampNeg 0) (-1) → Q none h328))))))))))))))))))))))))))))))))))))))))))))))))))))))))))))))))))))))))))))))))))))) : Mt nX11_init [.ref t] h Q := by
  refine Mt.ofWp rfl (by exact (Nat.le_of_ble_eq_true rfl)) (Wp.fewer (L' := [some (.ref t)]) (show ab_leL _ _ from ⟨rfl, trivial⟩) ?_)
  refine ab_aload_n (i := 0) dX11_init_0 rfl rfl ?_
  refine ab_obj (tb_1 (List.mem_of_getElem? (i := 27) (by decide +kernel)) rfl) in_obj co_obj (Nat.le_of_ble_eq_true rfl) (Nat.le_of_ble_eq_true rfl) dX11_init_1 ?_
  refine ab_aload_n (i := 0) dX11_init_4 rfl rfl ?_
  refine ab_new k_X11_7 (Nat.le_of_ble_eq_true rfl) (Nat.le_of_ble_eq_true rfl) dX11_init_5 ?_
  obtain ⟨w1, ew2⟩ : ∃ z, z = ah_x h := ⟨_, rfl⟩
  rw [← ew2]
  have ht := ht w1 ew2
  refine Wp.nm fun h3 e4 => ?_
  have ht := ht h3 e4
  have hc7 := ht.1
  have ht := ht.2
  have hk6 : ah_k h3 t = 11 := by rw [e4, ah_k_nw, if_neg hc7]; exact hk_t
  have hk8 : ah_k h3 w1 = 10 := by rw [e4, ew2, ah_k_nw, if_pos rfl]
  refine ab_dup dX11_init_8 rfl ?_
  refine ab_callI (b := w1) (As := []) ht (Y_X10_init) rfl rfl l_X11_9 in_X10_init rfl ⟨(Nat.le_of_ble_eq_true rfl), (Nat.le_of_ble_eq_true rfl), (Nat.le_of_ble_eq_true rfl), (Nat.le_of_ble_eq_true rfl)⟩ dX11_init_9 ?_
  rintro _ h9 ⟨rfl, hk12, hk13, ht⟩
  refine ab_putR (r := (some w1)) f_X11_10 (Or.inr ⟨rfl, rfl, rfl⟩) rfl hk12 (fun x => by cases x <;> rfl) (fun x => by cases x <;> rfl) dX11_init_12 ?_
  refine Wp.nm fun h14 e15 => ?_
  have ht := ht h14 e15
  have hk17 : ah_k h14 t = 11 := by rw [e15]; exact hk12
  refine ab_aload_n (i := 0) dX11_init_15 rfl rfl ?_
  refine ab_iconst (v := 2) dX11_init_16 (by decide) ?_
  refine ab_newq (N := 2) (CC := RX10) 18 5 (by decide) (tb_1 (List.mem_of_getElem? (i := 30) (by decide +kernel)) rfl) (by decide) (by decide) (by decide) (Nat.le_of_ble_eq_true rfl) (Nat.le_of_ble_eq_true rfl) dX11_init_17 ?_
  obtain ⟨w18, ew19⟩ : ∃ z, z = ah_x h14 := ⟨_, rfl⟩
  rw [← ew19]
  have ht := ht w18 ew19
  refine Wp.nm fun h20 e21 => ?_
  have ht := ht h20 e21
  have hc24 := ht.1
  have ht := ht.2
  have hk23 : ah_k h20 t = 11 := by rw [e21, ah_k_nw, if_neg hc24]; exact hk17
  have hk25 : ah_k h20 w18 = 18 := by rw [e21, ew19, ah_k_nw, if_pos rfl]
  have hn26 : ah_n h20 w18 = 2 := by rw [e21, ew19, ah_n_nw, if_pos rfl]
  refine ab_putR (r := (some w18)) f_X11_16 (Or.inr ⟨rfl, rfl, rfl⟩) rfl hk23 (fun x => by cases x <;> rfl) (fun x => by cases x <;> rfl) dX11_init_20 ?_
  refine Wp.nm fun h27 e28 => ?_
  have ht := ht h27 e28
  have hk30 : ah_k h27 t = 11 := by rw [e28]; exact hk23
  refine ab_aload_n (i := 0) dX11_init_23 rfl rfl ?_
  refine ab_sipush (v := 400) dX11_init_24 (by decide) ?_
  refine ab_newa (N := 400) 14 1 .int (by decide) rfl wa_int (by decide) (by decide) (by decide) (Nat.le_of_ble_eq_true rfl) (Nat.le_of_ble_eq_true rfl) dX11_init_27 ?_
  obtain ⟨w31, ew32⟩ : ∃ z, z = ah_x h27 := ⟨_, rfl⟩
  rw [← ew32]
  have ht := ht w31 ew32
  refine Wp.nm fun h33 e34 => ?_
  have ht := ht h33 e34
  have hc37 := ht.1
  have ht := ht.2
  have hk36 : ah_k h33 t = 11 := by rw [e34, ah_k_nw, if_neg hc37]; exact hk30
  have hk38 : ah_k h33 w31 = 14 := by rw [e34, ew32, ah_k_nw, if_pos rfl]
  have hn39 : ah_n h33 w31 = 400 := by rw [e34, ew32, ah_n_nw, if_pos rfl]
  refine ab_putR (r := (some w31)) f_X11_20 (Or.inr ⟨rfl, rfl, rfl⟩) rfl hk36 (fun x => by cases x <;> rfl) (fun x => by cases x <;> rfl) dX11_init_29 ?_
  refine Wp.nm fun h40 e41 => ?_
  have ht := ht h40 e41
  have hk43 : ah_k h40 t = 11 := by rw [e41]; exact hk36
  refine ab_aload_n (i := 0) dX11_init_32 rfl rfl ?_
  refine ab_iconst (v := 5) dX11_init_33 (by decide) ?_
  refine ab_newa (N := 5) 14 1 .int (by decide) rfl wa_int (by decide) (by decide) (by decide) (Nat.le_of_ble_eq_true rfl) (Nat.le_of_ble_eq_true rfl) dX11_init_34 ?_
  obtain ⟨w44, ew45⟩ : ∃ z, z = ah_x h40 := ⟨_, rfl⟩
  rw [← ew45]
  have ht := ht w44 ew45
  refine Wp.nm fun h46 e47 => ?_
  have ht := ht h46 e47
  have hc50 := ht.1
  have ht := ht.2
  have hk49 : ah_k h46 t = 11 := by rw [e47, ah_k_nw, if_neg hc50]; exact hk43
  have hk51 : ah_k h46 w44 = 14 := by rw [e47, ew45, ah_k_nw, if_pos rfl]
  have hn52 : ah_n h46 w44 = 5 := by rw [e47, ew45, ah_n_nw, if_pos rfl]
  refine ab_putR (r := (some w44)) f_X11_24 (Or.inr ⟨rfl, rfl, rfl⟩) rfl hk49 (fun x => by cases x <;> rfl) (fun x => by cases x <;> rfl) dX11_init_36 ?_
  refine Wp.nm fun h53 e54 => ?_
  have ht := ht h53 e54
  have hk56 : ah_k h53 t = 11 := by rw [e54]; exact hk49
  refine ab_aload_n (i := 0) dX11_init_39 rfl rfl ?_
  refine ab_bipush (v := 120) dX11_init_40 (by decide) ?_
  refine ab_newa (N := 120) 14 1 .int (by decide) rfl wa_int (by decide) (by decide) (by decide) (Nat.le_of_ble_eq_true rfl) (Nat.le_of_ble_eq_true rfl) dX11_init_42 ?_
  obtain ⟨w57, ew58⟩ : ∃ z, z = ah_x h53 := ⟨_, rfl⟩
  rw [← ew58]
  have ht := ht w57 ew58
  refine Wp.nm fun h59 e60 => ?_
  have ht := ht h59 e60
  have hc63 := ht.1
  have ht := ht.2
  have hk62 : ah_k h59 t = 11 := by rw [e60, ah_k_nw, if_neg hc63]; exact hk56
  have hk64 : ah_k h59 w57 = 14 := by rw [e60, ew58, ah_k_nw, if_pos rfl]
  have hn65 : ah_n h59 w57 = 120 := by rw [e60, ew58, ah_n_nw, if_pos rfl]
  refine ab_putR (r := (some w57)) f_X11_27 (Or.inr ⟨rfl, rfl, rfl⟩) rfl hk62 (fun x => by cases x <;> rfl) (fun x => by cases x <;> rfl) dX11_init_44 ?_
  refine Wp.nm fun h66 e67 => ?_
  have ht := ht h66 e67
  have hk69 : ah_k h66 t = 11 := by rw [e67]; exact hk62
  refine ab_aload_n (i := 0) dX11_init_47 rfl rfl ?_
  refine ab_new k_X11_30 (Nat.le_of_ble_eq_true rfl) (Nat.le_of_ble_eq_true rfl) dX11_init_48 ?_
  obtain ⟨w70, ew71⟩ : ∃ z, z = ah_x h66 := ⟨_, rfl⟩
  rw [← ew71]
  have ht := ht w70 ew71
  refine Wp.nm fun h72 e73 => ?_
  have ht := ht h72 e73
  have hc76 := ht.1
  have ht := ht.2
  have hk75 : ah_k h72 t = 11 := by rw [e73, ah_k_nw, if_neg hc76]; exact hk69
  have hk77 : ah_k h72 w70 = 5 := by rw [e73, ew71, ah_k_nw, if_pos rfl]
  refine ab_dup dX11_init_51 rfl ?_
  refine ab_callIN (b := w70) (As := []) ht (Y_X5_init) rfl rfl (fun g A s z => z.2.2.2.2.1) in_X5_init rfl ⟨(Nat.le_of_ble_eq_true rfl), (Nat.le_of_ble_eq_true rfl), (Nat.le_of_ble_eq_true rfl), (Nat.le_of_ble_eq_true rfl)⟩ dX11_init_52 ?_
  rintro _ h78 ⟨rfl, hk81, hk82, ht⟩
  refine ab_putR (r := (some w70)) f_X11_33 (Or.inr ⟨rfl, rfl, rfl⟩) rfl hk81 (fun x => by cases x <;> rfl) (fun x => by cases x <;> rfl) dX11_init_55 ?_
  refine Wp.nm fun h83 e84 => ?_
  have ht := ht h83 e84
  have hk86 : ah_k h83 t = 11 := by rw [e84]; exact hk81
  refine ab_aload_n (i := 0) dX11_init_58 rfl rfl ?_
  refine ab_new k_X11_37 (Nat.le_of_ble_eq_true rfl) (Nat.le_of_ble_eq_true rfl) dX11_init_59 ?_
  obtain ⟨w87, ew88⟩ : ∃ z, z = ah_x h83 := ⟨_, rfl⟩
  rw [← ew88]
  have ht := ht w87 ew88
  refine Wp.nm fun h89 e90 => ?_
  have ht := ht h89 e90
  have hc93 := ht.1
  have ht := ht.2
  have hk92 : ah_k h89 t = 11 := by rw [e90, ah_k_nw, if_neg hc93]; exact hk86
  have hk94 : ah_k h89 w87 = 2 := by rw [e90, ew88, ah_k_nw, if_pos rfl]
  refine ab_dup dX11_init_62 rfl ?_
  refine ab_callIN (b := w87) (As := []) ht (Y_X2_init) rfl rfl (fun g A s z => z.2.2.2.2.2.1) in_X2_init rfl ⟨(Nat.le_of_ble_eq_true rfl), (Nat.le_of_ble_eq_true rfl), (Nat.le_of_ble_eq_true rfl), (Nat.le_of_ble_eq_true rfl)⟩ dX11_init_63 ?_
  rintro _ h95 ⟨rfl, hk98, hk99, ht⟩
  refine ab_putR (r := (some w87)) f_X11_40 (Or.inr ⟨rfl, rfl, rfl⟩) rfl hk98 (fun x => by cases x <;> rfl) (fun x => by cases x <;> rfl) dX11_init_66 ?_
  refine Wp.nm fun h100 e101 => ?_
  have ht := ht h100 e101
  have hk103 : ah_k h100 t = 11 := by rw [e101]; exact hk98
  refine ab_aload_n (i := 0) dX11_init_69 rfl rfl ?_
  refine ab_new k_X11_44 (Nat.le_of_ble_eq_true rfl) (Nat.le_of_ble_eq_true rfl) dX11_init_70 ?_
  obtain ⟨w104, ew105⟩ : ∃ z, z = ah_x h100 := ⟨_, rfl⟩
  rw [← ew105]
  have ht := ht w104 ew105
  refine Wp.nm fun h106 e107 => ?_
  have ht := ht h106 e107
  have hc110 := ht.1
  have ht := ht.2
  have hk109 : ah_k h106 t = 11 := by rw [e107, ah_k_nw, if_neg hc110]; exact hk103
  have hk111 : ah_k h106 w104 = 6 := by rw [e107, ew105, ah_k_nw, if_pos rfl]
  refine ab_dup dX11_init_73 rfl ?_
  refine ab_aload_n (i := 0) dX11_init_74 rfl rfl ?_
  obtain ⟨b112, hr113, hk114, ht⟩ := ht
  refine ab_getR (b := b112) f_X11_10 rfl hk109 hr113 dX11_init_75 ?_
  refine ab_callI (b := w104) (As := [.ref b112]) ht (Y_X6_init) rfl rfl l_X11_46 in_X6_init rfl ⟨(Nat.le_of_ble_eq_true rfl), (Nat.le_of_ble_eq_true rfl), (Nat.le_of_ble_eq_true rfl), (Nat.le_of_ble_eq_true rfl)⟩ dX11_init_78 ?_
  rintro _ h115 ⟨rfl, hk118, hk119, hr120, hk121, ht⟩
  refine ab_putR (r := (some w104)) f_X11_49 (Or.inr ⟨rfl, rfl, rfl⟩) rfl hk118 (fun x => by cases x <;> rfl) (fun x => by cases x <;> rfl) dX11_init_81 ?_
  refine Wp.nm fun h122 e123 => ?_
  have ht := ht h122 e123
  have hk125 : ah_k h122 t = 11 := by rw [e123]; exact hk118
  refine ab_aload_n (i := 0) dX11_init_84 rfl rfl ?_
  refine ab_new k_X11_53 (Nat.le_of_ble_eq_true rfl) (Nat.le_of_ble_eq_true rfl) dX11_init_85 ?_
  obtain ⟨w126, ew127⟩ : ∃ z, z = ah_x h122 := ⟨_, rfl⟩
  rw [← ew127]
  have ht := ht w126 ew127
  refine Wp.nm fun h128 e129 => ?_
  have ht := ht h128 e129
  have hc132 := ht.1
  have ht := ht.2
  have hk131 : ah_k h128 t = 11 := by rw [e129, ah_k_nw, if_neg hc132]; exact hk125
  have hk133 : ah_k h128 w126 = 8 := by rw [e129, ew127, ah_k_nw, if_pos rfl]
  refine ab_dup dX11_init_88 rfl ?_
  refine ab_aload_n (i := 0) dX11_init_89 rfl rfl ?_
  obtain ⟨b134, hr135, hk136, ht⟩ := ht
  refine ab_getR (b := b134) f_X11_10 rfl hk131 hr135 dX11_init_90 ?_
  refine ab_aload_n (i := 0) dX11_init_93 rfl rfl ?_
  obtain ⟨b137, hr138, hk139, ht⟩ := ht
  refine ab_getR (b := b137) f_X11_40 rfl hk131 hr138 dX11_init_94 ?_
  refine ab_aload_n (i := 0) dX11_init_97 rfl rfl ?_
  obtain ⟨b140, hr141, hk142, ht⟩ := ht
  refine ab_getR (b := b140) f_X11_49 rfl hk131 hr141 dX11_init_98 ?_
  refine ab_callI (b := w126) (As := [.ref b134, .ref b137, .ref b140]) ht (Y_X8_init) rfl rfl l_X11_55 in_X8_init rfl ⟨(Nat.le_of_ble_eq_true rfl), (Nat.le_of_ble_eq_true rfl), (Nat.le_of_ble_eq_true rfl), (Nat.le_of_ble_eq_true rfl)⟩ dX11_init_101 ?_
  rintro _ h143 ⟨rfl, hk146, hk147, hr148, hk149, hr150, hk151, hr152, hk153, ht⟩
  refine ab_putR (r := (some w126)) f_X11_58 (Or.inr ⟨rfl, rfl, rfl⟩) rfl hk146 (fun x => by cases x <;> rfl) (fun x => by cases x <;> rfl) dX11_init_104 ?_
  refine Wp.nm fun h154 e155 => ?_
  have ht := ht h154 e155
  have hk157 : ah_k h154 t = 11 := by rw [e155]; exact hk146
  refine ab_aload_n (i := 0) dX11_init_107 rfl rfl ?_
  refine ab_new k_X11_62 (Nat.le_of_ble_eq_true rfl) (Nat.le_of_ble_eq_true rfl) dX11_init_108 ?_
  obtain ⟨w158, ew159⟩ : ∃ z, z = ah_x h154 := ⟨_, rfl⟩
  rw [← ew159]
  have ht := ht w158 ew159
  refine Wp.nm fun h160 e161 => ?_
  have ht := ht h160 e161
  have hc164 := ht.1
  have ht := ht.2
  have hk163 : ah_k h160 t = 11 := by rw [e161, ah_k_nw, if_neg hc164]; exact hk157
  have hk165 : ah_k h160 w158 = 3 := by rw [e161, ew159, ah_k_nw, if_pos rfl]
  refine ab_dup dX11_init_111 rfl ?_
  refine ab_aload_n (i := 0) dX11_init_112 rfl rfl ?_
  obtain ⟨b166, hr167, hk168, ht⟩ := ht
  refine ab_getR (b := b166) f_X11_10 rfl hk163 hr167 dX11_init_113 ?_
  refine ab_aload_n (i := 0) dX11_init_116 rfl rfl ?_
  obtain ⟨b169, hr170, hk171, ht⟩ := ht
  refine ab_getR (b := b169) f_X11_49 rfl hk163 hr170 dX11_init_117 ?_
  refine ab_aload_n (i := 0) dX11_init_120 rfl rfl ?_
  obtain ⟨b172, hr173, hk174, ht⟩ := ht
  refine ab_getR (b := b172) f_X11_58 rfl hk163 hr173 dX11_init_121 ?_
  refine ab_callI (b := w158) (As := [.ref b166, .ref b169, .ref b172]) ht (Y_X3_init) rfl rfl l_X11_64 in_X3_init rfl ⟨(Nat.le_of_ble_eq_true rfl), (Nat.le_of_ble_eq_true rfl), (Nat.le_of_ble_eq_true rfl), (Nat.le_of_ble_eq_true rfl)⟩ dX11_init_124 ?_
  rintro _ h175 ⟨rfl, hk178, hk179, hr180, hk181, hr182, hk183, hr184, hk185, ht⟩
  refine ab_putR (r := (some w158)) f_X11_67 (Or.inr ⟨rfl, rfl, rfl⟩) rfl hk178 (fun x => by cases x <;> rfl) (fun x => by cases x <;> rfl) dX11_init_127 ?_
  refine Wp.nm fun h186 e187 => ?_
  have ht := ht h186 e187
  have hk189 : ah_k h186 t = 11 := by rw [e187]; exact hk178
  refine ab_aload_n (i := 0) dX11_init_130 rfl rfl ?_
  refine ab_new k_X11_71 (Nat.le_of_ble_eq_true rfl) (Nat.le_of_ble_eq_true rfl) dX11_init_131 ?_
  obtain ⟨w190, ew191⟩ : ∃ z, z = ah_x h186 := ⟨_, rfl⟩
  rw [← ew191]
  have ht := ht w190 ew191
  refine Wp.nm fun h192 e193 => ?_
  have ht := ht h192 e193
  have hc196 := ht.1
  have ht := ht.2
  have hk195 : ah_k h192 t = 11 := by rw [e193, ah_k_nw, if_neg hc196]; exact hk189
  have hk197 : ah_k h192 w190 = 0 := by rw [e193, ew191, ah_k_nw, if_pos rfl]
  refine ab_dup dX11_init_134 rfl ?_
  refine ab_aload_n (i := 0) dX11_init_135 rfl rfl ?_
  obtain ⟨b198, hr199, hk200, ht⟩ := ht
  refine ab_getR (b := b198) f_X11_10 rfl hk195 hr199 dX11_init_136 ?_
  refine ab_aload_n (i := 0) dX11_init_139 rfl rfl ?_
  obtain ⟨b201, hr202, hk203, ht⟩ := ht
  refine ab_getR (b := b201) f_X11_49 rfl hk195 hr202 dX11_init_140 ?_
  refine ab_aload_n (i := 0) dX11_init_143 rfl rfl ?_
  obtain ⟨b204, hr205, hk206, ht⟩ := ht
  refine ab_getR (b := b204) f_X11_58 rfl hk195 hr205 dX11_init_144 ?_
  refine ab_aload_n (i := 0) dX11_init_147 rfl rfl ?_
  obtain ⟨b207, hr208, hk209, ht⟩ := ht
  refine ab_getR (b := b207) f_X11_67 rfl hk195 hr208 dX11_init_148 ?_
  refine ab_callI (b := w190) (As := [.ref b198, .ref b201, .ref b204, .ref b207]) ht (Y_X0_init) rfl rfl l_X11_73 in_X0_init rfl ⟨(Nat.le_of_ble_eq_true rfl), (Nat.le_of_ble_eq_true rfl), (Nat.le_of_ble_eq_true rfl), (Nat.le_of_ble_eq_true rfl)⟩ dX11_init_151 ?_
  rintro _ h210 ⟨rfl, hk213, hk214, hr215, hk216, hr217, hk218, hr219, hk220, hr221, hk222, ht⟩
  refine ab_putR (r := (some w190)) f_X11_76 (Or.inr ⟨rfl, rfl, rfl⟩) rfl hk213 (fun x => by cases x <;> rfl) (fun x => by cases x <;> rfl) dX11_init_154 ?_
  refine Wp.nm fun h223 e224 => ?_
  have ht := ht h223 e224
  have hk226 : ah_k h223 t = 11 := by rw [e224]; exact hk213
  refine ab_aload_n (i := 0) dX11_init_157 rfl rfl ?_
  refine ab_new k_X11_80 (Nat.le_of_ble_eq_true rfl) (Nat.le_of_ble_eq_true rfl) dX11_init_158 ?_
  obtain ⟨w227, ew228⟩ : ∃ z, z = ah_x h223 := ⟨_, rfl⟩
  rw [← ew228]
  have ht := ht w227 ew228
  refine Wp.nm fun h229 e230 => ?_
  have ht := ht h229 e230
  have hc233 := ht.1
  have ht := ht.2
  have hk232 : ah_k h229 t = 11 := by rw [e230, ah_k_nw, if_neg hc233]; exact hk226
  have hk234 : ah_k h229 w227 = 1 := by rw [e230, ew228, ah_k_nw, if_pos rfl]
  refine ab_dup dX11_init_161 rfl ?_
  refine ab_aload_n (i := 0) dX11_init_162 rfl rfl ?_
  obtain ⟨b235, hr236, hk237, ht⟩ := ht
  refine ab_getR (b := b235) f_X11_10 rfl hk232 hr236 dX11_init_163 ?_
  refine ab_aload_n (i := 0) dX11_init_166 rfl rfl ?_
  obtain ⟨b238, hr239, hk240, ht⟩ := ht
  refine ab_getR (b := b238) f_X11_49 rfl hk232 hr239 dX11_init_167 ?_
  refine ab_aload_n (i := 0) dX11_init_170 rfl rfl ?_
  obtain ⟨b241, hr242, hk243, ht⟩ := ht
  refine ab_getR (b := b241) f_X11_67 rfl hk232 hr242 dX11_init_171 ?_
  refine ab_callI (b := w227) (As := [.ref b235, .ref b238, .ref b241]) ht (Y_X1_init) rfl rfl l_X11_82 in_X1_init rfl ⟨(Nat.le_of_ble_eq_true rfl), (Nat.le_of_ble_eq_true rfl), (Nat.le_of_ble_eq_true rfl), (Nat.le_of_ble_eq_true rfl)⟩ dX11_init_174 ?_
  rintro _ h244 ⟨rfl, hk247, hk248, hr249, hk250, hr251, hk252, hr253, hk254, ht⟩
  refine ab_putR (r := (some w227)) f_X11_85 (Or.inr ⟨rfl, rfl, rfl⟩) rfl hk247 (fun x => by cases x <;> rfl) (fun x => by cases x <;> rfl) dX11_init_177 ?_
  refine Wp.nm fun h255 e256 => ?_
  have ht := ht h255 e256
  have hk258 : ah_k h255 t = 11 := by rw [e256]; exact hk247
  refine ab_aload_n (i := 0) dX11_init_180 rfl rfl ?_
  refine ab_new k_X11_89 (Nat.le_of_ble_eq_true rfl) (Nat.le_of_ble_eq_true rfl) dX11_init_181 ?_
  obtain ⟨w259, ew260⟩ : ∃ z, z = ah_x h255 := ⟨_, rfl⟩
  rw [← ew260]
  have ht := ht w259 ew260
  refine Wp.nm fun h261 e262 => ?_
  have ht := ht h261 e262
  have hc265 := ht.1
  have ht := ht.2
  have hk264 : ah_k h261 t = 11 := by rw [e262, ah_k_nw, if_neg hc265]; exact hk258
  have hk266 : ah_k h261 w259 = 4 := by rw [e262, ew260, ah_k_nw, if_pos rfl]
  refine ab_dup dX11_init_184 rfl ?_
  refine ab_aload_n (i := 0) dX11_init_185 rfl rfl ?_
  obtain ⟨b267, hr268, hk269, ht⟩ := ht
  refine ab_getR (b := b267) f_X11_10 rfl hk264 hr268 dX11_init_186 ?_
  refine ab_aload_n (i := 0) dX11_init_189 rfl rfl ?_
  obtain ⟨b270, hr271, hk272, ht⟩ := ht
  refine ab_getR (b := b270) f_X11_49 rfl hk264 hr271 dX11_init_190 ?_
  refine ab_aload_n (i := 0) dX11_init_193 rfl rfl ?_
  obtain ⟨b273, hr274, hk275, ht⟩ := ht
  refine ab_getR (b := b273) f_X11_58 rfl hk264 hr274 dX11_init_194 ?_
  refine ab_aload_n (i := 0) dX11_init_197 rfl rfl ?_
  obtain ⟨b276, hr277, hk278, ht⟩ := ht
  refine ab_getR (b := b276) f_X11_67 rfl hk264 hr277 dX11_init_198 ?_
  refine ab_callI (b := w259) (As := [.ref b267, .ref b270, .ref b273, .ref b276]) ht (Y_X4_init) rfl rfl l_X11_91 in_X4_init rfl ⟨(Nat.le_of_ble_eq_true rfl), (Nat.le_of_ble_eq_true rfl), (Nat.le_of_ble_eq_true rfl), (Nat.le_of_ble_eq_true rfl)⟩ dX11_init_201 ?_
  rintro _ h279 ⟨rfl, hk282, hk283, hr284, hk285, hr286, hk287, hr288, hk289, hr290, hk291, ht⟩
  refine ab_putR (r := (some w259)) f_X11_92 (Or.inr ⟨rfl, rfl, rfl⟩) rfl hk282 (fun x => by cases x <;> rfl) (fun x => by cases x <;> rfl) dX11_init_204 ?_
  refine Wp.nm fun h292 e293 => ?_
  have ht := ht h292 e293
  have hk295 : ah_k h292 t = 11 := by rw [e293]; exact hk282
  refine ab_aload_n (i := 0) dX11_init_207 rfl rfl ?_
  refine ab_iconst (v := 0) dX11_init_208 (by decide) ?_
  refine ab_putI f_X11_96 (Or.inl rfl) rfl hk295 rfl rfl dX11_init_209 ?_
  refine Wp.nm fun h296 e297 => ?_
  have ht := ht h296 e297
  have hk299 : ah_k h296 t = 11 := by rw [e297]; exact hk295
  refine ab_aload_n (i := 0) dX11_init_212 rfl rfl ?_
  refine ab_iconst (v := (-1)) dX11_init_213 (by decide) ?_
  refine ab_putI f_X11_100 (Or.inl rfl) rfl hk299 rfl rfl dX11_init_214 ?_
  refine Wp.nm fun h300 e301 => ?_
  have ht := ht h300 e301
  have hk303 : ah_k h300 t = 11 := by rw [e301]; exact hk299
  refine ab_aload_n (i := 0) dX11_init_217 rfl rfl ?_
  refine ab_iconst (v := 0) dX11_init_218 (by decide) ?_
  refine ab_putI f_X11_103 (Or.inl rfl) rfl hk303 rfl rfl dX11_init_219 ?_
  refine Wp.nm fun h304 e305 => ?_
  have ht := ht h304 e305
  have hk307 : ah_k h304 t = 11 := by rw [e305]; exact hk303
  refine ab_aload_n (i := 0) dX11_init_222 rfl rfl ?_
  refine ab_iconst (v := (-1)) dX11_init_223 (by decide) ?_
  refine ab_putI f_X11_106 (Or.inl rfl) rfl hk307 rfl rfl dX11_init_224 ?_
  refine Wp.nm fun h308 e309 => ?_
  have ht := ht h308 e309
  have hk311 : ah_k h308 t = 11 := by rw [e309]; exact hk307
  refine ab_aload_n (i := 0) dX11_init_227 rfl rfl ?_
  refine ab_iconst (v := 0) dX11_init_228 (by decide) ?_
  refine ab_putI f_X11_109 (Or.inl rfl) rfl hk311 rfl rfl dX11_init_229 ?_
  refine Wp.nm fun h312 e313 => ?_
  have ht := ht h312 e313
  have hk315 : ah_k h312 t = 11 := by rw [e313]; exact hk311
  refine ab_aload_n (i := 0) dX11_init_232 rfl rfl ?_
  refine ab_iconst (v := 1) dX11_init_233 (by decide) ?_
  refine ab_putI f_X11_112 (Or.inl rfl) rfl hk315 rfl rfl dX11_init_234 ?_
  refine Wp.nm fun h316 e317 => ?_
  have ht := ht h316 e317
  have hk319 : ah_k h316 t = 11 := by rw [e317]; exact hk315
  refine ab_aload_n (i := 0) dX11_init_237 rfl rfl ?_
  refine ab_iconst (v := 1) dX11_init_238 (by decide) ?_
  refine ab_putI f_X11_116 (Or.inl rfl) rfl hk319 rfl rfl dX11_init_239 ?_
  refine Wp.nm fun h320 e321 => ?_
  have ht := ht h320 e321
  have hk323 : ah_k h320 t = 11 := by rw [e321]; exact hk319
  refine ab_aload_n (i := 0) dX11_init_242 rfl rfl ?_
  obtain ⟨b324, hr325, hk326, ht⟩ := ht
  refine ab_getR (b := b324) f_X11_27 rfl hk323 hr325 dX11_init_243 ?_
  refine ab_iconst (v := 0) dX11_init_246 (by decide) ?_
  refine ab_iconst (v := (-1)) dX11_init_247 (by decide) ?_
  obtain ⟨hc327, ht⟩ := ht
  refine ab_iast hk326 hc327 dX11_init_248 ?_
  refine Wp.nm fun h328 e329 => ?_
  have ht := ht h328 e329
  have hk331 : ah_k h328 t = 11 := by rw [e329]; exact hk323
  exact ab_vret rfl dX11_init_249 (Nat.le_of_ble_eq_true rfl) (by first | exact (Nat.le_of_ble_eq_true rfl) | assumption) ht
