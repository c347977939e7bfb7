/-! ===== pure methods: their terms, contracts (printed by wip/whole/gen.py) ===== -/
theorem in_m : Cond.initialized "java/lang/Math" ∈ lw_T := tb_1 (List.mem_of_getElem? (i := 13) (by decide +kernel)) rfl
theorem st_mmax : Cond.static Lib.Math.max.name ∈ lw_T := st_J9_max_7cf53
set_option maxRecDepth 100000 in
theorem co_mmax : Cond.code Lib.Math.max.name Lib.Math.max.code 2 (some .int) ∈ lw_T := tb_3 (List.mem_of_getElem? (i := 138) rfl) rfl
theorem ab_mmax {M : ab_M} {Q : Option Value → ah_T → Prop} {c0 s0 pc : Nat} {L : List (Option Value)} {st : List Value} {h : ah_T} {index : Nat} {x y : Int32} (hl : Cond.methodLink M.1.cls index Lib.Math.max.name ∈ lw_T) (hst : Cond.static Lib.Math.max.name ∈ lw_T) (hini : Cond.initialized "java/lang/Math" ∈ lw_T) (hco : Cond.code Lib.Math.max.name Lib.Math.max.code 2 (some .int) ∈ lw_T) (hd : 1 ≤ M.2.2.2.2.1) (hr : (st.map fun v => v.category).sum ≤ 20) (hc : c0 ≤ M.2.2.2.2.2.1) (hs : s0 ≤ M.2.2.2.2.2.2) (d : decode M.2.1 pc = .ok (.invokestatic index, 3)) (kk : Wp M Q c0 s0 (pc + 3) L (.int (if x < y then y else x) :: st) h) : Wp M Q c0 s0 pc L (.int y :: .int x :: st) h := by
  intro p l e s m args below meth c g A σ0 n0 C σ H locs ls S
  obtain ⟨s1, s2, s3, s4, s5, s6, s7, s8⟩ := S
  have hts : ∀ w ∈ lw_T, w.before args s = true := fun w hw => C.2.2.2.2.2.2.1 w (List.mem_cons_of_mem _ hw)
  exact va_mmax (own := M.1.cls) C.1 C.2.1 (C.2.2.1.trans s6.1.symm) C.2.2.2.2.2.1 (hts _ hl) (hts _ hst) (hts _ hini) (hts _ hco) hd (by
    show ((st.map (ab_v σ)).map fun v => v.category).sum + 13 ≤ 60 * M.2.2.2.2.1
    rw [ab_cat_map]; omega) hc hs d (kk p l e s m args below meth c g A σ0 n0 C σ H locs ls ⟨s1, s2, s3, s4, s5, s6, ⟨trivial, s7.2.2⟩, s8⟩)
theorem st_mmin : Cond.static Lib.Math.min.name ∈ lw_T := st_J9_min_7cf53
set_option maxRecDepth 100000 in
theorem co_mmin : Cond.code Lib.Math.min.name Lib.Math.min.code 2 (some .int) ∈ lw_T := tb_3 (List.mem_of_getElem? (i := 135) rfl) rfl
theorem ab_mmin {M : ab_M} {Q : Option Value → ah_T → Prop} {c0 s0 pc : Nat} {L : List (Option Value)} {st : List Value} {h : ah_T} {index : Nat} {x y : Int32} (hl : Cond.methodLink M.1.cls index Lib.Math.min.name ∈ lw_T) (hst : Cond.static Lib.Math.min.name ∈ lw_T) (hini : Cond.initialized "java/lang/Math" ∈ lw_T) (hco : Cond.code Lib.Math.min.name Lib.Math.min.code 2 (some .int) ∈ lw_T) (hd : 1 ≤ M.2.2.2.2.1) (hr : (st.map fun v => v.category).sum ≤ 20) (hc : c0 ≤ M.2.2.2.2.2.1) (hs : s0 ≤ M.2.2.2.2.2.2) (d : decode M.2.1 pc = .ok (.invokestatic index, 3)) (kk : Wp M Q c0 s0 (pc + 3) L (.int (if y < x then y else x) :: st) h) : Wp M Q c0 s0 pc L (.int y :: .int x :: st) h := by
  intro p l e s m args below meth c g A σ0 n0 C σ H locs ls S
  obtain ⟨s1, s2, s3, s4, s5, s6, s7, s8⟩ := S
  have hts : ∀ w ∈ lw_T, w.before args s = true := fun w hw => C.2.2.2.2.2.2.1 w (List.mem_cons_of_mem _ hw)
  exact va_mmin (own := M.1.cls) C.1 C.2.1 (C.2.2.1.trans s6.1.symm) C.2.2.2.2.2.1 (hts _ hl) (hts _ hst) (hts _ hini) (hts _ hco) hd (by
    show ((st.map (ab_v σ)).map fun v => v.category).sum + 13 ≤ 60 * M.2.2.2.2.1
    rw [ab_cat_map]; omega) hc hs d (kk p l e s m args below meth c g A σ0 n0 C σ H locs ls ⟨s1, s2, s3, s4, s5, s6, ⟨trivial, s7.2.2⟩, s8⟩)
theorem dX3_cameLater_0 : decode cX3_cameLater 0 = .ok (.aload_n 0, 1) := by decide +kernel
theorem dX3_cameLater_1 : decode cX3_cameLater 1 = .ok (.getfield 25, 3) := by decide +kernel
theorem dX3_cameLater_4 : decode cX3_cameLater 4 = .ok (.iload_n 1, 1) := by decide +kernel
theorem dX3_cameLater_5 : decode cX3_cameLater 5 = .ok (.iaload, 1) := by decide +kernel
theorem dX3_cameLater_6 : decode cX3_cameLater 6 = .ok (.aload_n 0, 1) := by decide +kernel
theorem dX3_cameLater_7 : decode cX3_cameLater 7 = .ok (.getfield 25, 3) := by decide +kernel
theorem dX3_cameLater_10 : decode cX3_cameLater 10 = .ok (.iload_n 2, 1) := by decide +kernel
theorem dX3_cameLater_11 : decode cX3_cameLater 11 = .ok (.iaload, 1) := by decide +kernel
theorem dX3_cameLater_12 : decode cX3_cameLater 12 = .ok (.if_icmp .gt 23, 3) := by decide +kernel
theorem dX3_cameLater_15 : decode cX3_cameLater 15 = .ok (.aload_n 0, 1) := by decide +kernel
theorem dX3_cameLater_16 : decode cX3_cameLater 16 = .ok (.getfield 25, 3) := by decide +kernel
theorem dX3_cameLater_19 : decode cX3_cameLater 19 = .ok (.iload_n 1, 1) := by decide +kernel
theorem dX3_cameLater_20 : decode cX3_cameLater 20 = .ok (.iaload, 1) := by decide +kernel
theorem dX3_cameLater_21 : decode cX3_cameLater 21 = .ok (.aload_n 0, 1) := by decide +kernel
theorem dX3_cameLater_22 : decode cX3_cameLater 22 = .ok (.getfield 25, 3) := by decide +kernel
theorem dX3_cameLater_25 : decode cX3_cameLater 25 = .ok (.iload_n 2, 1) := by decide +kernel
theorem dX3_cameLater_26 : decode cX3_cameLater 26 = .ok (.iaload, 1) := by decide +kernel
theorem dX3_cameLater_27 : decode cX3_cameLater 27 = .ok (.if_icmp .ne 12, 3) := by decide +kernel
theorem dX3_cameLater_30 : decode cX3_cameLater 30 = .ok (.iload_n 1, 1) := by decide +kernel
theorem dX3_cameLater_31 : decode cX3_cameLater 31 = .ok (.iload_n 2, 1) := by decide +kernel
theorem dX3_cameLater_32 : decode cX3_cameLater 32 = .ok (.if_icmp .le 7, 3) := by decide +kernel
theorem dX3_cameLater_35 : decode cX3_cameLater 35 = .ok (.iconst 1, 1) := by decide +kernel
theorem dX3_cameLater_36 : decode cX3_cameLater 36 = .ok (.goto 4, 3) := by decide +kernel
theorem dX3_cameLater_39 : decode cX3_cameLater 39 = .ok (.iconst 0, 1) := by decide +kernel
theorem dX3_cameLater_40 : decode cX3_cameLater 40 = .ok (.ireturn, 1) := by decide +kernel
def f_X3_cameLater (h : ah_T) (x1 : Int32) (x2 : Int32) : Int32 := (if (ah_i h 47 (Int32.toNatClampNeg x2)) < (ah_i h 47 (Int32.toNatClampNeg x1)) then 1 else (if (ah_i h 47 (Int32.toNatClampNeg x1)) = (ah_i h 47 (Int32.toNatClampNeg x2)) then (if x1 ≤ x2 then 0 else 1) else 0))
set_option maxRecDepth 20000 in
theorem T_X3_cameLater {Q : Option Value → ah_T → Prop} {h : ah_T} (hs : Sh h) (x1 : Int32) (x2 : Int32) (ht : (vp_in x1 (ah_n h 47)) ∧ (vp_in x2 (ah_n h 47)) ∧ (((ah_i h 47 (Int32.toNatClampNeg x2)) < (ah_i h 47 (Int32.toNatClampNeg x1)) → Q (some (.int 1)) h) ∧ (¬ (ah_i h 47 (Int32.toNatClampNeg x2)) < (ah_i h 47 (Int32.toNatClampNeg x1)) → (vp_in x1 (ah_n h 47)) ∧ (vp_in x2 (ah_n h 47)) ∧ ((¬ (ah_i h 47 (Int32.toNatClampNeg x1)) = (ah_i h 47 (Int32.toNatClampNeg x2)) → Q (some (.int 0)) h) ∧ ((ah_i h 47 (Int32.toNatClampNeg x1)) = (ah_i h 47 (Int32.toNatClampNeg x2)) → ((x1 ≤ x2 → Q (some (.int 0)) h) ∧ (¬ x1 ≤ x2 → Q (some (.int 1)) h))))))) : Mt mX3_cameLater [.ref 43, .int x1, .int x2] h Q := by
  refine Mt.ofWp rfl (by exact (Nat.le_of_ble_eq_true rfl)) (Wp.fewer (L' := [some (.ref 43), some (.int x1), some (.int x2)]) (show ab_leL _ _ from ⟨rfl, ⟨rfl, ⟨rfl, trivial⟩⟩⟩) ?_)
  refine ab_aload_n (i := 0) dX3_cameLater_0 rfl rfl ?_
  refine ab_getR (b := 47) f_X3_25 rfl (sh_k hs 43 3 (by decide) rfl) (sh_r hs 53 rfl) dX3_cameLater_1 ?_
  refine ab_iload_n (i := 1) dX3_cameLater_4 rfl rfl ?_
  obtain ⟨hc1, ht⟩ := ht
  refine ab_iald (sh_k hs 47 14 (by decide) rfl) hc1 dX3_cameLater_5 ?_
  refine ab_aload_n (i := 0) dX3_cameLater_6 rfl rfl ?_
  refine ab_getR (b := 47) f_X3_25 rfl (sh_k hs 43 3 (by decide) rfl) (sh_r hs 53 rfl) dX3_cameLater_7 ?_
  refine ab_iload_n (i := 2) dX3_cameLater_10 rfl rfl ?_
  obtain ⟨hc2, ht⟩ := ht
  refine ab_iald (sh_k hs 47 14 (by decide) rfl) hc2 dX3_cameLater_11 ?_
  refine ab_icmp_gt (tgt := 35) dX3_cameLater_12 (by decide) (fun c3 => ?_) (fun c3 => ?_)
  · have ht := ht.1 c3
    refine ab_iconst (v := 1) dX3_cameLater_35 (by decide) ?_
    refine ab_goto (tgt := 40) dX3_cameLater_36 (by decide) ?_
    exact ab_zret rfl rfl dX3_cameLater_40 (Nat.le_of_ble_eq_true rfl) (Nat.le_of_ble_eq_true rfl) ht
  · have ht := ht.2 c3
    refine ab_aload_n (i := 0) dX3_cameLater_15 rfl rfl ?_
    refine ab_getR (b := 47) f_X3_25 rfl (sh_k hs 43 3 (by decide) rfl) (sh_r hs 53 rfl) dX3_cameLater_16 ?_
    refine ab_iload_n (i := 1) dX3_cameLater_19 rfl rfl ?_
    obtain ⟨hc4, ht⟩ := ht
    refine ab_iald (sh_k hs 47 14 (by decide) rfl) hc4 dX3_cameLater_20 ?_
    refine ab_aload_n (i := 0) dX3_cameLater_21 rfl rfl ?_
    refine ab_getR (b := 47) f_X3_25 rfl (sh_k hs 43 3 (by decide) rfl) (sh_r hs 53 rfl) dX3_cameLater_22 ?_
    refine ab_iload_n (i := 2) dX3_cameLater_25 rfl rfl ?_
    obtain ⟨hc5, ht⟩ := ht
    refine ab_iald (sh_k hs 47 14 (by decide) rfl) hc5 dX3_cameLater_26 ?_
    refine ab_icmp_ne (tgt := 39) dX3_cameLater_27 (by decide) (fun c6 => ?_) (fun c6 => ?_)
    · have ht := ht.1 c6
      refine ab_iconst (v := 0) dX3_cameLater_39 (by decide) ?_
      exact ab_zret rfl rfl dX3_cameLater_40 (Nat.le_of_ble_eq_true rfl) (Nat.le_of_ble_eq_true rfl) ht
    · have ht := ht.2 c6
      refine ab_iload_n (i := 1) dX3_cameLater_30 rfl rfl ?_
      refine ab_iload_n (i := 2) dX3_cameLater_31 rfl rfl ?_
      refine ab_icmp_le (tgt := 39) dX3_cameLater_32 (by decide) (fun c7 => ?_) (fun c7 => ?_)
      · have ht := ht.1 c7
        refine ab_iconst (v := 0) dX3_cameLater_39 (by decide) ?_
        exact ab_zret rfl rfl dX3_cameLater_40 (Nat.le_of_ble_eq_true rfl) (Nat.le_of_ble_eq_true rfl) ht
      · have ht := ht.2 c7
        refine ab_iconst (v := 1) dX3_cameLater_35 (by decide) ?_
        refine ab_goto (tgt := 40) dX3_cameLater_36 (by decide) ?_
        exact ab_zret rfl rfl dX3_cameLater_40 (Nat.le_of_ble_eq_true rfl) (Nat.le_of_ble_eq_true rfl) ht
theorem c_X3_cameLater {Q : Option Value → ah_T → Prop} {h : ah_T} (hs : Sh h) (x1 : Int32) (x2 : Int32) (ok0 : vp_in x1 (ah_n h 47)) (ok1 : vp_in x2 (ah_n h 47)) (ok2 : (¬ (ah_i h 47 (Int32.toNatClampNeg x2)) < (ah_i h 47 (Int32.toNatClampNeg x1)) → vp_in x1 (ah_n h 47))) (ok3 : (¬ (ah_i h 47 (Int32.toNatClampNeg x2)) < (ah_i h 47 (Int32.toNatClampNeg x1)) → vp_in x2 (ah_n h 47))) (hq : Q (some (.int (f_X3_cameLater h x1 x2))) h) : Mt mX3_cameLater [.ref 43, .int x1, .int x2] h Q := by
  refine T_X3_cameLater hs x1 x2 ?_
  refine ⟨ok0, ?_⟩
  refine ⟨ok1, ?_⟩
  refine ⟨fun c3 => ?_, fun c3 => ?_⟩
  ·
    simpa only [f_X3_cameLater, if_pos c3] using hq
  ·
    refine ⟨ok2 c3, ?_⟩
    refine ⟨ok3 c3, ?_⟩
    refine ⟨fun c6 => ?_, fun c6 => ?_⟩
    ·
      simpa only [f_X3_cameLater, if_neg c3, if_neg c6] using hq
    ·
      refine ⟨fun c7 => ?_, fun c7 => ?_⟩
      ·
        simpa only [f_X3_cameLater, if_neg c3, if_pos c6, if_pos c7] using hq
      ·
        simpa only [f_X3_cameLater, if_neg c3, if_pos c6, if_neg c7] using hq
theorem b_X3_cameLater {h : ah_T} {x1 : Int32} {x2 : Int32} : ab_b (f_X3_cameLater h x1 x2) := by
  unfold f_X3_cameLater
  repeat' split
  all_goals first | exact ab_b0 | exact ab_b1
theorem dX5_kindOf_0 : decode cX5_kindOf 0 = .ok (.iload_n 0, 1) := by decide +kernel
theorem dX5_kindOf_1 : decode cX5_kindOf 1 = .ok (.bipush 32, 2) := by decide +kernel
theorem dX5_kindOf_3 : decode cX5_kindOf 3 = .ok (.if_icmp .ne 5, 3) := by decide +kernel
theorem dX5_kindOf_6 : decode cX5_kindOf 6 = .ok (.iconst 0, 1) := by decide +kernel
theorem dX5_kindOf_7 : decode cX5_kindOf 7 = .ok (.ireturn, 1) := by decide +kernel
theorem dX5_kindOf_8 : decode cX5_kindOf 8 = .ok (.iload_n 0, 1) := by decide +kernel
theorem dX5_kindOf_9 : decode cX5_kindOf 9 = .ok (.bipush 48, 2) := by decide +kernel
theorem dX5_kindOf_11 : decode cX5_kindOf 11 = .ok (.if_icmp .lt 13, 3) := by decide +kernel
theorem dX5_kindOf_14 : decode cX5_kindOf 14 = .ok (.iload_n 0, 1) := by decide +kernel
theorem dX5_kindOf_15 : decode cX5_kindOf 15 = .ok (.bipush 57, 2) := by decide +kernel
theorem dX5_kindOf_17 : decode cX5_kindOf 17 = .ok (.if_icmp .gt 7, 3) := by decide +kernel
theorem dX5_kindOf_20 : decode cX5_kindOf 20 = .ok (.iconst 2, 1) := by decide +kernel
theorem dX5_kindOf_21 : decode cX5_kindOf 21 = .ok (.goto 20, 3) := by decide +kernel
theorem dX5_kindOf_24 : decode cX5_kindOf 24 = .ok (.iload_n 0, 1) := by decide +kernel
theorem dX5_kindOf_25 : decode cX5_kindOf 25 = .ok (.bipush 97, 2) := by decide +kernel
theorem dX5_kindOf_27 : decode cX5_kindOf 27 = .ok (.if_icmp .lt 13, 3) := by decide +kernel
theorem dX5_kindOf_30 : decode cX5_kindOf 30 = .ok (.iload_n 0, 1) := by decide +kernel
theorem dX5_kindOf_31 : decode cX5_kindOf 31 = .ok (.bipush 122, 2) := by decide +kernel
theorem dX5_kindOf_33 : decode cX5_kindOf 33 = .ok (.if_icmp .gt 7, 3) := by decide +kernel
theorem dX5_kindOf_36 : decode cX5_kindOf 36 = .ok (.iconst 3, 1) := by decide +kernel
theorem dX5_kindOf_37 : decode cX5_kindOf 37 = .ok (.goto 4, 3) := by decide +kernel
theorem dX5_kindOf_40 : decode cX5_kindOf 40 = .ok (.iconst 1, 1) := by decide +kernel
theorem dX5_kindOf_41 : decode cX5_kindOf 41 = .ok (.ireturn, 1) := by decide +kernel
def f_X5_kindOf (x0 : Int32) : Int32 := (if x0 = 32 then 0 else (if x0 < 48 then (if x0 < 97 then 1 else (if 122 < x0 then 1 else 3)) else (if 57 < x0 then (if x0 < 97 then 1 else (if 122 < x0 then 1 else 3)) else 2)))
set_option maxRecDepth 20000 in
theorem T_X5_kindOf {Q : Option Value → ah_T → Prop} {h : ah_T} (hs : Sh h) (x0 : Int32) (ht : ((¬ x0 = 32 → ((x0 < 48 → ((x0 < 97 → Q (some (.int 1)) h) ∧ (¬ x0 < 97 → ((122 < x0 → Q (some (.int 1)) h) ∧ (¬ 122 < x0 → Q (some (.int 3)) h))))) ∧ (¬ x0 < 48 → ((57 < x0 → ((x0 < 97 → Q (some (.int 1)) h) ∧ (¬ x0 < 97 → ((122 < x0 → Q (some (.int 1)) h) ∧ (¬ 122 < x0 → Q (some (.int 3)) h))))) ∧ (¬ 57 < x0 → Q (some (.int 2)) h))))) ∧ (x0 = 32 → Q (some (.int 0)) h))) : Mt mX5_kindOf [.int x0] h Q := by
  refine Mt.ofWp rfl (by exact (Nat.le_of_ble_eq_true rfl)) (Wp.fewer (L' := [some (.int x0)]) (show ab_leL _ _ from ⟨rfl, trivial⟩) ?_)
  refine ab_iload_n (i := 0) dX5_kindOf_0 rfl rfl ?_
  refine ab_bipush (v := 32) dX5_kindOf_1 (by decide) ?_
  refine ab_icmp_ne (tgt := 8) dX5_kindOf_3 (by decide) (fun c1 => ?_) (fun c1 => ?_)
  · have ht := ht.1 c1
    refine ab_iload_n (i := 0) dX5_kindOf_8 rfl rfl ?_
    refine ab_bipush (v := 48) dX5_kindOf_9 (by decide) ?_
    refine ab_icmp_lt (tgt := 24) dX5_kindOf_11 (by decide) (fun c2 => ?_) (fun c2 => ?_)
    · have ht := ht.1 c2
      refine ab_iload_n (i := 0) dX5_kindOf_24 rfl rfl ?_
      refine ab_bipush (v := 97) dX5_kindOf_25 (by decide) ?_
      refine ab_icmp_lt (tgt := 40) dX5_kindOf_27 (by decide) (fun c3 => ?_) (fun c3 => ?_)
      · have ht := ht.1 c3
        refine ab_iconst (v := 1) dX5_kindOf_40 (by decide) ?_
        exact ab_iret rfl dX5_kindOf_41 (Nat.le_of_ble_eq_true rfl) (Nat.le_of_ble_eq_true rfl) ht
      · have ht := ht.2 c3
        refine ab_iload_n (i := 0) dX5_kindOf_30 rfl rfl ?_
        refine ab_bipush (v := 122) dX5_kindOf_31 (by decide) ?_
        refine ab_icmp_gt (tgt := 40) dX5_kindOf_33 (by decide) (fun c4 => ?_) (fun c4 => ?_)
        · have ht := ht.1 c4
          refine ab_iconst (v := 1) dX5_kindOf_40 (by decide) ?_
          exact ab_iret rfl dX5_kindOf_41 (Nat.le_of_ble_eq_true rfl) (Nat.le_of_ble_eq_true rfl) ht
        · have ht := ht.2 c4
          refine ab_iconst (v := 3) dX5_kindOf_36 (by decide) ?_
          refine ab_goto (tgt := 41) dX5_kindOf_37 (by decide) ?_
          exact ab_iret rfl dX5_kindOf_41 (Nat.le_of_ble_eq_true rfl) (Nat.le_of_ble_eq_true rfl) ht
    · have ht := ht.2 c2
      refine ab_iload_n (i := 0) dX5_kindOf_14 rfl rfl ?_
      refine ab_bipush (v := 57) dX5_kindOf_15 (by decide) ?_
      refine ab_icmp_gt (tgt := 24) dX5_kindOf_17 (by decide) (fun c5 => ?_) (fun c5 => ?_)
      · have ht := ht.1 c5
        refine ab_iload_n (i := 0) dX5_kindOf_24 rfl rfl ?_
        refine ab_bipush (v := 97) dX5_kindOf_25 (by decide) ?_
        refine ab_icmp_lt (tgt := 40) dX5_kindOf_27 (by decide) (fun c6 => ?_) (fun c6 => ?_)
        · have ht := ht.1 c6
          refine ab_iconst (v := 1) dX5_kindOf_40 (by decide) ?_
          exact ab_iret rfl dX5_kindOf_41 (Nat.le_of_ble_eq_true rfl) (Nat.le_of_ble_eq_true rfl) ht
        · have ht := ht.2 c6
          refine ab_iload_n (i := 0) dX5_kindOf_30 rfl rfl ?_
          refine ab_bipush (v := 122) dX5_kindOf_31 (by decide) ?_
          refine ab_icmp_gt (tgt := 40) dX5_kindOf_33 (by decide) (fun c7 => ?_) (fun c7 => ?_)
          · have ht := ht.1 c7
            refine ab_iconst (v := 1) dX5_kindOf_40 (by decide) ?_
            exact ab_iret rfl dX5_kindOf_41 (Nat.le_of_ble_eq_true rfl) (Nat.le_of_ble_eq_true rfl) ht
          · have ht := ht.2 c7
            refine ab_iconst (v := 3) dX5_kindOf_36 (by decide) ?_
            refine ab_goto (tgt := 41) dX5_kindOf_37 (by decide) ?_
            exact ab_iret rfl dX5_kindOf_41 (Nat.le_of_ble_eq_true rfl) (Nat.le_of_ble_eq_true rfl) ht
      · have ht := ht.2 c5
        refine ab_iconst (v := 2) dX5_kindOf_20 (by decide) ?_
        refine ab_goto (tgt := 41) dX5_kindOf_21 (by decide) ?_
        exact ab_iret rfl dX5_kindOf_41 (Nat.le_of_ble_eq_true rfl) (Nat.le_of_ble_eq_true rfl) ht
  · have ht := ht.2 c1
    refine ab_iconst (v := 0) dX5_kindOf_6 (by decide) ?_
    exact ab_iret rfl dX5_kindOf_7 (Nat.le_of_ble_eq_true rfl) (Nat.le_of_ble_eq_true rfl) ht
theorem c_X5_kindOf {Q : Option Value → ah_T → Prop} {h : ah_T} (hs : Sh h) (x0 : Int32)  (hq : Q (some (.int (f_X5_kindOf x0))) h) : Mt mX5_kindOf [.int x0] h Q := by
  refine T_X5_kindOf hs x0 ?_
  refine ⟨fun c1 => ?_, fun c1 => ?_⟩
  ·
    refine ⟨fun c2 => ?_, fun c2 => ?_⟩
    ·
      refine ⟨fun c3 => ?_, fun c3 => ?_⟩
      ·
        simpa only [f_X5_kindOf, if_neg c1, if_pos c2, if_pos c3] using hq
      ·
        refine ⟨fun c4 => ?_, fun c4 => ?_⟩
        ·
          simpa only [f_X5_kindOf, if_neg c1, if_pos c2, if_neg c3, if_pos c4] using hq
        ·
          simpa only [f_X5_kindOf, if_neg c1, if_pos c2, if_neg c3, if_neg c4] using hq
    ·
      refine ⟨fun c5 => ?_, fun c5 => ?_⟩
      ·
        refine ⟨fun c6 => ?_, fun c6 => ?_⟩
        ·
          simpa only [f_X5_kindOf, if_neg c1, if_neg c2, if_pos c5, if_pos c6] using hq
        ·
          refine ⟨fun c7 => ?_, fun c7 => ?_⟩
          ·
            simpa only [f_X5_kindOf, if_neg c1, if_neg c2, if_pos c5, if_neg c6, if_pos c7] using hq
          ·
            simpa only [f_X5_kindOf, if_neg c1, if_neg c2, if_pos c5, if_neg c6, if_neg c7] using hq
      ·
        simpa only [f_X5_kindOf, if_neg c1, if_neg c2, if_neg c5] using hq
  ·
    simpa only [f_X5_kindOf, if_pos c1] using hq
theorem dX11_ash_0 : decode cX11_ash 0 = .ok (.aload_n 0, 1) := by decide +kernel
theorem dX11_ash_1 : decode cX11_ash 1 = .ok (.getfield 103, 3) := by decide +kernel
theorem dX11_ash_4 : decode cX11_ash 4 = .ok (.ireturn, 1) := by decide +kernel
def f_X11_ash (h : ah_T)  : Int32 := (ah_i h 0 15)
set_option maxRecDepth 20000 in
theorem T_X11_ash {Q : Option Value → ah_T → Prop} {h : ah_T} (hs : Sh h)  (ht : Q (some (.int (ah_i h 0 15))) h) : Mt mX11_ash [.ref 0] h Q := by
  refine Mt.ofWp rfl (by exact (Nat.le_of_ble_eq_true rfl)) (Wp.fewer (L' := [some (.ref 0)]) (show ab_leL _ _ from ⟨rfl, trivial⟩) ?_)
  refine ab_aload_n (i := 0) dX11_ash_0 rfl rfl ?_
  refine ab_getI f_X11_103 rfl (sh_k hs 0 11 (by decide) rfl) dX11_ash_1 ?_
  exact ab_iret rfl dX11_ash_4 (Nat.le_of_ble_eq_true rfl) (Nat.le_of_ble_eq_true rfl) ht
theorem c_X11_ash {Q : Option Value → ah_T → Prop} {h : ah_T} (hs : Sh h)   (hq : Q (some (.int (f_X11_ash h))) h) : Mt mX11_ash [.ref 0] h Q := by
  refine T_X11_ash hs  ?_
  simpa only [f_X11_ash] using hq
theorem dX11_fault_0 : decode cX11_fault 0 = .ok (.aload_n 0, 1) := by decide +kernel
theorem dX11_fault_1 : decode cX11_fault 1 = .ok (.getfield 100, 3) := by decide +kernel
theorem dX11_fault_4 : decode cX11_fault 4 = .ok (.ireturn, 1) := by decide +kernel
def f_X11_fault (h : ah_T)  : Int32 := (ah_i h 0 14)
set_option maxRecDepth 20000 in
theorem T_X11_fault {Q : Option Value → ah_T → Prop} {h : ah_T} (hs : Sh h)  (ht : Q (some (.int (ah_i h 0 14))) h) : Mt mX11_fault [.ref 0] h Q := by
  refine Mt.ofWp rfl (by exact (Nat.le_of_ble_eq_true rfl)) (Wp.fewer (L' := [some (.ref 0)]) (show ab_leL _ _ from ⟨rfl, trivial⟩) ?_)
  refine ab_aload_n (i := 0) dX11_fault_0 rfl rfl ?_
  refine ab_getI f_X11_100 rfl (sh_k hs 0 11 (by decide) rfl) dX11_fault_1 ?_
  exact ab_iret rfl dX11_fault_4 (Nat.le_of_ble_eq_true rfl) (Nat.le_of_ble_eq_true rfl) ht
theorem c_X11_fault {Q : Option Value → ah_T → Prop} {h : ah_T} (hs : Sh h)   (hq : Q (some (.int (f_X11_fault h))) h) : Mt mX11_fault [.ref 0] h Q := by
  refine T_X11_fault hs  ?_
  simpa only [f_X11_fault] using hq
theorem dX11_stopped_0 : decode cX11_stopped 0 = .ok (.aload_n 0, 1) := by decide +kernel
theorem dX11_stopped_1 : decode cX11_stopped 1 = .ok (.getfield 106, 3) := by decide +kernel
theorem dX11_stopped_4 : decode cX11_stopped 4 = .ok (.ireturn, 1) := by decide +kernel
def f_X11_stopped (h : ah_T)  : Int32 := (ah_i h 0 16)
set_option maxRecDepth 20000 in
theorem T_X11_stopped {Q : Option Value → ah_T → Prop} {h : ah_T} (hs : Sh h)  (ht : Q (some (.int (ah_i h 0 16))) h) : Mt mX11_stopped [.ref 0] h Q := by
  refine Mt.ofWp rfl (by exact (Nat.le_of_ble_eq_true rfl)) (Wp.fewer (L' := [some (.ref 0)]) (show ab_leL _ _ from ⟨rfl, trivial⟩) ?_)
  refine ab_aload_n (i := 0) dX11_stopped_0 rfl rfl ?_
  refine ab_getI f_X11_106 rfl (sh_k hs 0 11 (by decide) rfl) dX11_stopped_1 ?_
  exact ab_iret rfl dX11_stopped_4 (Nat.le_of_ble_eq_true rfl) (Nat.le_of_ble_eq_true rfl) ht
theorem c_X11_stopped {Q : Option Value → ah_T → Prop} {h : ah_T} (hs : Sh h)   (hq : Q (some (.int (f_X11_stopped h))) h) : Mt mX11_stopped [.ref 0] h Q := by
  refine T_X11_stopped hs  ?_
  simpa only [f_X11_stopped] using hq
theorem dX11_status_0 : decode cX11_status 0 = .ok (.aload_n 0, 1) := by decide +kernel
theorem dX11_status_1 : decode cX11_status 1 = .ok (.getfield 109, 3) := by decide +kernel
theorem dX11_status_4 : decode cX11_status 4 = .ok (.ireturn, 1) := by decide +kernel
def f_X11_status (h : ah_T)  : Int32 := (ah_i h 0 17)
set_option maxRecDepth 20000 in
theorem T_X11_status {Q : Option Value → ah_T → Prop} {h : ah_T} (hs : Sh h)  (ht : Q (some (.int (ah_i h 0 17))) h) : Mt mX11_status [.ref 0] h Q := by
  refine Mt.ofWp rfl (by exact (Nat.le_of_ble_eq_true rfl)) (Wp.fewer (L' := [some (.ref 0)]) (show ab_leL _ _ from ⟨rfl, trivial⟩) ?_)
  refine ab_aload_n (i := 0) dX11_status_0 rfl rfl ?_
  refine ab_getI f_X11_109 rfl (sh_k hs 0 11 (by decide) rfl) dX11_status_1 ?_
  exact ab_iret rfl dX11_status_4 (Nat.le_of_ble_eq_true rfl) (Nat.le_of_ble_eq_true rfl) ht
theorem c_X11_status {Q : Option Value → ah_T → Prop} {h : ah_T} (hs : Sh h)   (hq : Q (some (.int (f_X11_status h))) h) : Mt mX11_status [.ref 0] h Q := by
  refine T_X11_status hs  ?_
  simpa only [f_X11_status] using hq
theorem dX11_isIn_0 : decode cX11_isIn 0 = .ok (.iload_n 0, 1) := by decide +kernel
theorem dX11_isIn_1 : decode cX11_isIn 1 = .ok (.ifCond .lt 12, 3) := by decide +kernel
theorem dX11_isIn_4 : decode cX11_isIn 4 = .ok (.iload_n 0, 1) := by decide +kernel
theorem dX11_isIn_5 : decode cX11_isIn 5 = .ok (.iload_n 1, 1) := by decide +kernel
theorem dX11_isIn_6 : decode cX11_isIn 6 = .ok (.if_icmp .ge 7, 3) := by decide +kernel
theorem dX11_isIn_9 : decode cX11_isIn 9 = .ok (.iconst 1, 1) := by decide +kernel
theorem dX11_isIn_10 : decode cX11_isIn 10 = .ok (.goto 4, 3) := by decide +kernel
theorem dX11_isIn_13 : decode cX11_isIn 13 = .ok (.iconst 0, 1) := by decide +kernel
theorem dX11_isIn_14 : decode cX11_isIn 14 = .ok (.ireturn, 1) := by decide +kernel
def f_X11_isIn (x0 : Int32) (x1 : Int32) : Int32 := (if x0 < 0 then 0 else (if x1 ≤ x0 then 0 else 1))
set_option maxRecDepth 20000 in
theorem T_X11_isIn {Q : Option Value → ah_T → Prop} {h : ah_T} (hs : Sh h) (x0 : Int32) (x1 : Int32) (ht : ((x0 < 0 → Q (some (.int 0)) h) ∧ (¬ x0 < 0 → ((x1 ≤ x0 → Q (some (.int 0)) h) ∧ (¬ x1 ≤ x0 → Q (some (.int 1)) h))))) : Mt mX11_isIn [.int x0, .int x1] h Q := by
  refine Mt.ofWp rfl (by exact (Nat.le_of_ble_eq_true rfl)) (Wp.fewer (L' := [some (.int x0), some (.int x1)]) (show ab_leL _ _ from ⟨rfl, ⟨rfl, trivial⟩⟩) ?_)
  refine ab_iload_n (i := 0) dX11_isIn_0 rfl rfl ?_
  refine ab_if_lt (tgt := 13) dX11_isIn_1 (by decide) (fun c1 => ?_) (fun c1 => ?_)
  · have ht := ht.1 c1
    refine ab_iconst (v := 0) dX11_isIn_13 (by decide) ?_
    exact ab_zret rfl rfl dX11_isIn_14 (Nat.le_of_ble_eq_true rfl) (Nat.le_of_ble_eq_true rfl) ht
  · have ht := ht.2 c1
    refine ab_iload_n (i := 0) dX11_isIn_4 rfl rfl ?_
    refine ab_iload_n (i := 1) dX11_isIn_5 rfl rfl ?_
    refine ab_icmp_ge (tgt := 13) dX11_isIn_6 (by decide) (fun c2 => ?_) (fun c2 => ?_)
    · have ht := ht.1 c2
      refine ab_iconst (v := 0) dX11_isIn_13 (by decide) ?_
      exact ab_zret rfl rfl dX11_isIn_14 (Nat.le_of_ble_eq_true rfl) (Nat.le_of_ble_eq_true rfl) ht
    · have ht := ht.2 c2
      refine ab_iconst (v := 1) dX11_isIn_9 (by decide) ?_
      refine ab_goto (tgt := 14) dX11_isIn_10 (by decide) ?_
      exact ab_zret rfl rfl dX11_isIn_14 (Nat.le_of_ble_eq_true rfl) (Nat.le_of_ble_eq_true rfl) ht
theorem c_X11_isIn {Q : Option Value → ah_T → Prop} {h : ah_T} (hs : Sh h) (x0 : Int32) (x1 : Int32)  (hq : Q (some (.int (f_X11_isIn x0 x1))) h) : Mt mX11_isIn [.int x0, .int x1] h Q := by
  refine T_X11_isIn hs x0 x1 ?_
  refine ⟨fun c1 => ?_, fun c1 => ?_⟩
  ·
    simpa only [f_X11_isIn, if_pos c1] using hq
  ·
    refine ⟨fun c2 => ?_, fun c2 => ?_⟩
    ·
      simpa only [f_X11_isIn, if_neg c1, if_pos c2] using hq
    ·
      simpa only [f_X11_isIn, if_neg c1, if_neg c2] using hq
theorem b_X11_isIn {x0 : Int32} {x1 : Int32} : ab_b (f_X11_isIn x0 x1) := by
  unfold f_X11_isIn
  repeat' split
  all_goals first | exact ab_b0 | exact ab_b1
theorem dX12_lies_0 : decode cX12_lies 0 = .ok (.iload_n 0, 1) := by decide +kernel
theorem dX12_lies_1 : decode cX12_lies 1 = .ok (.iload_n 1, 1) := by decide +kernel
theorem dX12_lies_2 : decode cX12_lies 2 = .ok (.if_icmp .lt 12, 3) := by decide +kernel
theorem dX12_lies_5 : decode cX12_lies 5 = .ok (.iload_n 0, 1) := by decide +kernel
theorem dX12_lies_6 : decode cX12_lies 6 = .ok (.iload_n 2, 1) := by decide +kernel
theorem dX12_lies_7 : decode cX12_lies 7 = .ok (.if_icmp .gt 7, 3) := by decide +kernel
theorem dX12_lies_10 : decode cX12_lies 10 = .ok (.iconst 1, 1) := by decide +kernel
theorem dX12_lies_11 : decode cX12_lies 11 = .ok (.goto 4, 3) := by decide +kernel
theorem dX12_lies_14 : decode cX12_lies 14 = .ok (.iconst 0, 1) := by decide +kernel
theorem dX12_lies_15 : decode cX12_lies 15 = .ok (.ireturn, 1) := by decide +kernel
def f_X12_lies (x0 : Int32) (x1 : Int32) (x2 : Int32) : Int32 := (if x0 < x1 then 0 else (if x2 < x0 then 0 else 1))
set_option maxRecDepth 20000 in
theorem T_X12_lies {Q : Option Value → ah_T → Prop} {h : ah_T} (hs : Sh h) (x0 : Int32) (x1 : Int32) (x2 : Int32) (ht : ((x0 < x1 → Q (some (.int 0)) h) ∧ (¬ x0 < x1 → ((x2 < x0 → Q (some (.int 0)) h) ∧ (¬ x2 < x0 → Q (some (.int 1)) h))))) : Mt mX12_lies [.int x0, .int x1, .int x2] h Q := by
  refine Mt.ofWp rfl (by exact (Nat.le_of_ble_eq_true rfl)) (Wp.fewer (L' := [some (.int x0), some (.int x1), some (.int x2)]) (show ab_leL _ _ from ⟨rfl, ⟨rfl, ⟨rfl, trivial⟩⟩⟩) ?_)
  refine ab_iload_n (i := 0) dX12_lies_0 rfl rfl ?_
  refine ab_iload_n (i := 1) dX12_lies_1 rfl rfl ?_
  refine ab_icmp_lt (tgt := 14) dX12_lies_2 (by decide) (fun c1 => ?_) (fun c1 => ?_)
  · have ht := ht.1 c1
    refine ab_iconst (v := 0) dX12_lies_14 (by decide) ?_
    exact ab_zret rfl rfl dX12_lies_15 (Nat.le_of_ble_eq_true rfl) (Nat.le_of_ble_eq_true rfl) ht
  · have ht := ht.2 c1
    refine ab_iload_n (i := 0) dX12_lies_5 rfl rfl ?_
    refine ab_iload_n (i := 2) dX12_lies_6 rfl rfl ?_
    refine ab_icmp_gt (tgt := 14) dX12_lies_7 (by decide) (fun c2 => ?_) (fun c2 => ?_)
    · have ht := ht.1 c2
      refine ab_iconst (v := 0) dX12_lies_14 (by decide) ?_
      exact ab_zret rfl rfl dX12_lies_15 (Nat.le_of_ble_eq_true rfl) (Nat.le_of_ble_eq_true rfl) ht
    · have ht := ht.2 c2
      refine ab_iconst (v := 1) dX12_lies_10 (by decide) ?_
      refine ab_goto (tgt := 15) dX12_lies_11 (by decide) ?_
      exact ab_zret rfl rfl dX12_lies_15 (Nat.le_of_ble_eq_true rfl) (Nat.le_of_ble_eq_true rfl) ht
theorem c_X12_lies {Q : Option Value → ah_T → Prop} {h : ah_T} (hs : Sh h) (x0 : Int32) (x1 : Int32) (x2 : Int32)  (hq : Q (some (.int (f_X12_lies x0 x1 x2))) h) : Mt mX12_lies [.int x0, .int x1, .int x2] h Q := by
  refine T_X12_lies hs x0 x1 x2 ?_
  refine ⟨fun c1 => ?_, fun c1 => ?_⟩
  ·
    simpa only [f_X12_lies, if_pos c1] using hq
  ·
    refine ⟨fun c2 => ?_, fun c2 => ?_⟩
    ·
      simpa only [f_X12_lies, if_neg c1, if_pos c2] using hq
    ·
      simpa only [f_X12_lies, if_neg c1, if_neg c2] using hq
theorem b_X12_lies {x0 : Int32} {x1 : Int32} {x2 : Int32} : ab_b (f_X12_lies x0 x1 x2) := by
  unfold f_X12_lies
  repeat' split
  all_goals first | exact ab_b0 | exact ab_b1
theorem dX12_isIn_0 : decode cX12_isIn 0 = .ok (.iload_n 0, 1) := by decide +kernel
theorem dX12_isIn_1 : decode cX12_isIn 1 = .ok (.iload_n 1, 1) := by decide +kernel
theorem dX12_isIn_2 : decode cX12_isIn 2 = .ok (.ishr, 1) := by decide +kernel
theorem dX12_isIn_3 : decode cX12_isIn 3 = .ok (.iconst 1, 1) := by decide +kernel
theorem dX12_isIn_4 : decode cX12_isIn 4 = .ok (.iand, 1) := by decide +kernel
theorem dX12_isIn_5 : decode cX12_isIn 5 = .ok (.iconst 1, 1) := by decide +kernel
theorem dX12_isIn_6 : decode cX12_isIn 6 = .ok (.if_icmp .ne 7, 3) := by decide +kernel
theorem dX12_isIn_9 : decode cX12_isIn 9 = .ok (.iconst 1, 1) := by decide +kernel
theorem dX12_isIn_10 : decode cX12_isIn 10 = .ok (.goto 4, 3) := by decide +kernel
theorem dX12_isIn_13 : decode cX12_isIn 13 = .ok (.iconst 0, 1) := by decide +kernel
theorem dX12_isIn_14 : decode cX12_isIn 14 = .ok (.ireturn, 1) := by decide +kernel
def f_X12_isIn (x0 : Int32) (x1 : Int32) : Int32 := (if ((x0 >>> (x1 &&& 31)) &&& 1) = 1 then 1 else 0)
set_option maxRecDepth 20000 in
theorem T_X12_isIn {Q : Option Value → ah_T → Prop} {h : ah_T} (hs : Sh h) (x0 : Int32) (x1 : Int32) (ht : ((¬ ((x0 >>> (x1 &&& 31)) &&& 1) = 1 → Q (some (.int 0)) h) ∧ (((x0 >>> (x1 &&& 31)) &&& 1) = 1 → Q (some (.int 1)) h))) : Mt mX12_isIn [.int x0, .int x1] h Q := by
  refine Mt.ofWp rfl (by exact (Nat.le_of_ble_eq_true rfl)) (Wp.fewer (L' := [some (.int x0), some (.int x1)]) (show ab_leL _ _ from ⟨rfl, ⟨rfl, trivial⟩⟩) ?_)
  refine ab_iload_n (i := 0) dX12_isIn_0 rfl rfl ?_
  refine ab_iload_n (i := 1) dX12_isIn_1 rfl rfl ?_
  refine ab_ishr dX12_isIn_2 ?_
  refine ab_iconst (v := 1) dX12_isIn_3 (by decide) ?_
  refine ab_iand dX12_isIn_4 ?_
  refine ab_iconst (v := 1) dX12_isIn_5 (by decide) ?_
  refine ab_icmp_ne (tgt := 13) dX12_isIn_6 (by decide) (fun c1 => ?_) (fun c1 => ?_)
  · have ht := ht.1 c1
    refine ab_iconst (v := 0) dX12_isIn_13 (by decide) ?_
    exact ab_zret rfl rfl dX12_isIn_14 (Nat.le_of_ble_eq_true rfl) (Nat.le_of_ble_eq_true rfl) ht
  · have ht := ht.2 c1
    refine ab_iconst (v := 1) dX12_isIn_9 (by decide) ?_
    refine ab_goto (tgt := 14) dX12_isIn_10 (by decide) ?_
    exact ab_zret rfl rfl dX12_isIn_14 (Nat.le_of_ble_eq_true rfl) (Nat.le_of_ble_eq_true rfl) ht
theorem c_X12_isIn {Q : Option Value → ah_T → Prop} {h : ah_T} (hs : Sh h) (x0 : Int32) (x1 : Int32)  (hq : Q (some (.int (f_X12_isIn x0 x1))) h) : Mt mX12_isIn [.int x0, .int x1] h Q := by
  refine T_X12_isIn hs x0 x1 ?_
  refine ⟨fun c1 => ?_, fun c1 => ?_⟩
  ·
    simpa only [f_X12_isIn, if_neg c1] using hq
  ·
    simpa only [f_X12_isIn, if_pos c1] using hq
theorem b_X12_isIn {x0 : Int32} {x1 : Int32} : ab_b (f_X12_isIn x0 x1) := by
  unfold f_X12_isIn
  repeat' split
  all_goals first | exact ab_b0 | exact ab_b1
theorem dX12_lesser_0 : decode cX12_lesser 0 = .ok (.iload_n 0, 1) := by decide +kernel
theorem dX12_lesser_1 : decode cX12_lesser 1 = .ok (.iload_n 1, 1) := by decide +kernel
theorem dX12_lesser_2 : decode cX12_lesser 2 = .ok (.if_icmp .ge 7, 3) := by decide +kernel
theorem dX12_lesser_5 : decode cX12_lesser 5 = .ok (.iload_n 0, 1) := by decide +kernel
theorem dX12_lesser_6 : decode cX12_lesser 6 = .ok (.goto 4, 3) := by decide +kernel
theorem dX12_lesser_9 : decode cX12_lesser 9 = .ok (.iload_n 1, 1) := by decide +kernel
theorem dX12_lesser_10 : decode cX12_lesser 10 = .ok (.ireturn, 1) := by decide +kernel
def f_X12_lesser (x0 : Int32) (x1 : Int32) : Int32 := (if x1 ≤ x0 then x1 else x0)
set_option maxRecDepth 20000 in
theorem T_X12_lesser {Q : Option Value → ah_T → Prop} {h : ah_T} (hs : Sh h) (x0 : Int32) (x1 : Int32) (ht : ((x1 ≤ x0 → Q (some (.int x1)) h) ∧ (¬ x1 ≤ x0 → Q (some (.int x0)) h))) : Mt mX12_lesser [.int x0, .int x1] h Q := by
  refine Mt.ofWp rfl (by exact (Nat.le_of_ble_eq_true rfl)) (Wp.fewer (L' := [some (.int x0), some (.int x1)]) (show ab_leL _ _ from ⟨rfl, ⟨rfl, trivial⟩⟩) ?_)
  refine ab_iload_n (i := 0) dX12_lesser_0 rfl rfl ?_
  refine ab_iload_n (i := 1) dX12_lesser_1 rfl rfl ?_
  refine ab_icmp_ge (tgt := 9) dX12_lesser_2 (by decide) (fun c1 => ?_) (fun c1 => ?_)
  · have ht := ht.1 c1
    refine ab_iload_n (i := 1) dX12_lesser_9 rfl rfl ?_
    exact ab_iret rfl dX12_lesser_10 (Nat.le_of_ble_eq_true rfl) (Nat.le_of_ble_eq_true rfl) ht
  · have ht := ht.2 c1
    refine ab_iload_n (i := 0) dX12_lesser_5 rfl rfl ?_
    refine ab_goto (tgt := 10) dX12_lesser_6 (by decide) ?_
    exact ab_iret rfl dX12_lesser_10 (Nat.le_of_ble_eq_true rfl) (Nat.le_of_ble_eq_true rfl) ht
theorem c_X12_lesser {Q : Option Value → ah_T → Prop} {h : ah_T} (hs : Sh h) (x0 : Int32) (x1 : Int32)  (hq : Q (some (.int (f_X12_lesser x0 x1))) h) : Mt mX12_lesser [.int x0, .int x1] h Q := by
  refine T_X12_lesser hs x0 x1 ?_
  refine ⟨fun c1 => ?_, fun c1 => ?_⟩
  ·
    simpa only [f_X12_lesser, if_pos c1] using hq
  ·
    simpa only [f_X12_lesser, if_neg c1] using hq
theorem dX12_isCorner_0 : decode cX12_isCorner 0 = .ok (.iload_n 0, 1) := by decide +kernel
theorem dX12_isCorner_1 : decode cX12_isCorner 1 = .ok (.iconst 0, 1) := by decide +kernel
theorem dX12_isCorner_2 : decode cX12_isCorner 2 = .ok (.bipush 11, 2) := by decide +kernel
theorem dX12_isCorner_4 : decode cX12_isCorner 4 = .ok (.invokestatic 156, 3) := by decide +kernel
theorem dX12_isCorner_7 : decode cX12_isCorner 7 = .ok (.ireturn, 1) := by decide +kernel
def f_X12_isCorner (x0 : Int32) : Int32 := (f_X12_lies x0 0 11)
set_option maxRecDepth 20000 in
theorem T_X12_isCorner {Q : Option Value → ah_T → Prop} {h : ah_T} (hs : Sh h) (x0 : Int32) (ht : Q (some (.int (f_X12_lies x0 0 11))) h) : Mt mX12_isCorner [.int x0] h Q := by
  refine Mt.ofWp rfl (by exact (Nat.le_of_ble_eq_true rfl)) (Wp.fewer (L' := [some (.int x0)]) (show ab_leL _ _ from ⟨rfl, trivial⟩) ?_)
  refine ab_iload_n (i := 0) dX12_isCorner_0 rfl rfl ?_
  refine ab_iconst (v := 0) dX12_isCorner_1 (by decide) ?_
  refine ab_bipush (v := 11) dX12_isCorner_2 (by decide) ?_
  refine ab_callS (Q' := fun r h' => r = some (.int (f_X12_lies x0 0 11)) ∧ h = h') (As := [.int x0, .int 0, .int 11]) (c_X12_lies hs x0 0 11 ⟨rfl, rfl⟩) (Y_X12_lies) l_X12_156 st_X12_lies rfl ⟨(Nat.le_of_ble_eq_true rfl), (Nat.le_of_ble_eq_true rfl), (Nat.le_of_ble_eq_true rfl), (Nat.le_of_ble_eq_true rfl)⟩ dX12_isCorner_4 ?_
  rintro _ _ ⟨rfl, rfl⟩
  exact ab_zret rfl (ab_b_nar (b_X12_lies ..)) dX12_isCorner_7 (Nat.le_of_ble_eq_true rfl) (Nat.le_of_ble_eq_true rfl) ht
theorem c_X12_isCorner {Q : Option Value → ah_T → Prop} {h : ah_T} (hs : Sh h) (x0 : Int32)  (hq : Q (some (.int (f_X12_isCorner x0))) h) : Mt mX12_isCorner [.int x0] h Q := by
  refine T_X12_isCorner hs x0 ?_
  simpa only [f_X12_isCorner] using hq
theorem b_X12_isCorner {x0 : Int32} : ab_b (f_X12_isCorner x0) := by
  unfold f_X12_isCorner
  repeat' split
  all_goals first | exact ab_b0 | exact ab_b1 | with_reducible exact b_X12_lies
theorem dX12_isKind_0 : decode cX12_isKind 0 = .ok (.iload_n 0, 1) := by decide +kernel
theorem dX12_isKind_1 : decode cX12_isKind 1 = .ok (.iconst 0, 1) := by decide +kernel
theorem dX12_isKind_2 : decode cX12_isKind 2 = .ok (.iconst 5, 1) := by decide +kernel
theorem dX12_isKind_3 : decode cX12_isKind 3 = .ok (.invokestatic 156, 3) := by decide +kernel
theorem dX12_isKind_6 : decode cX12_isKind 6 = .ok (.ireturn, 1) := by decide +kernel
def f_X12_isKind (x0 : Int32) : Int32 := (f_X12_lies x0 0 5)
set_option maxRecDepth 20000 in
theorem T_X12_isKind {Q : Option Value → ah_T → Prop} {h : ah_T} (hs : Sh h) (x0 : Int32) (ht : Q (some (.int (f_X12_lies x0 0 5))) h) : Mt mX12_isKind [.int x0] h Q := by
  refine Mt.ofWp rfl (by exact (Nat.le_of_ble_eq_true rfl)) (Wp.fewer (L' := [some (.int x0)]) (show ab_leL _ _ from ⟨rfl, trivial⟩) ?_)
  refine ab_iload_n (i := 0) dX12_isKind_0 rfl rfl ?_
  refine ab_iconst (v := 0) dX12_isKind_1 (by decide) ?_
  refine ab_iconst (v := 5) dX12_isKind_2 (by decide) ?_
  refine ab_callS (Q' := fun r h' => r = some (.int (f_X12_lies x0 0 5)) ∧ h = h') (As := [.int x0, .int 0, .int 5]) (c_X12_lies hs x0 0 5 ⟨rfl, rfl⟩) (Y_X12_lies) l_X12_156 st_X12_lies rfl ⟨(Nat.le_of_ble_eq_true rfl), (Nat.le_of_ble_eq_true rfl), (Nat.le_of_ble_eq_true rfl), (Nat.le_of_ble_eq_true rfl)⟩ dX12_isKind_3 ?_
  rintro _ _ ⟨rfl, rfl⟩
  exact ab_zret rfl (ab_b_nar (b_X12_lies ..)) dX12_isKind_6 (Nat.le_of_ble_eq_true rfl) (Nat.le_of_ble_eq_true rfl) ht
theorem c_X12_isKind {Q : Option Value → ah_T → Prop} {h : ah_T} (hs : Sh h) (x0 : Int32)  (hq : Q (some (.int (f_X12_isKind x0))) h) : Mt mX12_isKind [.int x0] h Q := by
  refine T_X12_isKind hs x0 ?_
  simpa only [f_X12_isKind] using hq
theorem b_X12_isKind {x0 : Int32} : ab_b (f_X12_isKind x0) := by
  unfold f_X12_isKind
  repeat' split
  all_goals first | exact ab_b0 | exact ab_b1 | with_reducible exact b_X12_lies
theorem dX12_isMinute_0 : decode cX12_isMinute 0 = .ok (.iload_n 0, 1) := by decide +kernel
theorem dX12_isMinute_1 : decode cX12_isMinute 1 = .ok (.iconst 0, 1) := by decide +kernel
theorem dX12_isMinute_2 : decode cX12_isMinute 2 = .ok (.bipush 119, 2) := by decide +kernel
theorem dX12_isMinute_4 : decode cX12_isMinute 4 = .ok (.invokestatic 156, 3) := by decide +kernel
theorem dX12_isMinute_7 : decode cX12_isMinute 7 = .ok (.ireturn, 1) := by decide +kernel
def f_X12_isMinute (x0 : Int32) : Int32 := (f_X12_lies x0 0 119)
set_option maxRecDepth 20000 in
theorem T_X12_isMinute {Q : Option Value → ah_T → Prop} {h : ah_T} (hs : Sh h) (x0 : Int32) (ht : Q (some (.int (f_X12_lies x0 0 119))) h) : Mt mX12_isMinute [.int x0] h Q := by
  refine Mt.ofWp rfl (by exact (Nat.le_of_ble_eq_true rfl)) (Wp.fewer (L' := [some (.int x0)]) (show ab_leL _ _ from ⟨rfl, trivial⟩) ?_)
  refine ab_iload_n (i := 0) dX12_isMinute_0 rfl rfl ?_
  refine ab_iconst (v := 0) dX12_isMinute_1 (by decide) ?_
  refine ab_bipush (v := 119) dX12_isMinute_2 (by decide) ?_
  refine ab_callS (Q' := fun r h' => r = some (.int (f_X12_lies x0 0 119)) ∧ h = h') (As := [.int x0, .int 0, .int 119]) (c_X12_lies hs x0 0 119 ⟨rfl, rfl⟩) (Y_X12_lies) l_X12_156 st_X12_lies rfl ⟨(Nat.le_of_ble_eq_true rfl), (Nat.le_of_ble_eq_true rfl), (Nat.le_of_ble_eq_true rfl), (Nat.le_of_ble_eq_true rfl)⟩ dX12_isMinute_4 ?_
  rintro _ _ ⟨rfl, rfl⟩
  exact ab_zret rfl (ab_b_nar (b_X12_lies ..)) dX12_isMinute_7 (Nat.le_of_ble_eq_true rfl) (Nat.le_of_ble_eq_true rfl) ht
theorem c_X12_isMinute {Q : Option Value → ah_T → Prop} {h : ah_T} (hs : Sh h) (x0 : Int32)  (hq : Q (some (.int (f_X12_isMinute x0))) h) : Mt mX12_isMinute [.int x0] h Q := by
  refine T_X12_isMinute hs x0 ?_
  simpa only [f_X12_isMinute] using hq
theorem b_X12_isMinute {x0 : Int32} : ab_b (f_X12_isMinute x0) := by
  unfold f_X12_isMinute
  repeat' split
  all_goals first | exact ab_b0 | exact ab_b1 | with_reducible exact b_X12_lies
theorem dX12_isWay_0 : decode cX12_isWay 0 = .ok (.iload_n 1, 1) := by decide +kernel
theorem dX12_isWay_1 : decode cX12_isWay 1 = .ok (.iconst 0, 1) := by decide +kernel
theorem dX12_isWay_2 : decode cX12_isWay 2 = .ok (.aload_n 0, 1) := by decide +kernel
theorem dX12_isWay_3 : decode cX12_isWay 3 = .ok (.getfield 20, 3) := by decide +kernel
theorem dX12_isWay_6 : decode cX12_isWay 6 = .ok (.sipush 245, 3) := by decide +kernel
theorem dX12_isWay_9 : decode cX12_isWay 9 = .ok (.iaload, 1) := by decide +kernel
theorem dX12_isWay_10 : decode cX12_isWay 10 = .ok (.iconst 1, 1) := by decide +kernel
theorem dX12_isWay_11 : decode cX12_isWay 11 = .ok (.isub, 1) := by decide +kernel
theorem dX12_isWay_12 : decode cX12_isWay 12 = .ok (.invokestatic 156, 3) := by decide +kernel
theorem dX12_isWay_15 : decode cX12_isWay 15 = .ok (.ireturn, 1) := by decide +kernel
def f_X12_isWay (h : ah_T) (x1 : Int32) : Int32 := (f_X12_lies x1 0 ((ah_i h 84 (Int32.toNatClampNeg 245)) - 1))
set_option maxRecDepth 20000 in
theorem T_X12_isWay {Q : Option Value → ah_T → Prop} {h : ah_T} (hs : Sh h) (x1 : Int32) (ht : Q (some (.int (f_X12_lies x1 0 ((ah_i h 84 (Int32.toNatClampNeg 245)) - 1)))) h) : Mt mX12_isWay [.ref 82, .int x1] h Q := by
  refine Mt.ofWp rfl (by exact (Nat.le_of_ble_eq_true rfl)) (Wp.fewer (L' := [some (.ref 82), some (.int x1)]) (show ab_leL _ _ from ⟨rfl, ⟨rfl, trivial⟩⟩) ?_)
  refine ab_iload_n (i := 1) dX12_isWay_0 rfl rfl ?_
  refine ab_iconst (v := 0) dX12_isWay_1 (by decide) ?_
  refine ab_aload_n (i := 0) dX12_isWay_2 rfl rfl ?_
  refine ab_getR (b := 84) f_X12_20 rfl (sh_k hs 82 12 (by decide) rfl) (sh_r hs 100 rfl) dX12_isWay_3 ?_
  refine ab_sipush (v := 245) dX12_isWay_6 (by decide) ?_
  refine ab_iald (sh_k hs 84 14 (by decide) rfl) (sh_in hs 84 5860 (by decide) (by decide) rfl (by unfold vp_in; decide)) dX12_isWay_9 ?_
  refine ab_iconst (v := 1) dX12_isWay_10 (by decide) ?_
  refine ab_isub dX12_isWay_11 ?_
  refine ab_callS (Q' := fun r h' => r = some (.int (f_X12_lies x1 0 ((ah_i h 84 (Int32.toNatClampNeg 245)) - 1))) ∧ h = h') (As := [.int x1, .int 0, .int ((ah_i h 84 (Int32.toNatClampNeg 245)) - 1)]) (c_X12_lies hs x1 0 ((ah_i h 84 (Int32.toNatClampNeg 245)) - 1) ⟨rfl, rfl⟩) (Y_X12_lies) l_X12_156 st_X12_lies rfl ⟨(Nat.le_of_ble_eq_true rfl), (Nat.le_of_ble_eq_true rfl), (Nat.le_of_ble_eq_true rfl), (Nat.le_of_ble_eq_true rfl)⟩ dX12_isWay_12 ?_
  rintro _ _ ⟨rfl, rfl⟩
  exact ab_zret rfl (ab_b_nar (b_X12_lies ..)) dX12_isWay_15 (Nat.le_of_ble_eq_true rfl) (Nat.le_of_ble_eq_true rfl) ht
theorem c_X12_isWay {Q : Option Value → ah_T → Prop} {h : ah_T} (hs : Sh h) (x1 : Int32)  (hq : Q (some (.int (f_X12_isWay h x1))) h) : Mt mX12_isWay [.ref 82, .int x1] h Q := by
  refine T_X12_isWay hs x1 ?_
  simpa only [f_X12_isWay] using hq
theorem b_X12_isWay {h : ah_T} {x1 : Int32} : ab_b (f_X12_isWay h x1) := by
  unfold f_X12_isWay
  repeat' split
  all_goals first | exact ab_b0 | exact ab_b1 | with_reducible exact b_X12_lies
theorem dX12_isLamp_0 : decode cX12_isLamp 0 = .ok (.iload_n 1, 1) := by decide +kernel
theorem dX12_isLamp_1 : decode cX12_isLamp 1 = .ok (.iconst 0, 1) := by decide +kernel
theorem dX12_isLamp_2 : decode cX12_isLamp 2 = .ok (.aload_n 0, 1) := by decide +kernel
theorem dX12_isLamp_3 : decode cX12_isLamp 3 = .ok (.getfield 20, 3) := by decide +kernel
theorem dX12_isLamp_6 : decode cX12_isLamp 6 = .ok (.sipush 246, 3) := by decide +kernel
theorem dX12_isLamp_9 : decode cX12_isLamp 9 = .ok (.iaload, 1) := by decide +kernel
theorem dX12_isLamp_10 : decode cX12_isLamp 10 = .ok (.iconst 1, 1) := by decide +kernel
theorem dX12_isLamp_11 : decode cX12_isLamp 11 = .ok (.isub, 1) := by decide +kernel
theorem dX12_isLamp_12 : decode cX12_isLamp 12 = .ok (.invokestatic 156, 3) := by decide +kernel
theorem dX12_isLamp_15 : decode cX12_isLamp 15 = .ok (.ireturn, 1) := by decide +kernel
def f_X12_isLamp (h : ah_T) (x1 : Int32) : Int32 := (f_X12_lies x1 0 ((ah_i h 84 (Int32.toNatClampNeg 246)) - 1))
set_option maxRecDepth 20000 in
theorem T_X12_isLamp {Q : Option Value → ah_T → Prop} {h : ah_T} (hs : Sh h) (x1 : Int32) (ht : Q (some (.int (f_X12_lies x1 0 ((ah_i h 84 (Int32.toNatClampNeg 246)) - 1)))) h) : Mt mX12_isLamp [.ref 82, .int x1] h Q := by
  refine Mt.ofWp rfl (by exact (Nat.le_of_ble_eq_true rfl)) (Wp.fewer (L' := [some (.ref 82), some (.int x1)]) (show ab_leL _ _ from ⟨rfl, ⟨rfl, trivial⟩⟩) ?_)
  refine ab_iload_n (i := 1) dX12_isLamp_0 rfl rfl ?_
  refine ab_iconst (v := 0) dX12_isLamp_1 (by decide) ?_
  refine ab_aload_n (i := 0) dX12_isLamp_2 rfl rfl ?_
  refine ab_getR (b := 84) f_X12_20 rfl (sh_k hs 82 12 (by decide) rfl) (sh_r hs 100 rfl) dX12_isLamp_3 ?_
  refine ab_sipush (v := 246) dX12_isLamp_6 (by decide) ?_
  refine ab_iald (sh_k hs 84 14 (by decide) rfl) (sh_in hs 84 5860 (by decide) (by decide) rfl (by unfold vp_in; decide)) dX12_isLamp_9 ?_
  refine ab_iconst (v := 1) dX12_isLamp_10 (by decide) ?_
  refine ab_isub dX12_isLamp_11 ?_
  refine ab_callS (Q' := fun r h' => r = some (.int (f_X12_lies x1 0 ((ah_i h 84 (Int32.toNatClampNeg 246)) - 1))) ∧ h = h') (As := [.int x1, .int 0, .int ((ah_i h 84 (Int32.toNatClampNeg 246)) - 1)]) (c_X12_lies hs x1 0 ((ah_i h 84 (Int32.toNatClampNeg 246)) - 1) ⟨rfl, rfl⟩) (Y_X12_lies) l_X12_156 st_X12_lies rfl ⟨(Nat.le_of_ble_eq_true rfl), (Nat.le_of_ble_eq_true rfl), (Nat.le_of_ble_eq_true rfl), (Nat.le_of_ble_eq_true rfl)⟩ dX12_isLamp_12 ?_
  rintro _ _ ⟨rfl, rfl⟩
  exact ab_zret rfl (ab_b_nar (b_X12_lies ..)) dX12_isLamp_15 (Nat.le_of_ble_eq_true rfl) (Nat.le_of_ble_eq_true rfl) ht
theorem c_X12_isLamp {Q : Option Value → ah_T → Prop} {h : ah_T} (hs : Sh h) (x1 : Int32)  (hq : Q (some (.int (f_X12_isLamp h x1))) h) : Mt mX12_isLamp [.ref 82, .int x1] h Q := by
  refine T_X12_isLamp hs x1 ?_
  simpa only [f_X12_isLamp] using hq
theorem b_X12_isLamp {h : ah_T} {x1 : Int32} : ab_b (f_X12_isLamp h x1) := by
  unfold f_X12_isLamp
  repeat' split
  all_goals first | exact ab_b0 | exact ab_b1 | with_reducible exact b_X12_lies
theorem dX12_isLantern_0 : decode cX12_isLantern 0 = .ok (.iload_n 1, 1) := by decide +kernel
theorem dX12_isLantern_1 : decode cX12_isLantern 1 = .ok (.iconst 0, 1) := by decide +kernel
theorem dX12_isLantern_2 : decode cX12_isLantern 2 = .ok (.aload_n 0, 1) := by decide +kernel
theorem dX12_isLantern_3 : decode cX12_isLantern 3 = .ok (.getfield 20, 3) := by decide +kernel
theorem dX12_isLantern_6 : decode cX12_isLantern 6 = .ok (.sipush 248, 3) := by decide +kernel
theorem dX12_isLantern_9 : decode cX12_isLantern 9 = .ok (.iaload, 1) := by decide +kernel
theorem dX12_isLantern_10 : decode cX12_isLantern 10 = .ok (.iconst 1, 1) := by decide +kernel
theorem dX12_isLantern_11 : decode cX12_isLantern 11 = .ok (.isub, 1) := by decide +kernel
theorem dX12_isLantern_12 : decode cX12_isLantern 12 = .ok (.invokestatic 156, 3) := by decide +kernel
theorem dX12_isLantern_15 : decode cX12_isLantern 15 = .ok (.ireturn, 1) := by decide +kernel
def f_X12_isLantern (h : ah_T) (x1 : Int32) : Int32 := (f_X12_lies x1 0 ((ah_i h 84 (Int32.toNatClampNeg 248)) - 1))
set_option maxRecDepth 20000 in
theorem T_X12_isLantern {Q : Option Value → ah_T → Prop} {h : ah_T} (hs : Sh h) (x1 : Int32) (ht : Q (some (.int (f_X12_lies x1 0 ((ah_i h 84 (Int32.toNatClampNeg 248)) - 1)))) h) : Mt mX12_isLantern [.ref 82, .int x1] h Q := by
  refine Mt.ofWp rfl (by exact (Nat.le_of_ble_eq_true rfl)) (Wp.fewer (L' := [some (.ref 82), some (.int x1)]) (show ab_leL _ _ from ⟨rfl, ⟨rfl, trivial⟩⟩) ?_)
  refine ab_iload_n (i := 1) dX12_isLantern_0 rfl rfl ?_
  refine ab_iconst (v := 0) dX12_isLantern_1 (by decide) ?_
  refine ab_aload_n (i := 0) dX12_isLantern_2 rfl rfl ?_
  refine ab_getR (b := 84) f_X12_20 rfl (sh_k hs 82 12 (by decide) rfl) (sh_r hs 100 rfl) dX12_isLantern_3 ?_
  refine ab_sipush (v := 248) dX12_isLantern_6 (by decide) ?_
  refine ab_iald (sh_k hs 84 14 (by decide) rfl) (sh_in hs 84 5860 (by decide) (by decide) rfl (by unfold vp_in; decide)) dX12_isLantern_9 ?_
  refine ab_iconst (v := 1) dX12_isLantern_10 (by decide) ?_
  refine ab_isub dX12_isLantern_11 ?_
  refine ab_callS (Q' := fun r h' => r = some (.int (f_X12_lies x1 0 ((ah_i h 84 (Int32.toNatClampNeg 248)) - 1))) ∧ h = h') (As := [.int x1, .int 0, .int ((ah_i h 84 (Int32.toNatClampNeg 248)) - 1)]) (c_X12_lies hs x1 0 ((ah_i h 84 (Int32.toNatClampNeg 248)) - 1) ⟨rfl, rfl⟩) (Y_X12_lies) l_X12_156 st_X12_lies rfl ⟨(Nat.le_of_ble_eq_true rfl), (Nat.le_of_ble_eq_true rfl), (Nat.le_of_ble_eq_true rfl), (Nat.le_of_ble_eq_true rfl)⟩ dX12_isLantern_12 ?_
  rintro _ _ ⟨rfl, rfl⟩
  exact ab_zret rfl (ab_b_nar (b_X12_lies ..)) dX12_isLantern_15 (Nat.le_of_ble_eq_true rfl) (Nat.le_of_ble_eq_true rfl) ht
theorem c_X12_isLantern {Q : Option Value → ah_T → Prop} {h : ah_T} (hs : Sh h) (x1 : Int32)  (hq : Q (some (.int (f_X12_isLantern h x1))) h) : Mt mX12_isLantern [.ref 82, .int x1] h Q := by
  refine T_X12_isLantern hs x1 ?_
  simpa only [f_X12_isLantern] using hq
theorem b_X12_isLantern {h : ah_T} {x1 : Int32} : ab_b (f_X12_isLantern h x1) := by
  unfold f_X12_isLantern
  repeat' split
  all_goals first | exact ab_b0 | exact ab_b1 | with_reducible exact b_X12_lies
theorem dX12_joins_0 : decode cX12_joins 0 = .ok (.aload_n 0, 1) := by decide +kernel
theorem dX12_joins_1 : decode cX12_joins 1 = .ok (.getfield 20, 3) := by decide +kernel
theorem dX12_joins_4 : decode cX12_joins 4 = .ok (.iconst 0, 1) := by decide +kernel
theorem dX12_joins_5 : decode cX12_joins 5 = .ok (.iconst 3, 1) := by decide +kernel
theorem dX12_joins_6 : decode cX12_joins 6 = .ok (.iload_n 1, 1) := by decide +kernel
theorem dX12_joins_7 : decode cX12_joins 7 = .ok (.imul, 1) := by decide +kernel
theorem dX12_joins_8 : decode cX12_joins 8 = .ok (.iadd, 1) := by decide +kernel
theorem dX12_joins_9 : decode cX12_joins 9 = .ok (.iaload, 1) := by decide +kernel
theorem dX12_joins_10 : decode cX12_joins 10 = .ok (.iload_n 2, 1) := by decide +kernel
theorem dX12_joins_11 : decode cX12_joins 11 = .ok (.iload_n 3, 1) := by decide +kernel
theorem dX12_joins_12 : decode cX12_joins 12 = .ok (.invokestatic 167, 3) := by decide +kernel
theorem dX12_joins_15 : decode cX12_joins 15 = .ok (.if_icmp .ne 31, 3) := by decide +kernel
theorem dX12_joins_18 : decode cX12_joins 18 = .ok (.aload_n 0, 1) := by decide +kernel
theorem dX12_joins_19 : decode cX12_joins 19 = .ok (.getfield 20, 3) := by decide +kernel
theorem dX12_joins_22 : decode cX12_joins 22 = .ok (.iconst 0, 1) := by decide +kernel
theorem dX12_joins_23 : decode cX12_joins 23 = .ok (.iconst 3, 1) := by decide +kernel
theorem dX12_joins_24 : decode cX12_joins 24 = .ok (.iload_n 1, 1) := by decide +kernel
theorem dX12_joins_25 : decode cX12_joins 25 = .ok (.imul, 1) := by decide +kernel
theorem dX12_joins_26 : decode cX12_joins 26 = .ok (.iadd, 1) := by decide +kernel
theorem dX12_joins_27 : decode cX12_joins 27 = .ok (.iconst 1, 1) := by decide +kernel
theorem dX12_joins_28 : decode cX12_joins 28 = .ok (.iadd, 1) := by decide +kernel
theorem dX12_joins_29 : decode cX12_joins 29 = .ok (.iaload, 1) := by decide +kernel
theorem dX12_joins_30 : decode cX12_joins 30 = .ok (.iload_n 2, 1) := by decide +kernel
theorem dX12_joins_31 : decode cX12_joins 31 = .ok (.iload_n 3, 1) := by decide +kernel
theorem dX12_joins_32 : decode cX12_joins 32 = .ok (.iadd, 1) := by decide +kernel
theorem dX12_joins_33 : decode cX12_joins 33 = .ok (.iload_n 2, 1) := by decide +kernel
theorem dX12_joins_34 : decode cX12_joins 34 = .ok (.iload_n 3, 1) := by decide +kernel
theorem dX12_joins_35 : decode cX12_joins 35 = .ok (.invokestatic 167, 3) := by decide +kernel
theorem dX12_joins_38 : decode cX12_joins 38 = .ok (.isub, 1) := by decide +kernel
theorem dX12_joins_39 : decode cX12_joins 39 = .ok (.if_icmp .ne 7, 3) := by decide +kernel
theorem dX12_joins_42 : decode cX12_joins 42 = .ok (.iconst 1, 1) := by decide +kernel
theorem dX12_joins_43 : decode cX12_joins 43 = .ok (.goto 4, 3) := by decide +kernel
theorem dX12_joins_46 : decode cX12_joins 46 = .ok (.iconst 0, 1) := by decide +kernel
theorem dX12_joins_47 : decode cX12_joins 47 = .ok (.ireturn, 1) := by decide +kernel
def f_X12_joins (h : ah_T) (x1 : Int32) (x2 : Int32) (x3 : Int32) : Int32 := (if (ah_i h 84 (Int32.toNatClampNeg (0 + (3 * x1)))) = (f_X12_lesser x2 x3) then (if (ah_i h 84 (Int32.toNatClampNeg ((0 + (3 * x1)) + 1))) = ((x2 + x3) - (f_X12_lesser x2 x3)) then 1 else 0) else 0)
set_option maxRecDepth 20000 in
theorem T_X12_joins {Q : Option Value → ah_T → Prop} {h : ah_T} (hs : Sh h) (x1 : Int32) (x2 : Int32) (x3 : Int32) (ht : (vp_in (0 + (3 * x1)) (ah_n h 84)) ∧ ((¬ (ah_i h 84 (Int32.toNatClampNeg (0 + (3 * x1)))) = (f_X12_lesser x2 x3) → Q (some (.int 0)) h) ∧ ((ah_i h 84 (Int32.toNatClampNeg (0 + (3 * x1)))) = (f_X12_lesser x2 x3) → (vp_in ((0 + (3 * x1)) + 1) (ah_n h 84)) ∧ ((¬ (ah_i h 84 (Int32.toNatClampNeg ((0 + (3 * x1)) + 1))) = ((x2 + x3) - (f_X12_lesser x2 x3)) → Q (some (.int 0)) h) ∧ ((ah_i h 84 (Int32.toNatClampNeg ((0 + (3 * x1)) + 1))) = ((x2 + x3) - (f_X12_lesser x2 x3)) → Q (some (.int 1)) h))))) : Mt mX12_joins [.ref 82, .int x1, .int x2, .int x3] h Q := by
  refine Mt.ofWp rfl (by exact (Nat.le_of_ble_eq_true rfl)) (Wp.fewer (L' := [some (.ref 82), some (.int x1), some (.int x2), some (.int x3)]) (show ab_leL _ _ from ⟨rfl, ⟨rfl, ⟨rfl, ⟨rfl, trivial⟩⟩⟩⟩) ?_)
  refine ab_aload_n (i := 0) dX12_joins_0 rfl rfl ?_
  refine ab_getR (b := 84) f_X12_20 rfl (sh_k hs 82 12 (by decide) rfl) (sh_r hs 100 rfl) dX12_joins_1 ?_
  refine ab_iconst (v := 0) dX12_joins_4 (by decide) ?_
  refine ab_iconst (v := 3) dX12_joins_5 (by decide) ?_
  refine ab_iload_n (i := 1) dX12_joins_6 rfl rfl ?_
  refine ab_imul dX12_joins_7 ?_
  refine ab_iadd dX12_joins_8 ?_
  obtain ⟨hc1, ht⟩ := ht
  refine ab_iald (sh_k hs 84 14 (by decide) rfl) hc1 dX12_joins_9 ?_
  refine ab_iload_n (i := 2) dX12_joins_10 rfl rfl ?_
  refine ab_iload_n (i := 3) dX12_joins_11 rfl rfl ?_
  refine ab_callS (Q' := fun r h' => r = some (.int (f_X12_lesser x2 x3)) ∧ h = h') (As := [.int x2, .int x3]) (c_X12_lesser hs x2 x3 ⟨rfl, rfl⟩) (Y_X12_lesser) l_X12_167 st_X12_lesser rfl ⟨(Nat.le_of_ble_eq_true rfl), (Nat.le_of_ble_eq_true rfl), (Nat.le_of_ble_eq_true rfl), (Nat.le_of_ble_eq_true rfl)⟩ dX12_joins_12 ?_
  rintro _ _ ⟨rfl, rfl⟩
  refine ab_icmp_ne (tgt := 46) dX12_joins_15 (by decide) (fun c2 => ?_) (fun c2 => ?_)
  · have ht := ht.1 c2
    refine ab_iconst (v := 0) dX12_joins_46 (by decide) ?_
    exact ab_zret rfl rfl dX12_joins_47 (Nat.le_of_ble_eq_true rfl) (Nat.le_of_ble_eq_true rfl) ht
  · have ht := ht.2 c2
    refine ab_aload_n (i := 0) dX12_joins_18 rfl rfl ?_
    refine ab_getR (b := 84) f_X12_20 rfl (sh_k hs 82 12 (by decide) rfl) (sh_r hs 100 rfl) dX12_joins_19 ?_
    refine ab_iconst (v := 0) dX12_joins_22 (by decide) ?_
    refine ab_iconst (v := 3) dX12_joins_23 (by decide) ?_
    refine ab_iload_n (i := 1) dX12_joins_24 rfl rfl ?_
    refine ab_imul dX12_joins_25 ?_
    refine ab_iadd dX12_joins_26 ?_
    refine ab_iconst (v := 1) dX12_joins_27 (by decide) ?_
    refine ab_iadd dX12_joins_28 ?_
    obtain ⟨hc3, ht⟩ := ht
    refine ab_iald (sh_k hs 84 14 (by decide) rfl) hc3 dX12_joins_29 ?_
    refine ab_iload_n (i := 2) dX12_joins_30 rfl rfl ?_
    refine ab_iload_n (i := 3) dX12_joins_31 rfl rfl ?_
    refine ab_iadd dX12_joins_32 ?_
    refine ab_iload_n (i := 2) dX12_joins_33 rfl rfl ?_
    refine ab_iload_n (i := 3) dX12_joins_34 rfl rfl ?_
    refine ab_callS (Q' := fun r h' => r = some (.int (f_X12_lesser x2 x3)) ∧ h = h') (As := [.int x2, .int x3]) (c_X12_lesser hs x2 x3 ⟨rfl, rfl⟩) (Y_X12_lesser) l_X12_167 st_X12_lesser rfl ⟨(Nat.le_of_ble_eq_true rfl), (Nat.le_of_ble_eq_true rfl), (Nat.le_of_ble_eq_true rfl), (Nat.le_of_ble_eq_true rfl)⟩ dX12_joins_35 ?_
    rintro _ _ ⟨rfl, rfl⟩
    refine ab_isub dX12_joins_38 ?_
    refine ab_icmp_ne (tgt := 46) dX12_joins_39 (by decide) (fun c4 => ?_) (fun c4 => ?_)
    · have ht := ht.1 c4
      refine ab_iconst (v := 0) dX12_joins_46 (by decide) ?_
      exact ab_zret rfl rfl dX12_joins_47 (Nat.le_of_ble_eq_true rfl) (Nat.le_of_ble_eq_true rfl) ht
    · have ht := ht.2 c4
      refine ab_iconst (v := 1) dX12_joins_42 (by decide) ?_
      refine ab_goto (tgt := 47) dX12_joins_43 (by decide) ?_
      exact ab_zret rfl rfl dX12_joins_47 (Nat.le_of_ble_eq_true rfl) (Nat.le_of_ble_eq_true rfl) ht
theorem c_X12_joins {Q : Option Value → ah_T → Prop} {h : ah_T} (hs : Sh h) (x1 : Int32) (x2 : Int32) (x3 : Int32) (ok0 : vp_in (0 + (3 * x1)) (ah_n h 84)) (ok1 : ((ah_i h 84 (Int32.toNatClampNeg (0 + (3 * x1)))) = (f_X12_lesser x2 x3) → vp_in ((0 + (3 * x1)) + 1) (ah_n h 84))) (hq : Q (some (.int (f_X12_joins h x1 x2 x3))) h) : Mt mX12_joins [.ref 82, .int x1, .int x2, .int x3] h Q := by
  refine T_X12_joins hs x1 x2 x3 ?_
  refine ⟨ok0, ?_⟩
  refine ⟨fun c2 => ?_, fun c2 => ?_⟩
  ·
    simpa only [f_X12_joins, if_neg c2] using hq
  ·
    refine ⟨ok1 c2, ?_⟩
    refine ⟨fun c4 => ?_, fun c4 => ?_⟩
    ·
      simpa only [f_X12_joins, if_pos c2, if_neg c4] using hq
    ·
      simpa only [f_X12_joins, if_pos c2, if_pos c4] using hq
theorem b_X12_joins {h : ah_T} {x1 : Int32} {x2 : Int32} {x3 : Int32} : ab_b (f_X12_joins h x1 x2 x3) := by
  unfold f_X12_joins
  repeat' split
  all_goals first | exact ab_b0 | exact ab_b1
theorem dX12_of_0 : decode cX12_of 0 = .ok (.aload_n 0, 1) := by decide +kernel
theorem dX12_of_1 : decode cX12_of 1 = .ok (.iload_n 1, 1) := by decide +kernel
theorem dX12_of_2 : decode cX12_of 2 = .ok (.invokevirtual 186, 3) := by decide +kernel
theorem dX12_of_5 : decode cX12_of 5 = .ok (.ifCond .eq 27, 3) := by decide +kernel
theorem dX12_of_8 : decode cX12_of 8 = .ok (.iload_n 2, 1) := by decide +kernel
theorem dX12_of_9 : decode cX12_of 9 = .ok (.iconst 0, 1) := by decide +kernel
theorem dX12_of_10 : decode cX12_of 10 = .ok (.iconst 2, 1) := by decide +kernel
theorem dX12_of_11 : decode cX12_of 11 = .ok (.invokestatic 156, 3) := by decide +kernel
theorem dX12_of_14 : decode cX12_of 14 = .ok (.ifCond .eq 18, 3) := by decide +kernel
theorem dX12_of_17 : decode cX12_of 17 = .ok (.aload_n 0, 1) := by decide +kernel
theorem dX12_of_18 : decode cX12_of 18 = .ok (.getfield 20, 3) := by decide +kernel
theorem dX12_of_21 : decode cX12_of 21 = .ok (.iconst 0, 1) := by decide +kernel
theorem dX12_of_22 : decode cX12_of 22 = .ok (.iconst 3, 1) := by decide +kernel
theorem dX12_of_23 : decode cX12_of 23 = .ok (.iload_n 1, 1) := by decide +kernel
theorem dX12_of_24 : decode cX12_of 24 = .ok (.imul, 1) := by decide +kernel
theorem dX12_of_25 : decode cX12_of 25 = .ok (.iadd, 1) := by decide +kernel
theorem dX12_of_26 : decode cX12_of 26 = .ok (.iload_n 2, 1) := by decide +kernel
theorem dX12_of_27 : decode cX12_of 27 = .ok (.iadd, 1) := by decide +kernel
theorem dX12_of_28 : decode cX12_of 28 = .ok (.iaload, 1) := by decide +kernel
theorem dX12_of_29 : decode cX12_of 29 = .ok (.goto 4, 3) := by decide +kernel
theorem dX12_of_32 : decode cX12_of 32 = .ok (.iconst (-1), 1) := by decide +kernel
theorem dX12_of_33 : decode cX12_of 33 = .ok (.ireturn, 1) := by decide +kernel
def f_X12_of (h : ah_T) (x1 : Int32) (x2 : Int32) : Int32 := (if (f_X12_isWay h x1) = 0 then (-1) else (if (f_X12_lies x2 0 2) = 0 then (-1) else (ah_i h 84 (Int32.toNatClampNeg ((0 + (3 * x1)) + x2)))))
set_option maxRecDepth 20000 in
theorem T_X12_of {Q : Option Value → ah_T → Prop} {h : ah_T} (hs : Sh h) (x1 : Int32) (x2 : Int32) (ht : (((f_X12_isWay h x1) = 0 → Q (some (.int (-1))) h) ∧ (¬ (f_X12_isWay h x1) = 0 → (((f_X12_lies x2 0 2) = 0 → Q (some (.int (-1))) h) ∧ (¬ (f_X12_lies x2 0 2) = 0 → (vp_in ((0 + (3 * x1)) + x2) (ah_n h 84)) ∧ Q (some (.int (ah_i h 84 (Int32.toNatClampNeg ((0 + (3 * x1)) + x2))))) h))))) : Mt mX12_of [.ref 82, .int x1, .int x2] h Q := by
  refine Mt.ofWp rfl (by exact (Nat.le_of_ble_eq_true rfl)) (Wp.fewer (L' := [some (.ref 82), some (.int x1), some (.int x2)]) (show ab_leL _ _ from ⟨rfl, ⟨rfl, ⟨rfl, trivial⟩⟩⟩) ?_)
  refine ab_aload_n (i := 0) dX12_of_0 rfl rfl ?_
  refine ab_iload_n (i := 1) dX12_of_1 rfl rfl ?_
  refine ab_callV (b := 82) (Q' := fun r h' => r = some (.int (f_X12_isWay h x1)) ∧ h = h') (As := [.int x1]) (c_X12_isWay hs x1 ⟨rfl, rfl⟩) (Y_X12_isWay) l_X12_186 in_X12_isWay se_X12_isWay (sh_k hs 82 12 (by decide) rfl) (by decide) rfl rfl ⟨(Nat.le_of_ble_eq_true rfl), (Nat.le_of_ble_eq_true rfl), (Nat.le_of_ble_eq_true rfl), (Nat.le_of_ble_eq_true rfl)⟩ dX12_of_2 ?_
  rintro _ _ ⟨rfl, rfl⟩
  refine ab_if_eq (tgt := 32) dX12_of_5 (by decide) (fun c1 => ?_) (fun c1 => ?_)
  · have ht := ht.1 c1
    refine ab_iconst (v := (-1)) dX12_of_32 (by decide) ?_
    exact ab_iret rfl dX12_of_33 (Nat.le_of_ble_eq_true rfl) (Nat.le_of_ble_eq_true rfl) ht
  · have ht := ht.2 c1
    refine ab_iload_n (i := 2) dX12_of_8 rfl rfl ?_
    refine ab_iconst (v := 0) dX12_of_9 (by decide) ?_
    refine ab_iconst (v := 2) dX12_of_10 (by decide) ?_
    refine ab_callS (Q' := fun r h' => r = some (.int (f_X12_lies x2 0 2)) ∧ h = h') (As := [.int x2, .int 0, .int 2]) (c_X12_lies hs x2 0 2 ⟨rfl, rfl⟩) (Y_X12_lies) l_X12_156 st_X12_lies rfl ⟨(Nat.le_of_ble_eq_true rfl), (Nat.le_of_ble_eq_true rfl), (Nat.le_of_ble_eq_true rfl), (Nat.le_of_ble_eq_true rfl)⟩ dX12_of_11 ?_
    rintro _ _ ⟨rfl, rfl⟩
    refine ab_if_eq (tgt := 32) dX12_of_14 (by decide) (fun c2 => ?_) (fun c2 => ?_)
    · have ht := ht.1 c2
      refine ab_iconst (v := (-1)) dX12_of_32 (by decide) ?_
      exact ab_iret rfl dX12_of_33 (Nat.le_of_ble_eq_true rfl) (Nat.le_of_ble_eq_true rfl) ht
    · have ht := ht.2 c2
      refine ab_aload_n (i := 0) dX12_of_17 rfl rfl ?_
      refine ab_getR (b := 84) f_X12_20 rfl (sh_k hs 82 12 (by decide) rfl) (sh_r hs 100 rfl) dX12_of_18 ?_
      refine ab_iconst (v := 0) dX12_of_21 (by decide) ?_
      refine ab_iconst (v := 3) dX12_of_22 (by decide) ?_
      refine ab_iload_n (i := 1) dX12_of_23 rfl rfl ?_
      refine ab_imul dX12_of_24 ?_
      refine ab_iadd dX12_of_25 ?_
      refine ab_iload_n (i := 2) dX12_of_26 rfl rfl ?_
      refine ab_iadd dX12_of_27 ?_
      obtain ⟨hc3, ht⟩ := ht
      refine ab_iald (sh_k hs 84 14 (by decide) rfl) hc3 dX12_of_28 ?_
      refine ab_goto (tgt := 33) dX12_of_29 (by decide) ?_
      exact ab_iret rfl dX12_of_33 (Nat.le_of_ble_eq_true rfl) (Nat.le_of_ble_eq_true rfl) ht
theorem c_X12_of {Q : Option Value → ah_T → Prop} {h : ah_T} (hs : Sh h) (x1 : Int32) (x2 : Int32) (ok0 : (¬ (f_X12_isWay h x1) = 0 → (¬ (f_X12_lies x2 0 2) = 0 → vp_in ((0 + (3 * x1)) + x2) (ah_n h 84)))) (hq : Q (some (.int (f_X12_of h x1 x2))) h) : Mt mX12_of [.ref 82, .int x1, .int x2] h Q := by
  refine T_X12_of hs x1 x2 ?_
  refine ⟨fun c1 => ?_, fun c1 => ?_⟩
  ·
    simpa only [f_X12_of, if_pos c1] using hq
  ·
    refine ⟨fun c2 => ?_, fun c2 => ?_⟩
    ·
      simpa only [f_X12_of, if_neg c1, if_pos c2] using hq
    ·
      refine ⟨ok0 c1 c2, ?_⟩
      simpa only [f_X12_of, if_neg c1, if_neg c2] using hq
theorem dX12_isFact_0 : decode cX12_isFact 0 = .ok (.iload_n 0, 1) := by decide +kernel
theorem dX12_isFact_1 : decode cX12_isFact 1 = .ok (.ifCond .ne 10, 3) := by decide +kernel
theorem dX12_isFact_4 : decode cX12_isFact 4 = .ok (.iload_n 1, 1) := by decide +kernel
theorem dX12_isFact_5 : decode cX12_isFact 5 = .ok (.invokestatic 174, 3) := by decide +kernel
theorem dX12_isFact_8 : decode cX12_isFact 8 = .ok (.goto 36, 3) := by decide +kernel
theorem dX12_isFact_11 : decode cX12_isFact 11 = .ok (.iload_n 0, 1) := by decide +kernel
theorem dX12_isFact_12 : decode cX12_isFact 12 = .ok (.iconst 1, 1) := by decide +kernel
theorem dX12_isFact_13 : decode cX12_isFact 13 = .ok (.if_icmp .ne 10, 3) := by decide +kernel
theorem dX12_isFact_16 : decode cX12_isFact 16 = .ok (.iload_n 1, 1) := by decide +kernel
theorem dX12_isFact_17 : decode cX12_isFact 17 = .ok (.invokestatic 192, 3) := by decide +kernel
theorem dX12_isFact_20 : decode cX12_isFact 20 = .ok (.goto 24, 3) := by decide +kernel
theorem dX12_isFact_23 : decode cX12_isFact 23 = .ok (.iload_n 0, 1) := by decide +kernel
theorem dX12_isFact_24 : decode cX12_isFact 24 = .ok (.iconst 2, 1) := by decide +kernel
theorem dX12_isFact_25 : decode cX12_isFact 25 = .ok (.if_icmp .ne 18, 3) := by decide +kernel
theorem dX12_isFact_28 : decode cX12_isFact 28 = .ok (.iload_n 1, 1) := by decide +kernel
theorem dX12_isFact_29 : decode cX12_isFact 29 = .ok (.iconst 1, 1) := by decide +kernel
theorem dX12_isFact_30 : decode cX12_isFact 30 = .ok (.sipush 240, 3) := by decide +kernel
theorem dX12_isFact_33 : decode cX12_isFact 33 = .ok (.invokestatic 156, 3) := by decide +kernel
theorem dX12_isFact_36 : decode cX12_isFact 36 = .ok (.ifCond .eq 7, 3) := by decide +kernel
theorem dX12_isFact_39 : decode cX12_isFact 39 = .ok (.iconst 1, 1) := by decide +kernel
theorem dX12_isFact_40 : decode cX12_isFact 40 = .ok (.goto 4, 3) := by decide +kernel
theorem dX12_isFact_43 : decode cX12_isFact 43 = .ok (.iconst 0, 1) := by decide +kernel
theorem dX12_isFact_44 : decode cX12_isFact 44 = .ok (.ireturn, 1) := by decide +kernel
def f_X12_isFact (x0 : Int32) (x1 : Int32) : Int32 := (if x0 = 0 then (f_X12_isCorner x1) else (if x0 = 1 then (f_X12_isKind x1) else (if x0 = 2 then (if (f_X12_lies x1 1 240) = 0 then 0 else 1) else 0)))
set_option maxRecDepth 20000 in
theorem T_X12_isFact {Q : Option Value → ah_T → Prop} {h : ah_T} (hs : Sh h) (x0 : Int32) (x1 : Int32) (ht : ((¬ x0 = 0 → ((¬ x0 = 1 → ((¬ x0 = 2 → Q (some (.int 0)) h) ∧ (x0 = 2 → (((f_X12_lies x1 1 240) = 0 → Q (some (.int 0)) h) ∧ (¬ (f_X12_lies x1 1 240) = 0 → Q (some (.int 1)) h))))) ∧ (x0 = 1 → Q (some (.int (f_X12_isKind x1))) h))) ∧ (x0 = 0 → Q (some (.int (f_X12_isCorner x1))) h))) : Mt mX12_isFact [.int x0, .int x1] h Q := by
  refine Mt.ofWp rfl (by exact (Nat.le_of_ble_eq_true rfl)) (Wp.fewer (L' := [some (.int x0), some (.int x1)]) (show ab_leL _ _ from ⟨rfl, ⟨rfl, trivial⟩⟩) ?_)
  refine ab_iload_n (i := 0) dX12_isFact_0 rfl rfl ?_
  refine ab_if_ne (tgt := 11) dX12_isFact_1 (by decide) (fun c1 => ?_) (fun c1 => ?_)
  · have ht := ht.1 c1
    refine ab_iload_n (i := 0) dX12_isFact_11 rfl rfl ?_
    refine ab_iconst (v := 1) dX12_isFact_12 (by decide) ?_
    refine ab_icmp_ne (tgt := 23) dX12_isFact_13 (by decide) (fun c2 => ?_) (fun c2 => ?_)
    · have ht := ht.1 c2
      refine ab_iload_n (i := 0) dX12_isFact_23 rfl rfl ?_
      refine ab_iconst (v := 2) dX12_isFact_24 (by decide) ?_
      refine ab_icmp_ne (tgt := 43) dX12_isFact_25 (by decide) (fun c3 => ?_) (fun c3 => ?_)
      · have ht := ht.1 c3
        refine ab_iconst (v := 0) dX12_isFact_43 (by decide) ?_
        exact ab_zret rfl rfl dX12_isFact_44 (Nat.le_of_ble_eq_true rfl) (Nat.le_of_ble_eq_true rfl) ht
      · have ht := ht.2 c3
        refine ab_iload_n (i := 1) dX12_isFact_28 rfl rfl ?_
        refine ab_iconst (v := 1) dX12_isFact_29 (by decide) ?_
        refine ab_sipush (v := 240) dX12_isFact_30 (by decide) ?_
        refine ab_callS (Q' := fun r h' => r = some (.int (f_X12_lies x1 1 240)) ∧ h = h') (As := [.int x1, .int 1, .int 240]) (c_X12_lies hs x1 1 240 ⟨rfl, rfl⟩) (Y_X12_lies) l_X12_156 st_X12_lies rfl ⟨(Nat.le_of_ble_eq_true rfl), (Nat.le_of_ble_eq_true rfl), (Nat.le_of_ble_eq_true rfl), (Nat.le_of_ble_eq_true rfl)⟩ dX12_isFact_33 ?_
        rintro _ _ ⟨rfl, rfl⟩
        refine ab_if_eq (tgt := 43) dX12_isFact_36 (by decide) (fun c4 => ?_) (fun c4 => ?_)
        · have ht := ht.1 c4
          refine ab_iconst (v := 0) dX12_isFact_43 (by decide) ?_
          exact ab_zret rfl rfl dX12_isFact_44 (Nat.le_of_ble_eq_true rfl) (Nat.le_of_ble_eq_true rfl) ht
        · have ht := ht.2 c4
          refine ab_iconst (v := 1) dX12_isFact_39 (by decide) ?_
          refine ab_goto (tgt := 44) dX12_isFact_40 (by decide) ?_
          exact ab_zret rfl rfl dX12_isFact_44 (Nat.le_of_ble_eq_true rfl) (Nat.le_of_ble_eq_true rfl) ht
    · have ht := ht.2 c2
      refine ab_iload_n (i := 1) dX12_isFact_16 rfl rfl ?_
      refine ab_callS (Q' := fun r h' => r = some (.int (f_X12_isKind x1)) ∧ h = h') (As := [.int x1]) (c_X12_isKind hs x1 ⟨rfl, rfl⟩) (Y_X12_isKind) l_X12_192 st_X12_isKind rfl ⟨(Nat.le_of_ble_eq_true rfl), (Nat.le_of_ble_eq_true rfl), (Nat.le_of_ble_eq_true rfl), (Nat.le_of_ble_eq_true rfl)⟩ dX12_isFact_17 ?_
      rintro _ _ ⟨rfl, rfl⟩
      refine ab_goto (tgt := 44) dX12_isFact_20 (by decide) ?_
      exact ab_zret rfl (ab_b_nar (b_X12_isKind ..)) dX12_isFact_44 (Nat.le_of_ble_eq_true rfl) (Nat.le_of_ble_eq_true rfl) ht
  · have ht := ht.2 c1
    refine ab_iload_n (i := 1) dX12_isFact_4 rfl rfl ?_
    refine ab_callS (Q' := fun r h' => r = some (.int (f_X12_isCorner x1)) ∧ h = h') (As := [.int x1]) (c_X12_isCorner hs x1 ⟨rfl, rfl⟩) (Y_X12_isCorner) l_X12_174 st_X12_isCorner rfl ⟨(Nat.le_of_ble_eq_true rfl), (Nat.le_of_ble_eq_true rfl), (Nat.le_of_ble_eq_true rfl), (Nat.le_of_ble_eq_true rfl)⟩ dX12_isFact_5 ?_
    rintro _ _ ⟨rfl, rfl⟩
    refine ab_goto (tgt := 44) dX12_isFact_8 (by decide) ?_
    exact ab_zret rfl (ab_b_nar (b_X12_isCorner ..)) dX12_isFact_44 (Nat.le_of_ble_eq_true rfl) (Nat.le_of_ble_eq_true rfl) ht
theorem c_X12_isFact {Q : Option Value → ah_T → Prop} {h : ah_T} (hs : Sh h) (x0 : Int32) (x1 : Int32)  (hq : Q (some (.int (f_X12_isFact x0 x1))) h) : Mt mX12_isFact [.int x0, .int x1] h Q := by
  refine T_X12_isFact hs x0 x1 ?_
  refine ⟨fun c1 => ?_, fun c1 => ?_⟩
  ·
    refine ⟨fun c2 => ?_, fun c2 => ?_⟩
    ·
      refine ⟨fun c3 => ?_, fun c3 => ?_⟩
      ·
        simpa only [f_X12_isFact, if_neg c1, if_neg c2, if_neg c3] using hq
      ·
        refine ⟨fun c4 => ?_, fun c4 => ?_⟩
        ·
          simpa only [f_X12_isFact, if_neg c1, if_neg c2, if_pos c3, if_pos c4] using hq
        ·
          simpa only [f_X12_isFact, if_neg c1, if_neg c2, if_pos c3, if_neg c4] using hq
    ·
      simpa only [f_X12_isFact, if_neg c1, if_pos c2] using hq
  ·
    simpa only [f_X12_isFact, if_pos c1] using hq
theorem b_X12_isFact {x0 : Int32} {x1 : Int32} : ab_b (f_X12_isFact x0 x1) := by
  unfold f_X12_isFact
  repeat' split
  all_goals first | exact ab_b0 | exact ab_b1 | with_reducible exact b_X12_lies | with_reducible exact b_X12_isCorner | with_reducible exact b_X12_isKind
theorem dX12_fact_0 : decode cX12_fact 0 = .ok (.aload_n 0, 1) := by decide +kernel
theorem dX12_fact_1 : decode cX12_fact 1 = .ok (.iload_n 1, 1) := by decide +kernel
theorem dX12_fact_2 : decode cX12_fact 2 = .ok (.invokevirtual 198, 3) := by decide +kernel
theorem dX12_fact_5 : decode cX12_fact 5 = .ok (.ifCond .eq 28, 3) := by decide +kernel
theorem dX12_fact_8 : decode cX12_fact 8 = .ok (.iload_n 2, 1) := by decide +kernel
theorem dX12_fact_9 : decode cX12_fact 9 = .ok (.iconst 0, 1) := by decide +kernel
theorem dX12_fact_10 : decode cX12_fact 10 = .ok (.iconst 2, 1) := by decide +kernel
theorem dX12_fact_11 : decode cX12_fact 11 = .ok (.invokestatic 156, 3) := by decide +kernel
theorem dX12_fact_14 : decode cX12_fact 14 = .ok (.ifCond .eq 19, 3) := by decide +kernel
theorem dX12_fact_17 : decode cX12_fact 17 = .ok (.aload_n 0, 1) := by decide +kernel
theorem dX12_fact_18 : decode cX12_fact 18 = .ok (.getfield 20, 3) := by decide +kernel
theorem dX12_fact_21 : decode cX12_fact 21 = .ok (.bipush 60, 2) := by decide +kernel
theorem dX12_fact_23 : decode cX12_fact 23 = .ok (.iconst 3, 1) := by decide +kernel
theorem dX12_fact_24 : decode cX12_fact 24 = .ok (.iload_n 1, 1) := by decide +kernel
theorem dX12_fact_25 : decode cX12_fact 25 = .ok (.imul, 1) := by decide +kernel
theorem dX12_fact_26 : decode cX12_fact 26 = .ok (.iadd, 1) := by decide +kernel
theorem dX12_fact_27 : decode cX12_fact 27 = .ok (.iload_n 2, 1) := by decide +kernel
theorem dX12_fact_28 : decode cX12_fact 28 = .ok (.iadd, 1) := by decide +kernel
theorem dX12_fact_29 : decode cX12_fact 29 = .ok (.iaload, 1) := by decide +kernel
theorem dX12_fact_30 : decode cX12_fact 30 = .ok (.goto 4, 3) := by decide +kernel
theorem dX12_fact_33 : decode cX12_fact 33 = .ok (.iconst (-1), 1) := by decide +kernel
theorem dX12_fact_34 : decode cX12_fact 34 = .ok (.ireturn, 1) := by decide +kernel
def f_X12_fact (h : ah_T) (x1 : Int32) (x2 : Int32) : Int32 := (if (f_X12_isLamp h x1) = 0 then (-1) else (if (f_X12_lies x2 0 2) = 0 then (-1) else (ah_i h 84 (Int32.toNatClampNeg ((60 + (3 * x1)) + x2)))))
set_option maxRecDepth 20000 in
theorem T_X12_fact {Q : Option Value → ah_T → Prop} {h : ah_T} (hs : Sh h) (x1 : Int32) (x2 : Int32) (ht : (((f_X12_isLamp h x1) = 0 → Q (some (.int (-1))) h) ∧ (¬ (f_X12_isLamp h x1) = 0 → (((f_X12_lies x2 0 2) = 0 → Q (some (.int (-1))) h) ∧ (¬ (f_X12_lies x2 0 2) = 0 → (vp_in ((60 + (3 * x1)) + x2) (ah_n h 84)) ∧ Q (some (.int (ah_i h 84 (Int32.toNatClampNeg ((60 + (3 * x1)) + x2))))) h))))) : Mt mX12_fact [.ref 82, .int x1, .int x2] h Q := by
  refine Mt.ofWp rfl (by exact (Nat.le_of_ble_eq_true rfl)) (Wp.fewer (L' := [some (.ref 82), some (.int x1), some (.int x2)]) (show ab_leL _ _ from ⟨rfl, ⟨rfl, ⟨rfl, trivial⟩⟩⟩) ?_)
  refine ab_aload_n (i := 0) dX12_fact_0 rfl rfl ?_
  refine ab_iload_n (i := 1) dX12_fact_1 rfl rfl ?_
  refine ab_callV (b := 82) (Q' := fun r h' => r = some (.int (f_X12_isLamp h x1)) ∧ h = h') (As := [.int x1]) (c_X12_isLamp hs x1 ⟨rfl, rfl⟩) (Y_X12_isLamp) l_X12_198 in_X12_isLamp se_X12_isLamp (sh_k hs 82 12 (by decide) rfl) (by decide) rfl rfl ⟨(Nat.le_of_ble_eq_true rfl), (Nat.le_of_ble_eq_true rfl), (Nat.le_of_ble_eq_true rfl), (Nat.le_of_ble_eq_true rfl)⟩ dX12_fact_2 ?_
  rintro _ _ ⟨rfl, rfl⟩
  refine ab_if_eq (tgt := 33) dX12_fact_5 (by decide) (fun c1 => ?_) (fun c1 => ?_)
  · have ht := ht.1 c1
    refine ab_iconst (v := (-1)) dX12_fact_33 (by decide) ?_
    exact ab_iret rfl dX12_fact_34 (Nat.le_of_ble_eq_true rfl) (Nat.le_of_ble_eq_true rfl) ht
  · have ht := ht.2 c1
    refine ab_iload_n (i := 2) dX12_fact_8 rfl rfl ?_
    refine ab_iconst (v := 0) dX12_fact_9 (by decide) ?_
    refine ab_iconst (v := 2) dX12_fact_10 (by decide) ?_
    refine ab_callS (Q' := fun r h' => r = some (.int (f_X12_lies x2 0 2)) ∧ h = h') (As := [.int x2, .int 0, .int 2]) (c_X12_lies hs x2 0 2 ⟨rfl, rfl⟩) (Y_X12_lies) l_X12_156 st_X12_lies rfl ⟨(Nat.le_of_ble_eq_true rfl), (Nat.le_of_ble_eq_true rfl), (Nat.le_of_ble_eq_true rfl), (Nat.le_of_ble_eq_true rfl)⟩ dX12_fact_11 ?_
    rintro _ _ ⟨rfl, rfl⟩
    refine ab_if_eq (tgt := 33) dX12_fact_14 (by decide) (fun c2 => ?_) (fun c2 => ?_)
    · have ht := ht.1 c2
      refine ab_iconst (v := (-1)) dX12_fact_33 (by decide) ?_
      exact ab_iret rfl dX12_fact_34 (Nat.le_of_ble_eq_true rfl) (Nat.le_of_ble_eq_true rfl) ht
    · have ht := ht.2 c2
      refine ab_aload_n (i := 0) dX12_fact_17 rfl rfl ?_
      refine ab_getR (b := 84) f_X12_20 rfl (sh_k hs 82 12 (by decide) rfl) (sh_r hs 100 rfl) dX12_fact_18 ?_
      refine ab_bipush (v := 60) dX12_fact_21 (by decide) ?_
      refine ab_iconst (v := 3) dX12_fact_23 (by decide) ?_
      refine ab_iload_n (i := 1) dX12_fact_24 rfl rfl ?_
      refine ab_imul dX12_fact_25 ?_
      refine ab_iadd dX12_fact_26 ?_
      refine ab_iload_n (i := 2) dX12_fact_27 rfl rfl ?_
      refine ab_iadd dX12_fact_28 ?_
      obtain ⟨hc3, ht⟩ := ht
      refine ab_iald (sh_k hs 84 14 (by decide) rfl) hc3 dX12_fact_29 ?_
      refine ab_goto (tgt := 34) dX12_fact_30 (by decide) ?_
      exact ab_iret rfl dX12_fact_34 (Nat.le_of_ble_eq_true rfl) (Nat.le_of_ble_eq_true rfl) ht
theorem c_X12_fact {Q : Option Value → ah_T → Prop} {h : ah_T} (hs : Sh h) (x1 : Int32) (x2 : Int32) (ok0 : (¬ (f_X12_isLamp h x1) = 0 → (¬ (f_X12_lies x2 0 2) = 0 → vp_in ((60 + (3 * x1)) + x2) (ah_n h 84)))) (hq : Q (some (.int (f_X12_fact h x1 x2))) h) : Mt mX12_fact [.ref 82, .int x1, .int x2] h Q := by
  refine T_X12_fact hs x1 x2 ?_
  refine ⟨fun c1 => ?_, fun c1 => ?_⟩
  ·
    simpa only [f_X12_fact, if_pos c1] using hq
  ·
    refine ⟨fun c2 => ?_, fun c2 => ?_⟩
    ·
      simpa only [f_X12_fact, if_neg c1, if_pos c2] using hq
    ·
      refine ⟨ok0 c1 c2, ?_⟩
      simpa only [f_X12_fact, if_neg c1, if_neg c2] using hq
theorem dX12_ash_0 : decode cX12_ash 0 = .ok (.aload_n 0, 1) := by decide +kernel
theorem dX12_ash_1 : decode cX12_ash 1 = .ok (.getfield 217, 3) := by decide +kernel
theorem dX12_ash_4 : decode cX12_ash 4 = .ok (.ireturn, 1) := by decide +kernel
def f_X12_ash (h : ah_T)  : Int32 := (ah_i h 82 6)
set_option maxRecDepth 20000 in
theorem T_X12_ash {Q : Option Value → ah_T → Prop} {h : ah_T} (hs : Sh h)  (ht : Q (some (.int (ah_i h 82 6))) h) : Mt mX12_ash [.ref 82] h Q := by
  refine Mt.ofWp rfl (by exact (Nat.le_of_ble_eq_true rfl)) (Wp.fewer (L' := [some (.ref 82)]) (show ab_leL _ _ from ⟨rfl, trivial⟩) ?_)
  refine ab_aload_n (i := 0) dX12_ash_0 rfl rfl ?_
  refine ab_getI f_X12_217 rfl (sh_k hs 82 12 (by decide) rfl) dX12_ash_1 ?_
  exact ab_iret rfl dX12_ash_4 (Nat.le_of_ble_eq_true rfl) (Nat.le_of_ble_eq_true rfl) ht
theorem c_X12_ash {Q : Option Value → ah_T → Prop} {h : ah_T} (hs : Sh h)   (hq : Q (some (.int (f_X12_ash h))) h) : Mt mX12_ash [.ref 82] h Q := by
  refine T_X12_ash hs  ?_
  simpa only [f_X12_ash] using hq
theorem dX12_isSmall_0 : decode cX12_isSmall 0 = .ok (.iload_n 0, 1) := by decide +kernel
theorem dX12_isSmall_1 : decode cX12_isSmall 1 = .ok (.bipush 97, 2) := by decide +kernel
theorem dX12_isSmall_3 : decode cX12_isSmall 3 = .ok (.if_icmp .lt 13, 3) := by decide +kernel
theorem dX12_isSmall_6 : decode cX12_isSmall 6 = .ok (.iload_n 0, 1) := by decide +kernel
theorem dX12_isSmall_7 : decode cX12_isSmall 7 = .ok (.bipush 122, 2) := by decide +kernel
theorem dX12_isSmall_9 : decode cX12_isSmall 9 = .ok (.if_icmp .gt 7, 3) := by decide +kernel
theorem dX12_isSmall_12 : decode cX12_isSmall 12 = .ok (.iconst 1, 1) := by decide +kernel
theorem dX12_isSmall_13 : decode cX12_isSmall 13 = .ok (.goto 4, 3) := by decide +kernel
theorem dX12_isSmall_16 : decode cX12_isSmall 16 = .ok (.iconst 0, 1) := by decide +kernel
theorem dX12_isSmall_17 : decode cX12_isSmall 17 = .ok (.ireturn, 1) := by decide +kernel
def f_X12_isSmall (x0 : Int32) : Int32 := (if x0 < 97 then 0 else (if 122 < x0 then 0 else 1))
set_option maxRecDepth 20000 in
theorem T_X12_isSmall {Q : Option Value → ah_T → Prop} {h : ah_T} (hs : Sh h) (x0 : Int32) (ht : ((x0 < 97 → Q (some (.int 0)) h) ∧ (¬ x0 < 97 → ((122 < x0 → Q (some (.int 0)) h) ∧ (¬ 122 < x0 → Q (some (.int 1)) h))))) : Mt mX12_isSmall [.int x0] h Q := by
  refine Mt.ofWp rfl (by exact (Nat.le_of_ble_eq_true rfl)) (Wp.fewer (L' := [some (.int x0)]) (show ab_leL _ _ from ⟨rfl, trivial⟩) ?_)
  refine ab_iload_n (i := 0) dX12_isSmall_0 rfl rfl ?_
  refine ab_bipush (v := 97) dX12_isSmall_1 (by decide) ?_
  refine ab_icmp_lt (tgt := 16) dX12_isSmall_3 (by decide) (fun c1 => ?_) (fun c1 => ?_)
  · have ht := ht.1 c1
    refine ab_iconst (v := 0) dX12_isSmall_16 (by decide) ?_
    exact ab_zret rfl rfl dX12_isSmall_17 (Nat.le_of_ble_eq_true rfl) (Nat.le_of_ble_eq_true rfl) ht
  · have ht := ht.2 c1
    refine ab_iload_n (i := 0) dX12_isSmall_6 rfl rfl ?_
    refine ab_bipush (v := 122) dX12_isSmall_7 (by decide) ?_
    refine ab_icmp_gt (tgt := 16) dX12_isSmall_9 (by decide) (fun c2 => ?_) (fun c2 => ?_)
    · have ht := ht.1 c2
      refine ab_iconst (v := 0) dX12_isSmall_16 (by decide) ?_
      exact ab_zret rfl rfl dX12_isSmall_17 (Nat.le_of_ble_eq_true rfl) (Nat.le_of_ble_eq_true rfl) ht
    · have ht := ht.2 c2
      refine ab_iconst (v := 1) dX12_isSmall_12 (by decide) ?_
      refine ab_goto (tgt := 17) dX12_isSmall_13 (by decide) ?_
      exact ab_zret rfl rfl dX12_isSmall_17 (Nat.le_of_ble_eq_true rfl) (Nat.le_of_ble_eq_true rfl) ht
theorem c_X12_isSmall {Q : Option Value → ah_T → Prop} {h : ah_T} (hs : Sh h) (x0 : Int32)  (hq : Q (some (.int (f_X12_isSmall x0))) h) : Mt mX12_isSmall [.int x0] h Q := by
  refine T_X12_isSmall hs x0 ?_
  refine ⟨fun c1 => ?_, fun c1 => ?_⟩
  ·
    simpa only [f_X12_isSmall, if_pos c1] using hq
  ·
    refine ⟨fun c2 => ?_, fun c2 => ?_⟩
    ·
      simpa only [f_X12_isSmall, if_neg c1, if_pos c2] using hq
    ·
      simpa only [f_X12_isSmall, if_neg c1, if_neg c2] using hq
theorem b_X12_isSmall {x0 : Int32} : ab_b (f_X12_isSmall x0) := by
  unfold f_X12_isSmall
  repeat' split
  all_goals first | exact ab_b0 | exact ab_b1
theorem dX12_isDigit_0 : decode cX12_isDigit 0 = .ok (.iload_n 0, 1) := by decide +kernel
theorem dX12_isDigit_1 : decode cX12_isDigit 1 = .ok (.bipush 48, 2) := by decide +kernel
theorem dX12_isDigit_3 : decode cX12_isDigit 3 = .ok (.if_icmp .lt 13, 3) := by decide +kernel
theorem dX12_isDigit_6 : decode cX12_isDigit 6 = .ok (.iload_n 0, 1) := by decide +kernel
theorem dX12_isDigit_7 : decode cX12_isDigit 7 = .ok (.bipush 57, 2) := by decide +kernel
theorem dX12_isDigit_9 : decode cX12_isDigit 9 = .ok (.if_icmp .gt 7, 3) := by decide +kernel
theorem dX12_isDigit_12 : decode cX12_isDigit 12 = .ok (.iconst 1, 1) := by decide +kernel
theorem dX12_isDigit_13 : decode cX12_isDigit 13 = .ok (.goto 4, 3) := by decide +kernel
theorem dX12_isDigit_16 : decode cX12_isDigit 16 = .ok (.iconst 0, 1) := by decide +kernel
theorem dX12_isDigit_17 : decode cX12_isDigit 17 = .ok (.ireturn, 1) := by decide +kernel
def f_X12_isDigit (x0 : Int32) : Int32 := (if x0 < 48 then 0 else (if 57 < x0 then 0 else 1))
set_option maxRecDepth 20000 in
theorem T_X12_isDigit {Q : Option Value → ah_T → Prop} {h : ah_T} (hs : Sh h) (x0 : Int32) (ht : ((x0 < 48 → Q (some (.int 0)) h) ∧ (¬ x0 < 48 → ((57 < x0 → Q (some (.int 0)) h) ∧ (¬ 57 < x0 → Q (some (.int 1)) h))))) : Mt mX12_isDigit [.int x0] h Q := by
  refine Mt.ofWp rfl (by exact (Nat.le_of_ble_eq_true rfl)) (Wp.fewer (L' := [some (.int x0)]) (show ab_leL _ _ from ⟨rfl, trivial⟩) ?_)
  refine ab_iload_n (i := 0) dX12_isDigit_0 rfl rfl ?_
  refine ab_bipush (v := 48) dX12_isDigit_1 (by decide) ?_
  refine ab_icmp_lt (tgt := 16) dX12_isDigit_3 (by decide) (fun c1 => ?_) (fun c1 => ?_)
  · have ht := ht.1 c1
    refine ab_iconst (v := 0) dX12_isDigit_16 (by decide) ?_
    exact ab_zret rfl rfl dX12_isDigit_17 (Nat.le_of_ble_eq_true rfl) (Nat.le_of_ble_eq_true rfl) ht
  · have ht := ht.2 c1
    refine ab_iload_n (i := 0) dX12_isDigit_6 rfl rfl ?_
    refine ab_bipush (v := 57) dX12_isDigit_7 (by decide) ?_
    refine ab_icmp_gt (tgt := 16) dX12_isDigit_9 (by decide) (fun c2 => ?_) (fun c2 => ?_)
    · have ht := ht.1 c2
      refine ab_iconst (v := 0) dX12_isDigit_16 (by decide) ?_
      exact ab_zret rfl rfl dX12_isDigit_17 (Nat.le_of_ble_eq_true rfl) (Nat.le_of_ble_eq_true rfl) ht
    · have ht := ht.2 c2
      refine ab_iconst (v := 1) dX12_isDigit_12 (by decide) ?_
      refine ab_goto (tgt := 17) dX12_isDigit_13 (by decide) ?_
      exact ab_zret rfl rfl dX12_isDigit_17 (Nat.le_of_ble_eq_true rfl) (Nat.le_of_ble_eq_true rfl) ht
theorem c_X12_isDigit {Q : Option Value → ah_T → Prop} {h : ah_T} (hs : Sh h) (x0 : Int32)  (hq : Q (some (.int (f_X12_isDigit x0))) h) : Mt mX12_isDigit [.int x0] h Q := by
  refine T_X12_isDigit hs x0 ?_
  refine ⟨fun c1 => ?_, fun c1 => ?_⟩
  ·
    simpa only [f_X12_isDigit, if_pos c1] using hq
  ·
    refine ⟨fun c2 => ?_, fun c2 => ?_⟩
    ·
      simpa only [f_X12_isDigit, if_neg c1, if_pos c2] using hq
    ·
      simpa only [f_X12_isDigit, if_neg c1, if_neg c2] using hq
theorem b_X12_isDigit {x0 : Int32} : ab_b (f_X12_isDigit x0) := by
  unfold f_X12_isDigit
  repeat' split
  all_goals first | exact ab_b0 | exact ab_b1
theorem dX12_fine_0 : decode cX12_fine 0 = .ok (.aload_n 0, 1) := by decide +kernel
theorem dX12_fine_1 : decode cX12_fine 1 = .ok (.getfield 233, 3) := by decide +kernel
theorem dX12_fine_4 : decode cX12_fine 4 = .ok (.iconst (-1), 1) := by decide +kernel
theorem dX12_fine_5 : decode cX12_fine 5 = .ok (.if_icmp .ne 7, 3) := by decide +kernel
theorem dX12_fine_8 : decode cX12_fine 8 = .ok (.iconst 1, 1) := by decide +kernel
theorem dX12_fine_9 : decode cX12_fine 9 = .ok (.goto 4, 3) := by decide +kernel
theorem dX12_fine_12 : decode cX12_fine 12 = .ok (.iconst 0, 1) := by decide +kernel
theorem dX12_fine_13 : decode cX12_fine 13 = .ok (.ireturn, 1) := by decide +kernel
def f_X12_fine (h : ah_T)  : Int32 := (if (ah_i h 82 19) = (-1) then 1 else 0)
set_option maxRecDepth 20000 in
theorem T_X12_fine {Q : Option Value → ah_T → Prop} {h : ah_T} (hs : Sh h)  (ht : ((¬ (ah_i h 82 19) = (-1) → Q (some (.int 0)) h) ∧ ((ah_i h 82 19) = (-1) → Q (some (.int 1)) h))) : Mt mX12_fine [.ref 82] h Q := by
  refine Mt.ofWp rfl (by exact (Nat.le_of_ble_eq_true rfl)) (Wp.fewer (L' := [some (.ref 82)]) (show ab_leL _ _ from ⟨rfl, trivial⟩) ?_)
  refine ab_aload_n (i := 0) dX12_fine_0 rfl rfl ?_
  refine ab_getI f_X12_233 rfl (sh_k hs 82 12 (by decide) rfl) dX12_fine_1 ?_
  refine ab_iconst (v := (-1)) dX12_fine_4 (by decide) ?_
  refine ab_icmp_ne (tgt := 12) dX12_fine_5 (by decide) (fun c1 => ?_) (fun c1 => ?_)
  · have ht := ht.1 c1
    refine ab_iconst (v := 0) dX12_fine_12 (by decide) ?_
    exact ab_zret rfl rfl dX12_fine_13 (Nat.le_of_ble_eq_true rfl) (Nat.le_of_ble_eq_true rfl) ht
  · have ht := ht.2 c1
    refine ab_iconst (v := 1) dX12_fine_8 (by decide) ?_
    refine ab_goto (tgt := 13) dX12_fine_9 (by decide) ?_
    exact ab_zret rfl rfl dX12_fine_13 (Nat.le_of_ble_eq_true rfl) (Nat.le_of_ble_eq_true rfl) ht
theorem c_X12_fine {Q : Option Value → ah_T → Prop} {h : ah_T} (hs : Sh h)   (hq : Q (some (.int (f_X12_fine h))) h) : Mt mX12_fine [.ref 82] h Q := by
  refine T_X12_fine hs  ?_
  refine ⟨fun c1 => ?_, fun c1 => ?_⟩
  ·
    simpa only [f_X12_fine, if_neg c1] using hq
  ·
    simpa only [f_X12_fine, if_pos c1] using hq
theorem b_X12_fine {h : ah_T}  : ab_b (f_X12_fine h) := by
  unfold f_X12_fine
  repeat' split
  all_goals first | exact ab_b0 | exact ab_b1
theorem dX12_sign_0 : decode cX12_sign 0 = .ok (.bipush 100, 2) := by decide +kernel
theorem dX12_sign_2 : decode cX12_sign 2 = .ok (.iload_n 0, 1) := by decide +kernel
theorem dX12_sign_3 : decode cX12_sign 3 = .ok (.iadd, 1) := by decide +kernel
theorem dX12_sign_4 : decode cX12_sign 4 = .ok (.ireturn, 1) := by decide +kernel
def f_X12_sign (x0 : Int32) : Int32 := (100 + x0)
set_option maxRecDepth 20000 in
theorem T_X12_sign {Q : Option Value → ah_T → Prop} {h : ah_T} (hs : Sh h) (x0 : Int32) (ht : Q (some (.int (100 + x0))) h) : Mt mX12_sign [.int x0] h Q := by
  refine Mt.ofWp rfl (by exact (Nat.le_of_ble_eq_true rfl)) (Wp.fewer (L' := [some (.int x0)]) (show ab_leL _ _ from ⟨rfl, trivial⟩) ?_)
  refine ab_bipush (v := 100) dX12_sign_0 (by decide) ?_
  refine ab_iload_n (i := 0) dX12_sign_2 rfl rfl ?_
  refine ab_iadd dX12_sign_3 ?_
  exact ab_iret rfl dX12_sign_4 (Nat.le_of_ble_eq_true rfl) (Nat.le_of_ble_eq_true rfl) ht
theorem c_X12_sign {Q : Option Value → ah_T → Prop} {h : ah_T} (hs : Sh h) (x0 : Int32)  (hq : Q (some (.int (f_X12_sign x0))) h) : Mt mX12_sign [.int x0] h Q := by
  refine T_X12_sign hs x0 ?_
  simpa only [f_X12_sign] using hq
theorem dX12_isValue_0 : decode cX12_isValue 0 = .ok (.aload_n 0, 1) := by decide +kernel
theorem dX12_isValue_1 : decode cX12_isValue 1 = .ok (.getfield 252, 3) := by decide +kernel
theorem dX12_isValue_4 : decode cX12_isValue 4 = .ok (.ifCond .eq 28, 3) := by decide +kernel
theorem dX12_isValue_7 : decode cX12_isValue 7 = .ok (.iload_n 1, 1) := by decide +kernel
theorem dX12_isValue_8 : decode cX12_isValue 8 = .ok (.bipush 14, 2) := by decide +kernel
theorem dX12_isValue_10 : decode cX12_isValue 10 = .ok (.if_icmp .eq 14, 3) := by decide +kernel
theorem dX12_isValue_13 : decode cX12_isValue 13 = .ok (.iload_n 1, 1) := by decide +kernel
theorem dX12_isValue_14 : decode cX12_isValue 14 = .ok (.bipush 16, 2) := by decide +kernel
theorem dX12_isValue_16 : decode cX12_isValue 16 = .ok (.bipush 20, 2) := by decide +kernel
theorem dX12_isValue_18 : decode cX12_isValue 18 = .ok (.invokestatic 156, 3) := by decide +kernel
theorem dX12_isValue_21 : decode cX12_isValue 21 = .ok (.ifCond .eq 7, 3) := by decide +kernel
theorem dX12_isValue_24 : decode cX12_isValue 24 = .ok (.iconst 1, 1) := by decide +kernel
theorem dX12_isValue_25 : decode cX12_isValue 25 = .ok (.goto 15, 3) := by decide +kernel
theorem dX12_isValue_28 : decode cX12_isValue 28 = .ok (.iconst 0, 1) := by decide +kernel
theorem dX12_isValue_29 : decode cX12_isValue 29 = .ok (.goto 11, 3) := by decide +kernel
theorem dX12_isValue_32 : decode cX12_isValue 32 = .ok (.iload_n 1, 1) := by decide +kernel
theorem dX12_isValue_33 : decode cX12_isValue 33 = .ok (.bipush 8, 2) := by decide +kernel
theorem dX12_isValue_35 : decode cX12_isValue 35 = .ok (.bipush 15, 2) := by decide +kernel
theorem dX12_isValue_37 : decode cX12_isValue 37 = .ok (.invokestatic 156, 3) := by decide +kernel
theorem dX12_isValue_40 : decode cX12_isValue 40 = .ok (.ireturn, 1) := by decide +kernel
def f_X12_isValue (h : ah_T) (x1 : Int32) : Int32 := (if (ah_i h 82 8) = 0 then (f_X12_lies x1 8 15) else (if x1 = 14 then 1 else (if (f_X12_lies x1 16 20) = 0 then 0 else 1)))
set_option maxRecDepth 20000 in
theorem T_X12_isValue {Q : Option Value → ah_T → Prop} {h : ah_T} (hs : Sh h) (x1 : Int32) (ht : (((ah_i h 82 8) = 0 → Q (some (.int (f_X12_lies x1 8 15))) h) ∧ (¬ (ah_i h 82 8) = 0 → ((x1 = 14 → Q (some (.int 1)) h) ∧ (¬ x1 = 14 → (((f_X12_lies x1 16 20) = 0 → Q (some (.int 0)) h) ∧ (¬ (f_X12_lies x1 16 20) = 0 → Q (some (.int 1)) h))))))) : Mt mX12_isValue [.ref 82, .int x1] h Q := by
  refine Mt.ofWp rfl (by exact (Nat.le_of_ble_eq_true rfl)) (Wp.fewer (L' := [some (.ref 82), some (.int x1)]) (show ab_leL _ _ from ⟨rfl, ⟨rfl, trivial⟩⟩) ?_)
  refine ab_aload_n (i := 0) dX12_isValue_0 rfl rfl ?_
  refine ab_getI f_X12_252 rfl (sh_k hs 82 12 (by decide) rfl) dX12_isValue_1 ?_
  refine ab_if_eq (tgt := 32) dX12_isValue_4 (by decide) (fun c1 => ?_) (fun c1 => ?_)
  · have ht := ht.1 c1
    refine ab_iload_n (i := 1) dX12_isValue_32 rfl rfl ?_
    refine ab_bipush (v := 8) dX12_isValue_33 (by decide) ?_
    refine ab_bipush (v := 15) dX12_isValue_35 (by decide) ?_
    refine ab_callS (Q' := fun r h' => r = some (.int (f_X12_lies x1 8 15)) ∧ h = h') (As := [.int x1, .int 8, .int 15]) (c_X12_lies hs x1 8 15 ⟨rfl, rfl⟩) (Y_X12_lies) l_X12_156 st_X12_lies rfl ⟨(Nat.le_of_ble_eq_true rfl), (Nat.le_of_ble_eq_true rfl), (Nat.le_of_ble_eq_true rfl), (Nat.le_of_ble_eq_true rfl)⟩ dX12_isValue_37 ?_
    rintro _ _ ⟨rfl, rfl⟩
    exact ab_zret rfl (ab_b_nar (b_X12_lies ..)) dX12_isValue_40 (Nat.le_of_ble_eq_true rfl) (Nat.le_of_ble_eq_true rfl) ht
  · have ht := ht.2 c1
    refine ab_iload_n (i := 1) dX12_isValue_7 rfl rfl ?_
    refine ab_bipush (v := 14) dX12_isValue_8 (by decide) ?_
    refine ab_icmp_eq (tgt := 24) dX12_isValue_10 (by decide) (fun c2 => ?_) (fun c2 => ?_)
    · have ht := ht.1 c2
      refine ab_iconst (v := 1) dX12_isValue_24 (by decide) ?_
      refine ab_goto (tgt := 40) dX12_isValue_25 (by decide) ?_
      exact ab_zret rfl rfl dX12_isValue_40 (Nat.le_of_ble_eq_true rfl) (Nat.le_of_ble_eq_true rfl) ht
    · have ht := ht.2 c2
      refine ab_iload_n (i := 1) dX12_isValue_13 rfl rfl ?_
      refine ab_bipush (v := 16) dX12_isValue_14 (by decide) ?_
      refine ab_bipush (v := 20) dX12_isValue_16 (by decide) ?_
      refine ab_callS (Q' := fun r h' => r = some (.int (f_X12_lies x1 16 20)) ∧ h = h') (As := [.int x1, .int 16, .int 20]) (c_X12_lies hs x1 16 20 ⟨rfl, rfl⟩) (Y_X12_lies) l_X12_156 st_X12_lies rfl ⟨(Nat.le_of_ble_eq_true rfl), (Nat.le_of_ble_eq_true rfl), (Nat.le_of_ble_eq_true rfl), (Nat.le_of_ble_eq_true rfl)⟩ dX12_isValue_18 ?_
      rintro _ _ ⟨rfl, rfl⟩
      refine ab_if_eq (tgt := 28) dX12_isValue_21 (by decide) (fun c3 => ?_) (fun c3 => ?_)
      · have ht := ht.1 c3
        refine ab_iconst (v := 0) dX12_isValue_28 (by decide) ?_
        refine ab_goto (tgt := 40) dX12_isValue_29 (by decide) ?_
        exact ab_zret rfl rfl dX12_isValue_40 (Nat.le_of_ble_eq_true rfl) (Nat.le_of_ble_eq_true rfl) ht
      · have ht := ht.2 c3
        refine ab_iconst (v := 1) dX12_isValue_24 (by decide) ?_
        refine ab_goto (tgt := 40) dX12_isValue_25 (by decide) ?_
        exact ab_zret rfl rfl dX12_isValue_40 (Nat.le_of_ble_eq_true rfl) (Nat.le_of_ble_eq_true rfl) ht
theorem c_X12_isValue {Q : Option Value → ah_T → Prop} {h : ah_T} (hs : Sh h) (x1 : Int32)  (hq : Q (some (.int (f_X12_isValue h x1))) h) : Mt mX12_isValue [.ref 82, .int x1] h Q := by
  refine T_X12_isValue hs x1 ?_
  refine ⟨fun c1 => ?_, fun c1 => ?_⟩
  ·
    simpa only [f_X12_isValue, if_pos c1] using hq
  ·
    refine ⟨fun c2 => ?_, fun c2 => ?_⟩
    ·
      simpa only [f_X12_isValue, if_neg c1, if_pos c2] using hq
    ·
      refine ⟨fun c3 => ?_, fun c3 => ?_⟩
      ·
        simpa only [f_X12_isValue, if_neg c1, if_neg c2, if_pos c3] using hq
      ·
        simpa only [f_X12_isValue, if_neg c1, if_neg c2, if_neg c3] using hq
theorem b_X12_isValue {h : ah_T} {x1 : Int32} : ab_b (f_X12_isValue h x1) := by
  unfold f_X12_isValue
  repeat' split
  all_goals first | exact ab_b0 | exact ab_b1 | with_reducible exact b_X12_lies
theorem dX12_fault_0 : decode cX12_fault 0 = .ok (.aload_n 0, 1) := by decide +kernel
theorem dX12_fault_1 : decode cX12_fault 1 = .ok (.getfield 40, 3) := by decide +kernel
theorem dX12_fault_4 : decode cX12_fault 4 = .ok (.ireturn, 1) := by decide +kernel
def f_X12_fault (h : ah_T)  : Int32 := (ah_i h 82 12)
set_option maxRecDepth 20000 in
theorem T_X12_fault {Q : Option Value → ah_T → Prop} {h : ah_T} (hs : Sh h)  (ht : Q (some (.int (ah_i h 82 12))) h) : Mt mX12_fault [.ref 82] h Q := by
  refine Mt.ofWp rfl (by exact (Nat.le_of_ble_eq_true rfl)) (Wp.fewer (L' := [some (.ref 82)]) (show ab_leL _ _ from ⟨rfl, trivial⟩) ?_)
  refine ab_aload_n (i := 0) dX12_fault_0 rfl rfl ?_
  refine ab_getI f_X12_40 rfl (sh_k hs 82 12 (by decide) rfl) dX12_fault_1 ?_
  exact ab_iret rfl dX12_fault_4 (Nat.le_of_ble_eq_true rfl) (Nat.le_of_ble_eq_true rfl) ht
theorem c_X12_fault {Q : Option Value → ah_T → Prop} {h : ah_T} (hs : Sh h)   (hq : Q (some (.int (f_X12_fault h))) h) : Mt mX12_fault [.ref 82] h Q := by
  refine T_X12_fault hs  ?_
  simpa only [f_X12_fault] using hq
theorem dX12_codeAt_0 : decode cX12_codeAt 0 = .ok (.iload_n 1, 1) := by decide +kernel
theorem dX12_codeAt_1 : decode cX12_codeAt 1 = .ok (.aload_n 0, 1) := by decide +kernel
theorem dX12_codeAt_2 : decode cX12_codeAt 2 = .ok (.getfield 306, 3) := by decide +kernel
theorem dX12_codeAt_5 : decode cX12_codeAt 5 = .ok (.if_icmp .ge 16, 3) := by decide +kernel
theorem dX12_codeAt_8 : decode cX12_codeAt 8 = .ok (.aload_n 0, 1) := by decide +kernel
theorem dX12_codeAt_9 : decode cX12_codeAt 9 = .ok (.getfield 20, 3) := by decide +kernel
theorem dX12_codeAt_12 : decode cX12_codeAt 12 = .ok (.sipush 260, 3) := by decide +kernel
theorem dX12_codeAt_15 : decode cX12_codeAt 15 = .ok (.iload_n 1, 1) := by decide +kernel
theorem dX12_codeAt_16 : decode cX12_codeAt 16 = .ok (.iadd, 1) := by decide +kernel
theorem dX12_codeAt_17 : decode cX12_codeAt 17 = .ok (.iaload, 1) := by decide +kernel
theorem dX12_codeAt_18 : decode cX12_codeAt 18 = .ok (.goto 4, 3) := by decide +kernel
theorem dX12_codeAt_21 : decode cX12_codeAt 21 = .ok (.iconst 0, 1) := by decide +kernel
theorem dX12_codeAt_22 : decode cX12_codeAt 22 = .ok (.ireturn, 1) := by decide +kernel
def f_X12_codeAt (h : ah_T) (x1 : Int32) : Int32 := (if (ah_i h 82 21) ≤ x1 then 0 else (ah_i h 84 (Int32.toNatClampNeg (260 + x1))))
set_option maxRecDepth 20000 in
theorem T_X12_codeAt {Q : Option Value → ah_T → Prop} {h : ah_T} (hs : Sh h) (x1 : Int32) (ht : (((ah_i h 82 21) ≤ x1 → Q (some (.int 0)) h) ∧ (¬ (ah_i h 82 21) ≤ x1 → (vp_in (260 + x1) (ah_n h 84)) ∧ Q (some (.int (ah_i h 84 (Int32.toNatClampNeg (260 + x1))))) h))) : Mt mX12_codeAt [.ref 82, .int x1] h Q := by
  refine Mt.ofWp rfl (by exact (Nat.le_of_ble_eq_true rfl)) (Wp.fewer (L' := [some (.ref 82), some (.int x1)]) (show ab_leL _ _ from ⟨rfl, ⟨rfl, trivial⟩⟩) ?_)
  refine ab_iload_n (i := 1) dX12_codeAt_0 rfl rfl ?_
  refine ab_aload_n (i := 0) dX12_codeAt_1 rfl rfl ?_
  refine ab_getI f_X12_306 rfl (sh_k hs 82 12 (by decide) rfl) dX12_codeAt_2 ?_
  refine ab_icmp_ge (tgt := 21) dX12_codeAt_5 (by decide) (fun c1 => ?_) (fun c1 => ?_)
  · have ht := ht.1 c1
    refine ab_iconst (v := 0) dX12_codeAt_21 (by decide) ?_
    exact ab_iret rfl dX12_codeAt_22 (Nat.le_of_ble_eq_true rfl) (Nat.le_of_ble_eq_true rfl) ht
  · have ht := ht.2 c1
    refine ab_aload_n (i := 0) dX12_codeAt_8 rfl rfl ?_
    refine ab_getR (b := 84) f_X12_20 rfl (sh_k hs 82 12 (by decide) rfl) (sh_r hs 100 rfl) dX12_codeAt_9 ?_
    refine ab_sipush (v := 260) dX12_codeAt_12 (by decide) ?_
    refine ab_iload_n (i := 1) dX12_codeAt_15 rfl rfl ?_
    refine ab_iadd dX12_codeAt_16 ?_
    obtain ⟨hc2, ht⟩ := ht
    refine ab_iald (sh_k hs 84 14 (by decide) rfl) hc2 dX12_codeAt_17 ?_
    refine ab_goto (tgt := 22) dX12_codeAt_18 (by decide) ?_
    exact ab_iret rfl dX12_codeAt_22 (Nat.le_of_ble_eq_true rfl) (Nat.le_of_ble_eq_true rfl) ht
theorem c_X12_codeAt {Q : Option Value → ah_T → Prop} {h : ah_T} (hs : Sh h) (x1 : Int32) (ok0 : (¬ (ah_i h 82 21) ≤ x1 → vp_in (260 + x1) (ah_n h 84))) (hq : Q (some (.int (f_X12_codeAt h x1))) h) : Mt mX12_codeAt [.ref 82, .int x1] h Q := by
  refine T_X12_codeAt hs x1 ?_
  refine ⟨fun c1 => ?_, fun c1 => ?_⟩
  ·
    simpa only [f_X12_codeAt, if_pos c1] using hq
  ·
    refine ⟨ok0 c1, ?_⟩
    simpa only [f_X12_codeAt, if_neg c1] using hq
theorem dX12_oilOf_0 : decode cX12_oilOf 0 = .ok (.iload_n 1, 1) := by decide +kernel
theorem dX12_oilOf_1 : decode cX12_oilOf 1 = .ok (.aload_n 0, 1) := by decide +kernel
theorem dX12_oilOf_2 : decode cX12_oilOf 2 = .ok (.getfield 20, 3) := by decide +kernel
theorem dX12_oilOf_5 : decode cX12_oilOf 5 = .ok (.sipush 246, 3) := by decide +kernel
theorem dX12_oilOf_8 : decode cX12_oilOf 8 = .ok (.iaload, 1) := by decide +kernel
theorem dX12_oilOf_9 : decode cX12_oilOf 9 = .ok (.if_icmp .ge 19, 3) := by decide +kernel
theorem dX12_oilOf_12 : decode cX12_oilOf 12 = .ok (.aload_n 0, 1) := by decide +kernel
theorem dX12_oilOf_13 : decode cX12_oilOf 13 = .ok (.getfield 20, 3) := by decide +kernel
theorem dX12_oilOf_16 : decode cX12_oilOf 16 = .ok (.bipush 60, 2) := by decide +kernel
theorem dX12_oilOf_18 : decode cX12_oilOf 18 = .ok (.iconst 3, 1) := by decide +kernel
theorem dX12_oilOf_19 : decode cX12_oilOf 19 = .ok (.iload_n 1, 1) := by decide +kernel
theorem dX12_oilOf_20 : decode cX12_oilOf 20 = .ok (.imul, 1) := by decide +kernel
theorem dX12_oilOf_21 : decode cX12_oilOf 21 = .ok (.iadd, 1) := by decide +kernel
theorem dX12_oilOf_22 : decode cX12_oilOf 22 = .ok (.iconst 2, 1) := by decide +kernel
theorem dX12_oilOf_23 : decode cX12_oilOf 23 = .ok (.iadd, 1) := by decide +kernel
theorem dX12_oilOf_24 : decode cX12_oilOf 24 = .ok (.iaload, 1) := by decide +kernel
theorem dX12_oilOf_25 : decode cX12_oilOf 25 = .ok (.goto 6, 3) := by decide +kernel
theorem dX12_oilOf_28 : decode cX12_oilOf 28 = .ok (.sipush 240, 3) := by decide +kernel
theorem dX12_oilOf_31 : decode cX12_oilOf 31 = .ok (.ireturn, 1) := by decide +kernel
def f_X12_oilOf (h : ah_T) (x1 : Int32) : Int32 := (if (ah_i h 84 (Int32.toNatClampNeg 246)) ≤ x1 then 240 else (ah_i h 84 (Int32.toNatClampNeg ((60 + (3 * x1)) + 2))))
set_option maxRecDepth 20000 in
theorem T_X12_oilOf {Q : Option Value → ah_T → Prop} {h : ah_T} (hs : Sh h) (x1 : Int32) (ht : (((ah_i h 84 (Int32.toNatClampNeg 246)) ≤ x1 → Q (some (.int 240)) h) ∧ (¬ (ah_i h 84 (Int32.toNatClampNeg 246)) ≤ x1 → (vp_in ((60 + (3 * x1)) + 2) (ah_n h 84)) ∧ Q (some (.int (ah_i h 84 (Int32.toNatClampNeg ((60 + (3 * x1)) + 2))))) h))) : Mt mX12_oilOf [.ref 82, .int x1] h Q := by
  refine Mt.ofWp rfl (by exact (Nat.le_of_ble_eq_true rfl)) (Wp.fewer (L' := [some (.ref 82), some (.int x1)]) (show ab_leL _ _ from ⟨rfl, ⟨rfl, trivial⟩⟩) ?_)
  refine ab_iload_n (i := 1) dX12_oilOf_0 rfl rfl ?_
  refine ab_aload_n (i := 0) dX12_oilOf_1 rfl rfl ?_
  refine ab_getR (b := 84) f_X12_20 rfl (sh_k hs 82 12 (by decide) rfl) (sh_r hs 100 rfl) dX12_oilOf_2 ?_
  refine ab_sipush (v := 246) dX12_oilOf_5 (by decide) ?_
  refine ab_iald (sh_k hs 84 14 (by decide) rfl) (sh_in hs 84 5860 (by decide) (by decide) rfl (by unfold vp_in; decide)) dX12_oilOf_8 ?_
  refine ab_icmp_ge (tgt := 28) dX12_oilOf_9 (by decide) (fun c1 => ?_) (fun c1 => ?_)
  · have ht := ht.1 c1
    refine ab_sipush (v := 240) dX12_oilOf_28 (by decide) ?_
    exact ab_iret rfl dX12_oilOf_31 (Nat.le_of_ble_eq_true rfl) (Nat.le_of_ble_eq_true rfl) ht
  · have ht := ht.2 c1
    refine ab_aload_n (i := 0) dX12_oilOf_12 rfl rfl ?_
    refine ab_getR (b := 84) f_X12_20 rfl (sh_k hs 82 12 (by decide) rfl) (sh_r hs 100 rfl) dX12_oilOf_13 ?_
    refine ab_bipush (v := 60) dX12_oilOf_16 (by decide) ?_
    refine ab_iconst (v := 3) dX12_oilOf_18 (by decide) ?_
    refine ab_iload_n (i := 1) dX12_oilOf_19 rfl rfl ?_
    refine ab_imul dX12_oilOf_20 ?_
    refine ab_iadd dX12_oilOf_21 ?_
    refine ab_iconst (v := 2) dX12_oilOf_22 (by decide) ?_
    refine ab_iadd dX12_oilOf_23 ?_
    obtain ⟨hc2, ht⟩ := ht
    refine ab_iald (sh_k hs 84 14 (by decide) rfl) hc2 dX12_oilOf_24 ?_
    refine ab_goto (tgt := 31) dX12_oilOf_25 (by decide) ?_
    exact ab_iret rfl dX12_oilOf_31 (Nat.le_of_ble_eq_true rfl) (Nat.le_of_ble_eq_true rfl) ht
theorem c_X12_oilOf {Q : Option Value → ah_T → Prop} {h : ah_T} (hs : Sh h) (x1 : Int32) (ok0 : (¬ (ah_i h 84 (Int32.toNatClampNeg 246)) ≤ x1 → vp_in ((60 + (3 * x1)) + 2) (ah_n h 84))) (hq : Q (some (.int (f_X12_oilOf h x1))) h) : Mt mX12_oilOf [.ref 82, .int x1] h Q := by
  refine T_X12_oilOf hs x1 ?_
  refine ⟨fun c1 => ?_, fun c1 => ?_⟩
  ·
    simpa only [f_X12_oilOf, if_pos c1] using hq
  ·
    refine ⟨ok0 c1, ?_⟩
    simpa only [f_X12_oilOf, if_neg c1] using hq
theorem dX12_stepsBetween_0 : decode cX12_stepsBetween 0 = .ok (.aload_n 0, 1) := by decide +kernel
theorem dX12_stepsBetween_1 : decode cX12_stepsBetween 1 = .ok (.getfield 71, 3) := by decide +kernel
theorem dX12_stepsBetween_4 : decode cX12_stepsBetween 4 = .ok (.bipush 12, 2) := by decide +kernel
theorem dX12_stepsBetween_6 : decode cX12_stepsBetween 6 = .ok (.iload_n 1, 1) := by decide +kernel
theorem dX12_stepsBetween_7 : decode cX12_stepsBetween 7 = .ok (.imul, 1) := by decide +kernel
theorem dX12_stepsBetween_8 : decode cX12_stepsBetween 8 = .ok (.iload_n 2, 1) := by decide +kernel
theorem dX12_stepsBetween_9 : decode cX12_stepsBetween 9 = .ok (.iadd, 1) := by decide +kernel
theorem dX12_stepsBetween_10 : decode cX12_stepsBetween 10 = .ok (.iaload, 1) := by decide +kernel
theorem dX12_stepsBetween_11 : decode cX12_stepsBetween 11 = .ok (.iconst (-1), 1) := by decide +kernel
theorem dX12_stepsBetween_12 : decode cX12_stepsBetween 12 = .ok (.if_icmp .ne 8, 3) := by decide +kernel
theorem dX12_stepsBetween_15 : decode cX12_stepsBetween 15 = .ok (.ldc 232, 2) := by decide +kernel
theorem dX12_stepsBetween_17 : decode cX12_stepsBetween 17 = .ok (.goto 14, 3) := by decide +kernel
theorem dX12_stepsBetween_20 : decode cX12_stepsBetween 20 = .ok (.aload_n 0, 1) := by decide +kernel
theorem dX12_stepsBetween_21 : decode cX12_stepsBetween 21 = .ok (.getfield 71, 3) := by decide +kernel
theorem dX12_stepsBetween_24 : decode cX12_stepsBetween 24 = .ok (.bipush 12, 2) := by decide +kernel
theorem dX12_stepsBetween_26 : decode cX12_stepsBetween 26 = .ok (.iload_n 1, 1) := by decide +kernel
theorem dX12_stepsBetween_27 : decode cX12_stepsBetween 27 = .ok (.imul, 1) := by decide +kernel
theorem dX12_stepsBetween_28 : decode cX12_stepsBetween 28 = .ok (.iload_n 2, 1) := by decide +kernel
theorem dX12_stepsBetween_29 : decode cX12_stepsBetween 29 = .ok (.iadd, 1) := by decide +kernel
theorem dX12_stepsBetween_30 : decode cX12_stepsBetween 30 = .ok (.iaload, 1) := by decide +kernel
theorem dX12_stepsBetween_31 : decode cX12_stepsBetween 31 = .ok (.ireturn, 1) := by decide +kernel
def f_X12_stepsBetween (h : ah_T) (x1 : Int32) (x2 : Int32) : Int32 := (if (ah_i h 98 (Int32.toNatClampNeg ((12 * x1) + x2))) = (-1) then 1000000 else (ah_i h 98 (Int32.toNatClampNeg ((12 * x1) + x2))))
set_option maxRecDepth 20000 in
theorem T_X12_stepsBetween {Q : Option Value → ah_T → Prop} {h : ah_T} (hs : Sh h) (x1 : Int32) (x2 : Int32) (ht : (vp_in ((12 * x1) + x2) (ah_n h 98)) ∧ ((¬ (ah_i h 98 (Int32.toNatClampNeg ((12 * x1) + x2))) = (-1) → (vp_in ((12 * x1) + x2) (ah_n h 98)) ∧ Q (some (.int (ah_i h 98 (Int32.toNatClampNeg ((12 * x1) + x2))))) h) ∧ ((ah_i h 98 (Int32.toNatClampNeg ((12 * x1) + x2))) = (-1) → Q (some (.int 1000000)) h))) : Mt mX12_stepsBetween [.ref 82, .int x1, .int x2] h Q := by
  refine Mt.ofWp rfl (by exact (Nat.le_of_ble_eq_true rfl)) (Wp.fewer (L' := [some (.ref 82), some (.int x1), some (.int x2)]) (show ab_leL _ _ from ⟨rfl, ⟨rfl, ⟨rfl, trivial⟩⟩⟩) ?_)
  refine ab_aload_n (i := 0) dX12_stepsBetween_0 rfl rfl ?_
  refine ab_getR (b := 98) f_X12_71 rfl (sh_k hs 82 12 (by decide) rfl) (sh_r hs 114 rfl) dX12_stepsBetween_1 ?_
  refine ab_bipush (v := 12) dX12_stepsBetween_4 (by decide) ?_
  refine ab_iload_n (i := 1) dX12_stepsBetween_6 rfl rfl ?_
  refine ab_imul dX12_stepsBetween_7 ?_
  refine ab_iload_n (i := 2) dX12_stepsBetween_8 rfl rfl ?_
  refine ab_iadd dX12_stepsBetween_9 ?_
  obtain ⟨hc1, ht⟩ := ht
  refine ab_iald (sh_k hs 98 14 (by decide) rfl) hc1 dX12_stepsBetween_10 ?_
  refine ab_iconst (v := (-1)) dX12_stepsBetween_11 (by decide) ?_
  refine ab_icmp_ne (tgt := 20) dX12_stepsBetween_12 (by decide) (fun c2 => ?_) (fun c2 => ?_)
  · have ht := ht.1 c2
    refine ab_aload_n (i := 0) dX12_stepsBetween_20 rfl rfl ?_
    refine ab_getR (b := 98) f_X12_71 rfl (sh_k hs 82 12 (by decide) rfl) (sh_r hs 114 rfl) dX12_stepsBetween_21 ?_
    refine ab_bipush (v := 12) dX12_stepsBetween_24 (by decide) ?_
    refine ab_iload_n (i := 1) dX12_stepsBetween_26 rfl rfl ?_
    refine ab_imul dX12_stepsBetween_27 ?_
    refine ab_iload_n (i := 2) dX12_stepsBetween_28 rfl rfl ?_
    refine ab_iadd dX12_stepsBetween_29 ?_
    obtain ⟨hc3, ht⟩ := ht
    refine ab_iald (sh_k hs 98 14 (by decide) rfl) hc3 dX12_stepsBetween_30 ?_
    exact ab_iret rfl dX12_stepsBetween_31 (Nat.le_of_ble_eq_true rfl) (Nat.le_of_ble_eq_true rfl) ht
  · have ht := ht.2 c2
    refine ab_ldc (v := 1000000) (tb_8 (List.mem_of_getElem? (i := 138) (by decide +kernel)) rfl) dX12_stepsBetween_15 ?_
    refine ab_goto (tgt := 31) dX12_stepsBetween_17 (by decide) ?_
    exact ab_iret rfl dX12_stepsBetween_31 (Nat.le_of_ble_eq_true rfl) (Nat.le_of_ble_eq_true rfl) ht
theorem c_X12_stepsBetween {Q : Option Value → ah_T → Prop} {h : ah_T} (hs : Sh h) (x1 : Int32) (x2 : Int32) (ok0 : vp_in ((12 * x1) + x2) (ah_n h 98)) (ok1 : (¬ (ah_i h 98 (Int32.toNatClampNeg ((12 * x1) + x2))) = (-1) → vp_in ((12 * x1) + x2) (ah_n h 98))) (hq : Q (some (.int (f_X12_stepsBetween h x1 x2))) h) : Mt mX12_stepsBetween [.ref 82, .int x1, .int x2] h Q := by
  refine T_X12_stepsBetween hs x1 x2 ?_
  refine ⟨ok0, ?_⟩
  refine ⟨fun c2 => ?_, fun c2 => ?_⟩
  ·
    refine ⟨ok1 c2, ?_⟩
    simpa only [f_X12_stepsBetween, if_neg c2] using hq
  ·
    simpa only [f_X12_stepsBetween, if_pos c2] using hq
theorem dX12_viaLamp_0 : decode cX12_viaLamp 0 = .ok (.ldc 232, 2) := by decide +kernel
theorem dX12_viaLamp_2 : decode cX12_viaLamp 2 = .ok (.aload_n 0, 1) := by decide +kernel
theorem dX12_viaLamp_3 : decode cX12_viaLamp 3 = .ok (.iload_n 2, 1) := by decide +kernel
theorem dX12_viaLamp_4 : decode cX12_viaLamp 4 = .ok (.aload_n 0, 1) := by decide +kernel
theorem dX12_viaLamp_5 : decode cX12_viaLamp 5 = .ok (.getfield 77, 3) := by decide +kernel
theorem dX12_viaLamp_8 : decode cX12_viaLamp 8 = .ok (.iload_n 3, 1) := by decide +kernel
theorem dX12_viaLamp_9 : decode cX12_viaLamp 9 = .ok (.iaload, 1) := by decide +kernel
theorem dX12_viaLamp_10 : decode cX12_viaLamp 10 = .ok (.invokevirtual 439, 3) := by decide +kernel
theorem dX12_viaLamp_13 : decode cX12_viaLamp 13 = .ok (.aload_n 0, 1) := by decide +kernel
theorem dX12_viaLamp_14 : decode cX12_viaLamp 14 = .ok (.getfield 116, 3) := by decide +kernel
theorem dX12_viaLamp_17 : decode cX12_viaLamp 17 = .ok (.bipush 10, 2) := by decide +kernel
theorem dX12_viaLamp_19 : decode cX12_viaLamp 19 = .ok (.iload_n 1, 1) := by decide +kernel
theorem dX12_viaLamp_20 : decode cX12_viaLamp 20 = .ok (.iconst 1, 1) := by decide +kernel
theorem dX12_viaLamp_21 : decode cX12_viaLamp 21 = .ok (.iload_n 3, 1) := by decide +kernel
theorem dX12_viaLamp_22 : decode cX12_viaLamp 22 = .ok (.ishl, 1) := by decide +kernel
theorem dX12_viaLamp_23 : decode cX12_viaLamp 23 = .ok (.ior, 1) := by decide +kernel
theorem dX12_viaLamp_24 : decode cX12_viaLamp 24 = .ok (.imul, 1) := by decide +kernel
theorem dX12_viaLamp_25 : decode cX12_viaLamp 25 = .ok (.iload_n 3, 1) := by decide +kernel
theorem dX12_viaLamp_26 : decode cX12_viaLamp 26 = .ok (.iadd, 1) := by decide +kernel
theorem dX12_viaLamp_27 : decode cX12_viaLamp 27 = .ok (.iaload, 1) := by decide +kernel
theorem dX12_viaLamp_28 : decode cX12_viaLamp 28 = .ok (.iadd, 1) := by decide +kernel
theorem dX12_viaLamp_29 : decode cX12_viaLamp 29 = .ok (.invokestatic 167, 3) := by decide +kernel
theorem dX12_viaLamp_32 : decode cX12_viaLamp 32 = .ok (.ireturn, 1) := by decide +kernel
def f_X12_viaLamp (h : ah_T) (x1 : Int32) (x2 : Int32) (x3 : Int32) : Int32 := (f_X12_lesser 1000000 ((f_X12_stepsBetween h x2 (ah_i h 100 (Int32.toNatClampNeg x3))) + (ah_i h 112 (Int32.toNatClampNeg ((10 * (x1 ||| ((1 : Int32) <<< (x3 &&& 31)))) + x3)))))
set_option maxRecDepth 20000 in
theorem T_X12_viaLamp {Q : Option Value → ah_T → Prop} {h : ah_T} (hs : Sh h) (x1 : Int32) (x2 : Int32) (x3 : Int32) (ht : (vp_in x3 (ah_n h 100)) ∧ (vp_in ((12 * x2) + (ah_i h 100 (Int32.toNatClampNeg x3))) (ah_n h 98)) ∧ ((¬ (ah_i h 98 (Int32.toNatClampNeg ((12 * x2) + (ah_i h 100 (Int32.toNatClampNeg x3))))) = (-1) → vp_in ((12 * x2) + (ah_i h 100 (Int32.toNatClampNeg x3))) (ah_n h 98))) ∧ (vp_in ((10 * (x1 ||| ((1 : Int32) <<< (x3 &&& 31)))) + x3) (ah_n h 112)) ∧ Q (some (.int (f_X12_lesser 1000000 ((f_X12_stepsBetween h x2 (ah_i h 100 (Int32.toNatClampNeg x3))) + (ah_i h 112 (Int32.toNatClampNeg ((10 * (x1 ||| ((1 : Int32) <<< (x3 &&& 31)))) + x3))))))) h) : Mt mX12_viaLamp [.ref 82, .int x1, .int x2, .int x3] h Q := by
  refine Mt.ofWp rfl (by exact (Nat.le_of_ble_eq_true rfl)) (Wp.fewer (L' := [some (.ref 82), some (.int x1), some (.int x2), some (.int x3)]) (show ab_leL _ _ from ⟨rfl, ⟨rfl, ⟨rfl, ⟨rfl, trivial⟩⟩⟩⟩) ?_)
  refine ab_ldc (v := 1000000) (tb_8 (List.mem_of_getElem? (i := 138) (by decide +kernel)) rfl) dX12_viaLamp_0 ?_
  refine ab_aload_n (i := 0) dX12_viaLamp_2 rfl rfl ?_
  refine ab_iload_n (i := 2) dX12_viaLamp_3 rfl rfl ?_
  refine ab_aload_n (i := 0) dX12_viaLamp_4 rfl rfl ?_
  refine ab_getR (b := 100) f_X12_77 rfl (sh_k hs 82 12 (by decide) rfl) (sh_r hs 116 rfl) dX12_viaLamp_5 ?_
  refine ab_iload_n (i := 3) dX12_viaLamp_8 rfl rfl ?_
  obtain ⟨hc1, ht⟩ := ht
  refine ab_iald (sh_k hs 100 14 (by decide) rfl) hc1 dX12_viaLamp_9 ?_
  obtain ⟨hc2, ht⟩ := ht
  obtain ⟨hc3, ht⟩ := ht
  refine ab_callV (b := 82) (Q' := fun r h' => r = some (.int (f_X12_stepsBetween h x2 (ah_i h 100 (Int32.toNatClampNeg x3)))) ∧ h = h') (As := [.int x2, .int (ah_i h 100 (Int32.toNatClampNeg x3))]) (c_X12_stepsBetween hs x2 (ah_i h 100 (Int32.toNatClampNeg x3))  hc2 hc3 ⟨rfl, rfl⟩) (Y_X12_stepsBetween) l_X12_439 in_X12_stepsBetween se_X12_stepsBetween (sh_k hs 82 12 (by decide) rfl) (by decide) rfl rfl ⟨(Nat.le_of_ble_eq_true rfl), (Nat.le_of_ble_eq_true rfl), (Nat.le_of_ble_eq_true rfl), (Nat.le_of_ble_eq_true rfl)⟩ dX12_viaLamp_10 ?_
  rintro _ _ ⟨rfl, rfl⟩
  refine ab_aload_n (i := 0) dX12_viaLamp_13 rfl rfl ?_
  refine ab_getR (b := 112) f_X12_116 rfl (sh_k hs 82 12 (by decide) rfl) (sh_r hs 128 rfl) dX12_viaLamp_14 ?_
  refine ab_bipush (v := 10) dX12_viaLamp_17 (by decide) ?_
  refine ab_iload_n (i := 1) dX12_viaLamp_19 rfl rfl ?_
  refine ab_iconst (v := 1) dX12_viaLamp_20 (by decide) ?_
  refine ab_iload_n (i := 3) dX12_viaLamp_21 rfl rfl ?_
  refine ab_ishl dX12_viaLamp_22 ?_
  refine ab_ior dX12_viaLamp_23 ?_
  refine ab_imul dX12_viaLamp_24 ?_
  refine ab_iload_n (i := 3) dX12_viaLamp_25 rfl rfl ?_
  refine ab_iadd dX12_viaLamp_26 ?_
  obtain ⟨hc4, ht⟩ := ht
  refine ab_iald (sh_k hs 112 14 (by decide) rfl) hc4 dX12_viaLamp_27 ?_
  refine ab_iadd dX12_viaLamp_28 ?_
  refine ab_callS (Q' := fun r h' => r = some (.int (f_X12_lesser 1000000 ((f_X12_stepsBetween h x2 (ah_i h 100 (Int32.toNatClampNeg x3))) + (ah_i h 112 (Int32.toNatClampNeg ((10 * (x1 ||| ((1 : Int32) <<< (x3 &&& 31)))) + x3)))))) ∧ h = h') (As := [.int 1000000, .int ((f_X12_stepsBetween h x2 (ah_i h 100 (Int32.toNatClampNeg x3))) + (ah_i h 112 (Int32.toNatClampNeg ((10 * (x1 ||| ((1 : Int32) <<< (x3 &&& 31)))) + x3))))]) (c_X12_lesser hs 1000000 ((f_X12_stepsBetween h x2 (ah_i h 100 (Int32.toNatClampNeg x3))) + (ah_i h 112 (Int32.toNatClampNeg ((10 * (x1 ||| ((1 : Int32) <<< (x3 &&& 31)))) + x3)))) ⟨rfl, rfl⟩) (Y_X12_lesser) l_X12_167 st_X12_lesser rfl ⟨(Nat.le_of_ble_eq_true rfl), (Nat.le_of_ble_eq_true rfl), (Nat.le_of_ble_eq_true rfl), (Nat.le_of_ble_eq_true rfl)⟩ dX12_viaLamp_29 ?_
  rintro _ _ ⟨rfl, rfl⟩
  exact ab_iret rfl dX12_viaLamp_32 (Nat.le_of_ble_eq_true rfl) (Nat.le_of_ble_eq_true rfl) ht
theorem c_X12_viaLamp {Q : Option Value → ah_T → Prop} {h : ah_T} (hs : Sh h) (x1 : Int32) (x2 : Int32) (x3 : Int32) (ok0 : vp_in x3 (ah_n h 100)) (ok1 : vp_in ((12 * x2) + (ah_i h 100 (Int32.toNatClampNeg x3))) (ah_n h 98)) (ok2 : (¬ (ah_i h 98 (Int32.toNatClampNeg ((12 * x2) + (ah_i h 100 (Int32.toNatClampNeg x3))))) = (-1) → vp_in ((12 * x2) + (ah_i h 100 (Int32.toNatClampNeg x3))) (ah_n h 98))) (ok3 : vp_in ((10 * (x1 ||| ((1 : Int32) <<< (x3 &&& 31)))) + x3) (ah_n h 112)) (hq : Q (some (.int (f_X12_viaLamp h x1 x2 x3))) h) : Mt mX12_viaLamp [.ref 82, .int x1, .int x2, .int x3] h Q := by
  refine T_X12_viaLamp hs x1 x2 x3 ?_
  refine ⟨ok0, ?_⟩
  refine ⟨ok1, ?_⟩
  refine ⟨ok2, ?_⟩
  refine ⟨ok3, ?_⟩
  simpa only [f_X12_viaLamp] using hq
theorem dX12_stopped_0 : decode cX12_stopped 0 = .ok (.aload_n 0, 1) := by decide +kernel
theorem dX12_stopped_1 : decode cX12_stopped 1 = .ok (.getfield 146, 3) := by decide +kernel
theorem dX12_stopped_4 : decode cX12_stopped 4 = .ok (.ireturn, 1) := by decide +kernel
def f_X12_stopped (h : ah_T)  : Int32 := (ah_i h 82 66)
set_option maxRecDepth 20000 in
theorem T_X12_stopped {Q : Option Value → ah_T → Prop} {h : ah_T} (hs : Sh h)  (ht : Q (some (.int (ah_i h 82 66))) h) : Mt mX12_stopped [.ref 82] h Q := by
  refine Mt.ofWp rfl (by exact (Nat.le_of_ble_eq_true rfl)) (Wp.fewer (L' := [some (.ref 82)]) (show ab_leL _ _ from ⟨rfl, trivial⟩) ?_)
  refine ab_aload_n (i := 0) dX12_stopped_0 rfl rfl ?_
  refine ab_getI f_X12_146 rfl (sh_k hs 82 12 (by decide) rfl) dX12_stopped_1 ?_
  exact ab_iret rfl dX12_stopped_4 (Nat.le_of_ble_eq_true rfl) (Nat.le_of_ble_eq_true rfl) ht
theorem c_X12_stopped {Q : Option Value → ah_T → Prop} {h : ah_T} (hs : Sh h)   (hq : Q (some (.int (f_X12_stopped h))) h) : Mt mX12_stopped [.ref 82] h Q := by
  refine T_X12_stopped hs  ?_
  simpa only [f_X12_stopped] using hq
theorem dX12_small_0 : decode cX12_small 0 = .ok (.lload_n 0, 1) := by decide +kernel
theorem dX12_small_1 : decode cX12_small 1 = .ok (.lconst 0, 1) := by decide +kernel
theorem dX12_small_2 : decode cX12_small 2 = .ok (.lcmp, 1) := by decide +kernel
theorem dX12_small_3 : decode cX12_small 3 = .ok (.ifCond .lt 11, 3) := by decide +kernel
theorem dX12_small_6 : decode cX12_small 6 = .ok (.lload_n 0, 1) := by decide +kernel
theorem dX12_small_7 : decode cX12_small 7 = .ok (.ldc2_w 532, 3) := by decide +kernel
theorem dX12_small_10 : decode cX12_small 10 = .ok (.lcmp, 1) := by decide +kernel
theorem dX12_small_11 : decode cX12_small 11 = .ok (.ifCond .le 7, 3) := by decide +kernel
theorem dX12_small_14 : decode cX12_small 14 = .ok (.iconst (-1), 1) := by decide +kernel
theorem dX12_small_15 : decode cX12_small 15 = .ok (.goto 5, 3) := by decide +kernel
theorem dX12_small_18 : decode cX12_small 18 = .ok (.lload_n 0, 1) := by decide +kernel
theorem dX12_small_19 : decode cX12_small 19 = .ok (.l2i, 1) := by decide +kernel
theorem dX12_small_20 : decode cX12_small 20 = .ok (.ireturn, 1) := by decide +kernel
def f_X12_small (x0 : Int64) : Int32 := (if (lg_cmp x0 (0 : Int64)) < 0 then (-1) else (if (lg_cmp x0 (1000000 : Int64)) ≤ 0 then (x0).toInt32 else (-1)))
set_option maxRecDepth 20000 in
theorem T_X12_small {Q : Option Value → ah_T → Prop} {h : ah_T} (hs : Sh h) (x0 : Int64) (ht : (((lg_cmp x0 (0 : Int64)) < 0 → Q (some (.int (-1))) h) ∧ (¬ (lg_cmp x0 (0 : Int64)) < 0 → (((lg_cmp x0 (1000000 : Int64)) ≤ 0 → Q (some (.int ((x0).toInt32))) h) ∧ (¬ (lg_cmp x0 (1000000 : Int64)) ≤ 0 → Q (some (.int (-1))) h))))) : Mt mX12_small [.long x0] h Q := by
  refine Mt.ofWp rfl (by exact (Nat.le_of_ble_eq_true rfl)) (Wp.fewer (L' := [some (.long x0), none]) (show ab_leL _ _ from ⟨rfl, trivial⟩) ?_)
  refine ab_lload_n (i := 0) dX12_small_0 rfl rfl ?_
  refine ab_lconst (v := 0) dX12_small_1 (by decide) ?_
  refine ab_lcmp dX12_small_2 ?_
  refine ab_if_lt (tgt := 14) dX12_small_3 (by decide) (fun c1 => ?_) (fun c1 => ?_)
  · have ht := ht.1 c1
    refine ab_iconst (v := (-1)) dX12_small_14 (by decide) ?_
    refine ab_goto (tgt := 20) dX12_small_15 (by decide) ?_
    exact ab_iret rfl dX12_small_20 (Nat.le_of_ble_eq_true rfl) (Nat.le_of_ble_eq_true rfl) ht
  · have ht := ht.2 c1
    refine ab_lload_n (i := 0) dX12_small_6 rfl rfl ?_
    refine ab_ldc2 (v := 1000000) (tb_9 (List.mem_of_getElem? (i := 237) (by decide +kernel)) rfl) dX12_small_7 ?_
    refine ab_lcmp dX12_small_10 ?_
    refine ab_if_le (tgt := 18) dX12_small_11 (by decide) (fun c2 => ?_) (fun c2 => ?_)
    · have ht := ht.1 c2
      refine ab_lload_n (i := 0) dX12_small_18 rfl rfl ?_
      refine ab_l2i dX12_small_19 ?_
      exact ab_iret rfl dX12_small_20 (Nat.le_of_ble_eq_true rfl) (Nat.le_of_ble_eq_true rfl) ht
    · have ht := ht.2 c2
      refine ab_iconst (v := (-1)) dX12_small_14 (by decide) ?_
      refine ab_goto (tgt := 20) dX12_small_15 (by decide) ?_
      exact ab_iret rfl dX12_small_20 (Nat.le_of_ble_eq_true rfl) (Nat.le_of_ble_eq_true rfl) ht
theorem c_X12_small {Q : Option Value → ah_T → Prop} {h : ah_T} (hs : Sh h) (x0 : Int64)  (hq : Q (some (.int (f_X12_small x0))) h) : Mt mX12_small [.long x0] h Q := by
  refine T_X12_small hs x0 ?_
  refine ⟨fun c1 => ?_, fun c1 => ?_⟩
  ·
    simpa only [f_X12_small, if_pos c1] using hq
  ·
    refine ⟨fun c2 => ?_, fun c2 => ?_⟩
    ·
      simpa only [f_X12_small, if_neg c1, if_pos c2] using hq
    ·
      simpa only [f_X12_small, if_neg c1, if_neg c2] using hq
theorem dX12_drawn_0 : decode cX12_drawn 0 = .ok (.aload_n 0, 1) := by decide +kernel
theorem dX12_drawn_1 : decode cX12_drawn 1 = .ok (.getfield 554, 3) := by decide +kernel
theorem dX12_drawn_4 : decode cX12_drawn 4 = .ok (.ifCond .eq 19, 3) := by decide +kernel
theorem dX12_drawn_7 : decode cX12_drawn 7 = .ok (.iload_n 1, 1) := by decide +kernel
theorem dX12_drawn_8 : decode cX12_drawn 8 = .ok (.invokestatic 201, 3) := by decide +kernel
theorem dX12_drawn_11 : decode cX12_drawn 11 = .ok (.ifCond .eq 12, 3) := by decide +kernel
theorem dX12_drawn_14 : decode cX12_drawn 14 = .ok (.aload_n 0, 1) := by decide +kernel
theorem dX12_drawn_15 : decode cX12_drawn 15 = .ok (.getfield 153, 3) := by decide +kernel
theorem dX12_drawn_18 : decode cX12_drawn 18 = .ok (.iload_n 1, 1) := by decide +kernel
theorem dX12_drawn_19 : decode cX12_drawn 19 = .ok (.iaload, 1) := by decide +kernel
theorem dX12_drawn_20 : decode cX12_drawn 20 = .ok (.goto 4, 3) := by decide +kernel
theorem dX12_drawn_23 : decode cX12_drawn 23 = .ok (.iconst (-1), 1) := by decide +kernel
theorem dX12_drawn_24 : decode cX12_drawn 24 = .ok (.ireturn, 1) := by decide +kernel
def f_X12_drawn (h : ah_T) (x1 : Int32) : Int32 := (if (ah_i h 82 77) = 0 then (-1) else (if (f_X12_isMinute x1) = 0 then (-1) else (ah_i h 122 (Int32.toNatClampNeg x1))))
set_option maxRecDepth 20000 in
theorem T_X12_drawn {Q : Option Value → ah_T → Prop} {h : ah_T} (hs : Sh h) (x1 : Int32) (ht : (((ah_i h 82 77) = 0 → Q (some (.int (-1))) h) ∧ (¬ (ah_i h 82 77) = 0 → (((f_X12_isMinute x1) = 0 → Q (some (.int (-1))) h) ∧ (¬ (f_X12_isMinute x1) = 0 → (vp_in x1 (ah_n h 122)) ∧ Q (some (.int (ah_i h 122 (Int32.toNatClampNeg x1)))) h))))) : Mt mX12_drawn [.ref 82, .int x1] h Q := by
  refine Mt.ofWp rfl (by exact (Nat.le_of_ble_eq_true rfl)) (Wp.fewer (L' := [some (.ref 82), some (.int x1)]) (show ab_leL _ _ from ⟨rfl, ⟨rfl, trivial⟩⟩) ?_)
  refine ab_aload_n (i := 0) dX12_drawn_0 rfl rfl ?_
  refine ab_getI f_X12_554 rfl (sh_k hs 82 12 (by decide) rfl) dX12_drawn_1 ?_
  refine ab_if_eq (tgt := 23) dX12_drawn_4 (by decide) (fun c1 => ?_) (fun c1 => ?_)
  · have ht := ht.1 c1
    refine ab_iconst (v := (-1)) dX12_drawn_23 (by decide) ?_
    exact ab_iret rfl dX12_drawn_24 (Nat.le_of_ble_eq_true rfl) (Nat.le_of_ble_eq_true rfl) ht
  · have ht := ht.2 c1
    refine ab_iload_n (i := 1) dX12_drawn_7 rfl rfl ?_
    refine ab_callS (Q' := fun r h' => r = some (.int (f_X12_isMinute x1)) ∧ h = h') (As := [.int x1]) (c_X12_isMinute hs x1 ⟨rfl, rfl⟩) (Y_X12_isMinute) l_X12_201 st_X12_isMinute rfl ⟨(Nat.le_of_ble_eq_true rfl), (Nat.le_of_ble_eq_true rfl), (Nat.le_of_ble_eq_true rfl), (Nat.le_of_ble_eq_true rfl)⟩ dX12_drawn_8 ?_
    rintro _ _ ⟨rfl, rfl⟩
    refine ab_if_eq (tgt := 23) dX12_drawn_11 (by decide) (fun c2 => ?_) (fun c2 => ?_)
    · have ht := ht.1 c2
      refine ab_iconst (v := (-1)) dX12_drawn_23 (by decide) ?_
      exact ab_iret rfl dX12_drawn_24 (Nat.le_of_ble_eq_true rfl) (Nat.le_of_ble_eq_true rfl) ht
    · have ht := ht.2 c2
      refine ab_aload_n (i := 0) dX12_drawn_14 rfl rfl ?_
      refine ab_getR (b := 122) f_X12_153 rfl (sh_k hs 82 12 (by decide) rfl) (sh_r hs 138 rfl) dX12_drawn_15 ?_
      refine ab_iload_n (i := 1) dX12_drawn_18 rfl rfl ?_
      obtain ⟨hc3, ht⟩ := ht
      refine ab_iald (sh_k hs 122 14 (by decide) rfl) hc3 dX12_drawn_19 ?_
      refine ab_goto (tgt := 24) dX12_drawn_20 (by decide) ?_
      exact ab_iret rfl dX12_drawn_24 (Nat.le_of_ble_eq_true rfl) (Nat.le_of_ble_eq_true rfl) ht
theorem c_X12_drawn {Q : Option Value → ah_T → Prop} {h : ah_T} (hs : Sh h) (x1 : Int32) (ok0 : (¬ (ah_i h 82 77) = 0 → (¬ (f_X12_isMinute x1) = 0 → vp_in x1 (ah_n h 122)))) (hq : Q (some (.int (f_X12_drawn h x1))) h) : Mt mX12_drawn [.ref 82, .int x1] h Q := by
  refine T_X12_drawn hs x1 ?_
  refine ⟨fun c1 => ?_, fun c1 => ?_⟩
  ·
    simpa only [f_X12_drawn, if_pos c1] using hq
  ·
    refine ⟨fun c2 => ?_, fun c2 => ?_⟩
    ·
      simpa only [f_X12_drawn, if_neg c1, if_pos c2] using hq
    ·
      refine ⟨ok0 c1 c2, ?_⟩
      simpa only [f_X12_drawn, if_neg c1, if_neg c2] using hq
theorem dX12_status_0 : decode cX12_status 0 = .ok (.aload_n 0, 1) := by decide +kernel
theorem dX12_status_1 : decode cX12_status 1 = .ok (.getfield 3, 3) := by decide +kernel
theorem dX12_status_4 : decode cX12_status 4 = .ok (.ireturn, 1) := by decide +kernel
def f_X12_status (h : ah_T)  : Int32 := (ah_i h 82 0)
set_option maxRecDepth 20000 in
theorem T_X12_status {Q : Option Value → ah_T → Prop} {h : ah_T} (hs : Sh h)  (ht : Q (some (.int (ah_i h 82 0))) h) : Mt mX12_status [.ref 82] h Q := by
  refine Mt.ofWp rfl (by exact (Nat.le_of_ble_eq_true rfl)) (Wp.fewer (L' := [some (.ref 82)]) (show ab_leL _ _ from ⟨rfl, trivial⟩) ?_)
  refine ab_aload_n (i := 0) dX12_status_0 rfl rfl ?_
  refine ab_getI f_X12_3 rfl (sh_k hs 82 12 (by decide) rfl) dX12_status_1 ?_
  exact ab_iret rfl dX12_status_4 (Nat.le_of_ble_eq_true rfl) (Nat.le_of_ble_eq_true rfl) ht
theorem c_X12_status {Q : Option Value → ah_T → Prop} {h : ah_T} (hs : Sh h)   (hq : Q (some (.int (f_X12_status h))) h) : Mt mX12_status [.ref 82] h Q := by
  refine T_X12_status hs  ?_
  simpa only [f_X12_status] using hq
theorem dJ6_bitCount_0f7a4_0 : decode cJ6_bitCount_0f7a4 0 = .ok (.iload_n 0, 1) := by decide +kernel
theorem dJ6_bitCount_0f7a4_1 : decode cJ6_bitCount_0f7a4 1 = .ok (.iload_n 0, 1) := by decide +kernel
theorem dJ6_bitCount_0f7a4_2 : decode cJ6_bitCount_0f7a4 2 = .ok (.iconst 1, 1) := by decide +kernel
theorem dJ6_bitCount_0f7a4_3 : decode cJ6_bitCount_0f7a4 3 = .ok (.iushr, 1) := by decide +kernel
theorem dJ6_bitCount_0f7a4_4 : decode cJ6_bitCount_0f7a4 4 = .ok (.ldc_w 265, 3) := by decide +kernel
theorem dJ6_bitCount_0f7a4_7 : decode cJ6_bitCount_0f7a4 7 = .ok (.iand, 1) := by decide +kernel
theorem dJ6_bitCount_0f7a4_8 : decode cJ6_bitCount_0f7a4 8 = .ok (.isub, 1) := by decide +kernel
theorem dJ6_bitCount_0f7a4_9 : decode cJ6_bitCount_0f7a4 9 = .ok (.istore_n 0, 1) := by decide +kernel
theorem dJ6_bitCount_0f7a4_10 : decode cJ6_bitCount_0f7a4 10 = .ok (.iload_n 0, 1) := by decide +kernel
theorem dJ6_bitCount_0f7a4_11 : decode cJ6_bitCount_0f7a4 11 = .ok (.ldc_w 266, 3) := by decide +kernel
theorem dJ6_bitCount_0f7a4_14 : decode cJ6_bitCount_0f7a4 14 = .ok (.iand, 1) := by decide +kernel
theorem dJ6_bitCount_0f7a4_15 : decode cJ6_bitCount_0f7a4 15 = .ok (.iload_n 0, 1) := by decide +kernel
theorem dJ6_bitCount_0f7a4_16 : decode cJ6_bitCount_0f7a4 16 = .ok (.iconst 2, 1) := by decide +kernel
theorem dJ6_bitCount_0f7a4_17 : decode cJ6_bitCount_0f7a4 17 = .ok (.iushr, 1) := by decide +kernel
theorem dJ6_bitCount_0f7a4_18 : decode cJ6_bitCount_0f7a4 18 = .ok (.ldc_w 266, 3) := by decide +kernel
theorem dJ6_bitCount_0f7a4_21 : decode cJ6_bitCount_0f7a4 21 = .ok (.iand, 1) := by decide +kernel
theorem dJ6_bitCount_0f7a4_22 : decode cJ6_bitCount_0f7a4 22 = .ok (.iadd, 1) := by decide +kernel
theorem dJ6_bitCount_0f7a4_23 : decode cJ6_bitCount_0f7a4 23 = .ok (.istore_n 0, 1) := by decide +kernel
theorem dJ6_bitCount_0f7a4_24 : decode cJ6_bitCount_0f7a4 24 = .ok (.iload_n 0, 1) := by decide +kernel
theorem dJ6_bitCount_0f7a4_25 : decode cJ6_bitCount_0f7a4 25 = .ok (.iload_n 0, 1) := by decide +kernel
theorem dJ6_bitCount_0f7a4_26 : decode cJ6_bitCount_0f7a4 26 = .ok (.iconst 4, 1) := by decide +kernel
theorem dJ6_bitCount_0f7a4_27 : decode cJ6_bitCount_0f7a4 27 = .ok (.iushr, 1) := by decide +kernel
theorem dJ6_bitCount_0f7a4_28 : decode cJ6_bitCount_0f7a4 28 = .ok (.iadd, 1) := by decide +kernel
theorem dJ6_bitCount_0f7a4_29 : decode cJ6_bitCount_0f7a4 29 = .ok (.ldc_w 267, 3) := by decide +kernel
theorem dJ6_bitCount_0f7a4_32 : decode cJ6_bitCount_0f7a4 32 = .ok (.iand, 1) := by decide +kernel
theorem dJ6_bitCount_0f7a4_33 : decode cJ6_bitCount_0f7a4 33 = .ok (.istore_n 0, 1) := by decide +kernel
theorem dJ6_bitCount_0f7a4_34 : decode cJ6_bitCount_0f7a4 34 = .ok (.iload_n 0, 1) := by decide +kernel
theorem dJ6_bitCount_0f7a4_35 : decode cJ6_bitCount_0f7a4 35 = .ok (.iload_n 0, 1) := by decide +kernel
theorem dJ6_bitCount_0f7a4_36 : decode cJ6_bitCount_0f7a4 36 = .ok (.bipush 8, 2) := by decide +kernel
theorem dJ6_bitCount_0f7a4_38 : decode cJ6_bitCount_0f7a4 38 = .ok (.iushr, 1) := by decide +kernel
theorem dJ6_bitCount_0f7a4_39 : decode cJ6_bitCount_0f7a4 39 = .ok (.iadd, 1) := by decide +kernel
theorem dJ6_bitCount_0f7a4_40 : decode cJ6_bitCount_0f7a4 40 = .ok (.istore_n 0, 1) := by decide +kernel
theorem dJ6_bitCount_0f7a4_41 : decode cJ6_bitCount_0f7a4 41 = .ok (.iload_n 0, 1) := by decide +kernel
theorem dJ6_bitCount_0f7a4_42 : decode cJ6_bitCount_0f7a4 42 = .ok (.iload_n 0, 1) := by decide +kernel
theorem dJ6_bitCount_0f7a4_43 : decode cJ6_bitCount_0f7a4 43 = .ok (.bipush 16, 2) := by decide +kernel
theorem dJ6_bitCount_0f7a4_45 : decode cJ6_bitCount_0f7a4 45 = .ok (.iushr, 1) := by decide +kernel
theorem dJ6_bitCount_0f7a4_46 : decode cJ6_bitCount_0f7a4 46 = .ok (.iadd, 1) := by decide +kernel
theorem dJ6_bitCount_0f7a4_47 : decode cJ6_bitCount_0f7a4 47 = .ok (.istore_n 0, 1) := by decide +kernel
theorem dJ6_bitCount_0f7a4_48 : decode cJ6_bitCount_0f7a4 48 = .ok (.iload_n 0, 1) := by decide +kernel
theorem dJ6_bitCount_0f7a4_49 : decode cJ6_bitCount_0f7a4 49 = .ok (.bipush 63, 2) := by decide +kernel
theorem dJ6_bitCount_0f7a4_51 : decode cJ6_bitCount_0f7a4 51 = .ok (.iand, 1) := by decide +kernel
theorem dJ6_bitCount_0f7a4_52 : decode cJ6_bitCount_0f7a4 52 = .ok (.ireturn, 1) := by decide +kernel
def f_J6_bitCount_0f7a4 (x0 : Int32) : Int32 := ((((((((x0 - (((x0.toUInt32 >>> ((1 : Int32).toUInt32 &&& Int32.toUInt32 31)).toInt32) &&& 1431655765)) &&& 858993459) + ((((x0 - (((x0.toUInt32 >>> ((1 : Int32).toUInt32 &&& Int32.toUInt32 31)).toInt32) &&& 1431655765)).toUInt32 >>> ((2 : Int32).toUInt32 &&& Int32.toUInt32 31)).toInt32) &&& 858993459)) + (((((x0 - (((x0.toUInt32 >>> ((1 : Int32).toUInt32 &&& Int32.toUInt32 31)).toInt32) &&& 1431655765)) &&& 858993459) + ((((x0 - (((x0.toUInt32 >>> ((1 : Int32).toUInt32 &&& Int32.toUInt32 31)).toInt32) &&& 1431655765)).toUInt32 >>> ((2 : Int32).toUInt32 &&& Int32.toUInt32 31)).toInt32) &&& 858993459)).toUInt32 >>> ((4 : Int32).toUInt32 &&& Int32.toUInt32 31)).toInt32)) &&& 252645135) + (((((((x0 - (((x0.toUInt32 >>> ((1 : Int32).toUInt32 &&& Int32.toUInt32 31)).toInt32) &&& 1431655765)) &&& 858993459) + ((((x0 - (((x0.toUInt32 >>> ((1 : Int32).toUInt32 &&& Int32.toUInt32 31)).toInt32) &&& 1431655765)).toUInt32 >>> ((2 : Int32).toUInt32 &&& Int32.toUInt32 31)).toInt32) &&& 858993459)) + (((((x0 - (((x0.toUInt32 >>> ((1 : Int32).toUInt32 &&& Int32.toUInt32 31)).toInt32) &&& 1431655765)) &&& 858993459) + ((((x0 - (((x0.toUInt32 >>> ((1 : Int32).toUInt32 &&& Int32.toUInt32 31)).toInt32) &&& 1431655765)).toUInt32 >>> ((2 : Int32).toUInt32 &&& Int32.toUInt32 31)).toInt32) &&& 858993459)).toUInt32 >>> ((4 : Int32).toUInt32 &&& Int32.toUInt32 31)).toInt32)) &&& 252645135).toUInt32 >>> ((8 : Int32).toUInt32 &&& Int32.toUInt32 31)).toInt32)) + ((((((((x0 - (((x0.toUInt32 >>> ((1 : Int32).toUInt32 &&& Int32.toUInt32 31)).toInt32) &&& 1431655765)) &&& 858993459) + ((((x0 - (((x0.toUInt32 >>> ((1 : Int32).toUInt32 &&& Int32.toUInt32 31)).toInt32) &&& 1431655765)).toUInt32 >>> ((2 : Int32).toUInt32 &&& Int32.toUInt32 31)).toInt32) &&& 858993459)) + (((((x0 - (((x0.toUInt32 >>> ((1 : Int32).toUInt32 &&& Int32.toUInt32 31)).toInt32) &&& 1431655765)) &&& 858993459) + ((((x0 - (((x0.toUInt32 >>> ((1 : Int32).toUInt32 &&& Int32.toUInt32 31)).toInt32) &&& 1431655765)).toUInt32 >>> ((2 : Int32).toUInt32 &&& Int32.toUInt32 31)).toInt32) &&& 858993459)).toUInt32 >>> ((4 : Int32).toUInt32 &&& Int32.toUInt32 31)).toInt32)) &&& 252645135) + (((((((x0 - (((x0.toUInt32 >>> ((1 : Int32).toUInt32 &&& Int32.toUInt32 31)).toInt32) &&& 1431655765)) &&& 858993459) + ((((x0 - (((x0.toUInt32 >>> ((1 : Int32).toUInt32 &&& Int32.toUInt32 31)).toInt32) &&& 1431655765)).toUInt32 >>> ((2 : Int32).toUInt32 &&& Int32.toUInt32 31)).toInt32) &&& 858993459)) + (((((x0 - (((x0.toUInt32 >>> ((1 : Int32).toUInt32 &&& Int32.toUInt32 31)).toInt32) &&& 1431655765)) &&& 858993459) + ((((x0 - (((x0.toUInt32 >>> ((1 : Int32).toUInt32 &&& Int32.toUInt32 31)).toInt32) &&& 1431655765)).toUInt32 >>> ((2 : Int32).toUInt32 &&& Int32.toUInt32 31)).toInt32) &&& 858993459)).toUInt32 >>> ((4 : Int32).toUInt32 &&& Int32.toUInt32 31)).toInt32)) &&& 252645135).toUInt32 >>> ((8 : Int32).toUInt32 &&& Int32.toUInt32 31)).toInt32)).toUInt32 >>> ((16 : Int32).toUInt32 &&& Int32.toUInt32 31)).toInt32)) &&& 63)
set_option maxRecDepth 20000 in
theorem T_J6_bitCount_0f7a4 {Q : Option Value → ah_T → Prop} {h : ah_T} (hs : Sh h) (x0 : Int32) (ht : Q (some (.int ((((((((x0 - (((x0.toUInt32 >>> ((1 : Int32).toUInt32 &&& Int32.toUInt32 31)).toInt32) &&& 1431655765)) &&& 858993459) + ((((x0 - (((x0.toUInt32 >>> ((1 : Int32).toUInt32 &&& Int32.toUInt32 31)).toInt32) &&& 1431655765)).toUInt32 >>> ((2 : Int32).toUInt32 &&& Int32.toUInt32 31)).toInt32) &&& 858993459)) + (((((x0 - (((x0.toUInt32 >>> ((1 : Int32).toUInt32 &&& Int32.toUInt32 31)).toInt32) &&& 1431655765)) &&& 858993459) + ((((x0 - (((x0.toUInt32 >>> ((1 : Int32).toUInt32 &&& Int32.toUInt32 31)).toInt32) &&& 1431655765)).toUInt32 >>> ((2 : Int32).toUInt32 &&& Int32.toUInt32 31)).toInt32) &&& 858993459)).toUInt32 >>> ((4 : Int32).toUInt32 &&& Int32.toUInt32 31)).toInt32)) &&& 252645135) + (((((((x0 - (((x0.toUInt32 >>> ((1 : Int32).toUInt32 &&& Int32.toUInt32 31)).toInt32) &&& 1431655765)) &&& 858993459) + ((((x0 - (((x0.toUInt32 >>> ((1 : Int32).toUInt32 &&& Int32.toUInt32 31)).toInt32) &&& 1431655765)).toUInt32 >>> ((2 : Int32).toUInt32 &&& Int32.toUInt32 31)).toInt32) &&& 858993459)) + (((((x0 - (((x0.toUInt32 >>> ((1 : Int32).toUInt32 &&& Int32.toUInt32 31)).toInt32) &&& 1431655765)) &&& 858993459) + ((((x0 - (((x0.toUInt32 >>> ((1 : Int32).toUInt32 &&& Int32.toUInt32 31)).toInt32) &&& 1431655765)).toUInt32 >>> ((2 : Int32).toUInt32 &&& Int32.toUInt32 31)).toInt32) &&& 858993459)).toUInt32 >>> ((4 : Int32).toUInt32 &&& Int32.toUInt32 31)).toInt32)) &&& 252645135).toUInt32 >>> ((8 : Int32).toUInt32 &&& Int32.toUInt32 31)).toInt32)) + ((((((((x0 - (((x0.toUInt32 >>> ((1 : Int32).toUInt32 &&& Int32.toUInt32 31)).toInt32) &&& 1431655765)) &&& 858993459) + ((((x0 - (((x0.toUInt32 >>> ((1 : Int32).toUInt32 &&& Int32.toUInt32 31)).toInt32) &&& 1431655765)).toUInt32 >>> ((2 : Int32).toUInt32 &&& Int32.toUInt32 31)).toInt32) &&& 858993459)) + (((((x0 - (((x0.toUInt32 >>> ((1 : Int32).toUInt32 &&& Int32.toUInt32 31)).toInt32) &&& 1431655765)) &&& 858993459) + ((((x0 - (((x0.toUInt32 >>> ((1 : Int32).toUInt32 &&& Int32.toUInt32 31)).toInt32) &&& 1431655765)).toUInt32 >>> ((2 : Int32).toUInt32 &&& Int32.toUInt32 31)).toInt32) &&& 858993459)).toUInt32 >>> ((4 : Int32).toUInt32 &&& Int32.toUInt32 31)).toInt32)) &&& 252645135) + (((((((x0 - (((x0.toUInt32 >>> ((1 : Int32).toUInt32 &&& Int32.toUInt32 31)).toInt32) &&& 1431655765)) &&& 858993459) + ((((x0 - (((x0.toUInt32 >>> ((1 : Int32).toUInt32 &&& Int32.toUInt32 31)).toInt32) &&& 1431655765)).toUInt32 >>> ((2 : Int32).toUInt32 &&& Int32.toUInt32 31)).toInt32) &&& 858993459)) + (((((x0 - (((x0.toUInt32 >>> ((1 : Int32).toUInt32 &&& Int32.toUInt32 31)).toInt32) &&& 1431655765)) &&& 858993459) + ((((x0 - (((x0.toUInt32 >>> ((1 : Int32).toUInt32 &&& Int32.toUInt32 31)).toInt32) &&& 1431655765)).toUInt32 >>> ((2 : Int32).toUInt32 &&& Int32.toUInt32 31)).toInt32) &&& 858993459)).toUInt32 >>> ((4 : Int32).toUInt32 &&& Int32.toUInt32 31)).toInt32)) &&& 252645135).toUInt32 >>> ((8 : Int32).toUInt32 &&& Int32.toUInt32 31)).toInt32)).toUInt32 >>> ((16 : Int32).toUInt32 &&& Int32.toUInt32 31)).toInt32)) &&& 63))) h) : Mt mJ6_bitCount_0f7a4 [.int x0] h Q := by
  refine Mt.ofWp rfl (by exact (Nat.le_of_ble_eq_true rfl)) (Wp.fewer (L' := [some (.int x0)]) (show ab_leL _ _ from ⟨rfl, trivial⟩) ?_)
  refine ab_iload_n (i := 0) dJ6_bitCount_0f7a4_0 rfl rfl ?_
  refine ab_iload_n (i := 0) dJ6_bitCount_0f7a4_1 rfl rfl ?_
  refine ab_iconst (v := 1) dJ6_bitCount_0f7a4_2 (by decide) ?_
  refine ab_iushr dJ6_bitCount_0f7a4_3 ?_
  refine ab_ldcw (v := 1431655765) (tb_5 (List.mem_of_getElem? (i := 171) (by decide +kernel)) rfl) dJ6_bitCount_0f7a4_4 ?_
  refine ab_iand dJ6_bitCount_0f7a4_7 ?_
  refine ab_isub dJ6_bitCount_0f7a4_8 ?_
  refine ab_istore_n (i := 0) (L' := [some (.int (x0 - (((x0.toUInt32 >>> ((1 : Int32).toUInt32 &&& Int32.toUInt32 31)).toInt32) &&& 1431655765)))]) dJ6_bitCount_0f7a4_9 rfl (by exact (Nat.le_of_ble_eq_true rfl)) rfl rfl ?_
  refine ab_iload_n (i := 0) dJ6_bitCount_0f7a4_10 rfl rfl ?_
  refine ab_ldcw (v := 858993459) (tb_5 (List.mem_of_getElem? (i := 172) (by decide +kernel)) rfl) dJ6_bitCount_0f7a4_11 ?_
  refine ab_iand dJ6_bitCount_0f7a4_14 ?_
  refine ab_iload_n (i := 0) dJ6_bitCount_0f7a4_15 rfl rfl ?_
  refine ab_iconst (v := 2) dJ6_bitCount_0f7a4_16 (by decide) ?_
  refine ab_iushr dJ6_bitCount_0f7a4_17 ?_
  refine ab_ldcw (v := 858993459) (tb_5 (List.mem_of_getElem? (i := 172) (by decide +kernel)) rfl) dJ6_bitCount_0f7a4_18 ?_
  refine ab_iand dJ6_bitCount_0f7a4_21 ?_
  refine ab_iadd dJ6_bitCount_0f7a4_22 ?_
  refine ab_istore_n (i := 0) (L' := [some (.int (((x0 - (((x0.toUInt32 >>> ((1 : Int32).toUInt32 &&& Int32.toUInt32 31)).toInt32) &&& 1431655765)) &&& 858993459) + ((((x0 - (((x0.toUInt32 >>> ((1 : Int32).toUInt32 &&& Int32.toUInt32 31)).toInt32) &&& 1431655765)).toUInt32 >>> ((2 : Int32).toUInt32 &&& Int32.toUInt32 31)).toInt32) &&& 858993459)))]) dJ6_bitCount_0f7a4_23 rfl (by exact (Nat.le_of_ble_eq_true rfl)) rfl rfl ?_
  refine ab_iload_n (i := 0) dJ6_bitCount_0f7a4_24 rfl rfl ?_
  refine ab_iload_n (i := 0) dJ6_bitCount_0f7a4_25 rfl rfl ?_
  refine ab_iconst (v := 4) dJ6_bitCount_0f7a4_26 (by decide) ?_
  refine ab_iushr dJ6_bitCount_0f7a4_27 ?_
  refine ab_iadd dJ6_bitCount_0f7a4_28 ?_
  refine ab_ldcw (v := 252645135) (tb_5 (List.mem_of_getElem? (i := 173) (by decide +kernel)) rfl) dJ6_bitCount_0f7a4_29 ?_
  refine ab_iand dJ6_bitCount_0f7a4_32 ?_
  refine ab_istore_n (i := 0) (L' := [some (.int (((((x0 - (((x0.toUInt32 >>> ((1 : Int32).toUInt32 &&& Int32.toUInt32 31)).toInt32) &&& 1431655765)) &&& 858993459) + ((((x0 - (((x0.toUInt32 >>> ((1 : Int32).toUInt32 &&& Int32.toUInt32 31)).toInt32) &&& 1431655765)).toUInt32 >>> ((2 : Int32).toUInt32 &&& Int32.toUInt32 31)).toInt32) &&& 858993459)) + (((((x0 - (((x0.toUInt32 >>> ((1 : Int32).toUInt32 &&& Int32.toUInt32 31)).toInt32) &&& 1431655765)) &&& 858993459) + ((((x0 - (((x0.toUInt32 >>> ((1 : Int32).toUInt32 &&& Int32.toUInt32 31)).toInt32) &&& 1431655765)).toUInt32 >>> ((2 : Int32).toUInt32 &&& Int32.toUInt32 31)).toInt32) &&& 858993459)).toUInt32 >>> ((4 : Int32).toUInt32 &&& Int32.toUInt32 31)).toInt32)) &&& 252645135))]) dJ6_bitCount_0f7a4_33 rfl (by exact (Nat.le_of_ble_eq_true rfl)) rfl rfl ?_
  refine ab_iload_n (i := 0) dJ6_bitCount_0f7a4_34 rfl rfl ?_
  refine ab_iload_n (i := 0) dJ6_bitCount_0f7a4_35 rfl rfl ?_
  refine ab_bipush (v := 8) dJ6_bitCount_0f7a4_36 (by decide) ?_
  refine ab_iushr dJ6_bitCount_0f7a4_38 ?_
  refine ab_iadd dJ6_bitCount_0f7a4_39 ?_
  refine ab_istore_n (i := 0) (L' := [some (.int ((((((x0 - (((x0.toUInt32 >>> ((1 : Int32).toUInt32 &&& Int32.toUInt32 31)).toInt32) &&& 1431655765)) &&& 858993459) + ((((x0 - (((x0.toUInt32 >>> ((1 : Int32).toUInt32 &&& Int32.toUInt32 31)).toInt32) &&& 1431655765)).toUInt32 >>> ((2 : Int32).toUInt32 &&& Int32.toUInt32 31)).toInt32) &&& 858993459)) + (((((x0 - (((x0.toUInt32 >>> ((1 : Int32).toUInt32 &&& Int32.toUInt32 31)).toInt32) &&& 1431655765)) &&& 858993459) + ((((x0 - (((x0.toUInt32 >>> ((1 : Int32).toUInt32 &&& Int32.toUInt32 31)).toInt32) &&& 1431655765)).toUInt32 >>> ((2 : Int32).toUInt32 &&& Int32.toUInt32 31)).toInt32) &&& 858993459)).toUInt32 >>> ((4 : Int32).toUInt32 &&& Int32.toUInt32 31)).toInt32)) &&& 252645135) + (((((((x0 - (((x0.toUInt32 >>> ((1 : Int32).toUInt32 &&& Int32.toUInt32 31)).toInt32) &&& 1431655765)) &&& 858993459) + ((((x0 - (((x0.toUInt32 >>> ((1 : Int32).toUInt32 &&& Int32.toUInt32 31)).toInt32) &&& 1431655765)).toUInt32 >>> ((2 : Int32).toUInt32 &&& Int32.toUInt32 31)).toInt32) &&& 858993459)) + (((((x0 - (((x0.toUInt32 >>> ((1 : Int32).toUInt32 &&& Int32.toUInt32 31)).toInt32) &&& 1431655765)) &&& 858993459) + ((((x0 - (((x0.toUInt32 >>> ((1 : Int32).toUInt32 &&& Int32.toUInt32 31)).toInt32) &&& 1431655765)).toUInt32 >>> ((2 : Int32).toUInt32 &&& Int32.toUInt32 31)).toInt32) &&& 858993459)).toUInt32 >>> ((4 : Int32).toUInt32 &&& Int32.toUInt32 31)).toInt32)) &&& 252645135).toUInt32 >>> ((8 : Int32).toUInt32 &&& Int32.toUInt32 31)).toInt32)))]) dJ6_bitCount_0f7a4_40 rfl (by exact (Nat.le_of_ble_eq_true rfl)) rfl rfl ?_
  refine ab_iload_n (i := 0) dJ6_bitCount_0f7a4_41 rfl rfl ?_
  refine ab_iload_n (i := 0) dJ6_bitCount_0f7a4_42 rfl rfl ?_
  refine ab_bipush (v := 16) dJ6_bitCount_0f7a4_43 (by decide) ?_
  refine ab_iushr dJ6_bitCount_0f7a4_45 ?_
  refine ab_iadd dJ6_bitCount_0f7a4_46 ?_
  refine ab_istore_n (i := 0) (L' := [some (.int (((((((x0 - (((x0.toUInt32 >>> ((1 : Int32).toUInt32 &&& Int32.toUInt32 31)).toInt32) &&& 1431655765)) &&& 858993459) + ((((x0 - (((x0.toUInt32 >>> ((1 : Int32).toUInt32 &&& Int32.toUInt32 31)).toInt32) &&& 1431655765)).toUInt32 >>> ((2 : Int32).toUInt32 &&& Int32.toUInt32 31)).toInt32) &&& 858993459)) + (((((x0 - (((x0.toUInt32 >>> ((1 : Int32).toUInt32 &&& Int32.toUInt32 31)).toInt32) &&& 1431655765)) &&& 858993459) + ((((x0 - (((x0.toUInt32 >>> ((1 : Int32).toUInt32 &&& Int32.toUInt32 31)).toInt32) &&& 1431655765)).toUInt32 >>> ((2 : Int32).toUInt32 &&& Int32.toUInt32 31)).toInt32) &&& 858993459)).toUInt32 >>> ((4 : Int32).toUInt32 &&& Int32.toUInt32 31)).toInt32)) &&& 252645135) + (((((((x0 - (((x0.toUInt32 >>> ((1 : Int32).toUInt32 &&& Int32.toUInt32 31)).toInt32) &&& 1431655765)) &&& 858993459) + ((((x0 - (((x0.toUInt32 >>> ((1 : Int32).toUInt32 &&& Int32.toUInt32 31)).toInt32) &&& 1431655765)).toUInt32 >>> ((2 : Int32).toUInt32 &&& Int32.toUInt32 31)).toInt32) &&& 858993459)) + (((((x0 - (((x0.toUInt32 >>> ((1 : Int32).toUInt32 &&& Int32.toUInt32 31)).toInt32) &&& 1431655765)) &&& 858993459) + ((((x0 - (((x0.toUInt32 >>> ((1 : Int32).toUInt32 &&& Int32.toUInt32 31)).toInt32) &&& 1431655765)).toUInt32 >>> ((2 : Int32).toUInt32 &&& Int32.toUInt32 31)).toInt32) &&& 858993459)).toUInt32 >>> ((4 : Int32).toUInt32 &&& Int32.toUInt32 31)).toInt32)) &&& 252645135).toUInt32 >>> ((8 : Int32).toUInt32 &&& Int32.toUInt32 31)).toInt32)) + ((((((((x0 - (((x0.toUInt32 >>> ((1 : Int32).toUInt32 &&& Int32.toUInt32 31)).toInt32) &&& 1431655765)) &&& 858993459) + ((((x0 - (((x0.toUInt32 >>> ((1 : Int32).toUInt32 &&& Int32.toUInt32 31)).toInt32) &&& 1431655765)).toUInt32 >>> ((2 : Int32).toUInt32 &&& Int32.toUInt32 31)).toInt32) &&& 858993459)) + (((((x0 - (((x0.toUInt32 >>> ((1 : Int32).toUInt32 &&& Int32.toUInt32 31)).toInt32) &&& 1431655765)) &&& 858993459) + ((((x0 - (((x0.toUInt32 >>> ((1 : Int32).toUInt32 &&& Int32.toUInt32 31)).toInt32) &&& 1431655765)).toUInt32 >>> ((2 : Int32).toUInt32 &&& Int32.toUInt32 31)).toInt32) &&& 858993459)).toUInt32 >>> ((4 : Int32).toUInt32 &&& Int32.toUInt32 31)).toInt32)) &&& 252645135) + (((((((x0 - (((x0.toUInt32 >>> ((1 : Int32).toUInt32 &&& Int32.toUInt32 31)).toInt32) &&& 1431655765)) &&& 858993459) + ((((x0 - (((x0.toUInt32 >>> ((1 : Int32).toUInt32 &&& Int32.toUInt32 31)).toInt32) &&& 1431655765)).toUInt32 >>> ((2 : Int32).toUInt32 &&& Int32.toUInt32 31)).toInt32) &&& 858993459)) + (((((x0 - (((x0.toUInt32 >>> ((1 : Int32).toUInt32 &&& Int32.toUInt32 31)).toInt32) &&& 1431655765)) &&& 858993459) + ((((x0 - (((x0.toUInt32 >>> ((1 : Int32).toUInt32 &&& Int32.toUInt32 31)).toInt32) &&& 1431655765)).toUInt32 >>> ((2 : Int32).toUInt32 &&& Int32.toUInt32 31)).toInt32) &&& 858993459)).toUInt32 >>> ((4 : Int32).toUInt32 &&& Int32.toUInt32 31)).toInt32)) &&& 252645135).toUInt32 >>> ((8 : Int32).toUInt32 &&& Int32.toUInt32 31)).toInt32)).toUInt32 >>> ((16 : Int32).toUInt32 &&& Int32.toUInt32 31)).toInt32)))]) dJ6_bitCount_0f7a4_47 rfl (by exact (Nat.le_of_ble_eq_true rfl)) rfl rfl ?_
  refine ab_iload_n (i := 0) dJ6_bitCount_0f7a4_48 rfl rfl ?_
  refine ab_bipush (v := 63) dJ6_bitCount_0f7a4_49 (by decide) ?_
  refine ab_iand dJ6_bitCount_0f7a4_51 ?_
  exact ab_iret rfl dJ6_bitCount_0f7a4_52 (Nat.le_of_ble_eq_true rfl) (Nat.le_of_ble_eq_true rfl) ht
theorem c_J6_bitCount_0f7a4 {Q : Option Value → ah_T → Prop} {h : ah_T} (hs : Sh h) (x0 : Int32)  (hq : Q (some (.int (f_J6_bitCount_0f7a4 x0))) h) : Mt mJ6_bitCount_0f7a4 [.int x0] h Q := by
  refine T_J6_bitCount_0f7a4 hs x0 ?_
  simpa only [f_J6_bitCount_0f7a4] using hq
theorem dX6_steps_0 : decode cX6_steps 0 = .ok (.iload_n 1, 1) := by decide +kernel
theorem dX6_steps_1 : decode cX6_steps 1 = .ok (.bipush 12, 2) := by decide +kernel
theorem dX6_steps_3 : decode cX6_steps 3 = .ok (.invokestatic 85, 3) := by decide +kernel
theorem dX6_steps_6 : decode cX6_steps 6 = .ok (.ifCond .eq 26, 3) := by decide +kernel
theorem dX6_steps_9 : decode cX6_steps 9 = .ok (.iload_n 2, 1) := by decide +kernel
theorem dX6_steps_10 : decode cX6_steps 10 = .ok (.bipush 12, 2) := by decide +kernel
theorem dX6_steps_12 : decode cX6_steps 12 = .ok (.invokestatic 85, 3) := by decide +kernel
theorem dX6_steps_15 : decode cX6_steps 15 = .ok (.ifCond .eq 17, 3) := by decide +kernel
theorem dX6_steps_18 : decode cX6_steps 18 = .ok (.aload_n 0, 1) := by decide +kernel
theorem dX6_steps_19 : decode cX6_steps 19 = .ok (.getfield 25, 3) := by decide +kernel
theorem dX6_steps_22 : decode cX6_steps 22 = .ok (.iload_n 1, 1) := by decide +kernel
theorem dX6_steps_23 : decode cX6_steps 23 = .ok (.bipush 12, 2) := by decide +kernel
theorem dX6_steps_25 : decode cX6_steps 25 = .ok (.imul, 1) := by decide +kernel
theorem dX6_steps_26 : decode cX6_steps 26 = .ok (.iload_n 2, 1) := by decide +kernel
theorem dX6_steps_27 : decode cX6_steps 27 = .ok (.iadd, 1) := by decide +kernel
theorem dX6_steps_28 : decode cX6_steps 28 = .ok (.iaload, 1) := by decide +kernel
theorem dX6_steps_29 : decode cX6_steps 29 = .ok (.goto 4, 3) := by decide +kernel
theorem dX6_steps_32 : decode cX6_steps 32 = .ok (.iconst (-1), 1) := by decide +kernel
theorem dX6_steps_33 : decode cX6_steps 33 = .ok (.ireturn, 1) := by decide +kernel
def f_X6_steps (h : ah_T) (x1 : Int32) (x2 : Int32) : Int32 := (if (f_X11_isIn x1 12) = 0 then (-1) else (if (f_X11_isIn x2 12) = 0 then (-1) else (ah_i h 33 (Int32.toNatClampNeg ((x1 * 12) + x2)))))
set_option maxRecDepth 20000 in
theorem T_X6_steps {Q : Option Value → ah_T → Prop} {h : ah_T} (hs : Sh h) (x1 : Int32) (x2 : Int32) (ht : (((f_X11_isIn x1 12) = 0 → Q (some (.int (-1))) h) ∧ (¬ (f_X11_isIn x1 12) = 0 → (((f_X11_isIn x2 12) = 0 → Q (some (.int (-1))) h) ∧ (¬ (f_X11_isIn x2 12) = 0 → (vp_in ((x1 * 12) + x2) (ah_n h 33)) ∧ Q (some (.int (ah_i h 33 (Int32.toNatClampNeg ((x1 * 12) + x2))))) h))))) : Mt mX6_steps [.ref 29, .int x1, .int x2] h Q := by
  refine Mt.ofWp rfl (by exact (Nat.le_of_ble_eq_true rfl)) (Wp.fewer (L' := [some (.ref 29), some (.int x1), some (.int x2)]) (show ab_leL _ _ from ⟨rfl, ⟨rfl, ⟨rfl, trivial⟩⟩⟩) ?_)
  refine ab_iload_n (i := 1) dX6_steps_0 rfl rfl ?_
  refine ab_bipush (v := 12) dX6_steps_1 (by decide) ?_
  refine ab_callSN (Q' := fun r h' => r = some (.int (f_X11_isIn x1 12)) ∧ h = h') (As := [.int x1, .int 12]) (c_X11_isIn hs x1 12 ⟨rfl, rfl⟩) (Y_X11_isIn) (fun g A s z => z.2.2.2.2.2.2.2.1) st_X11_isIn rfl ⟨(Nat.le_of_ble_eq_true rfl), (Nat.le_of_ble_eq_true rfl), (Nat.le_of_ble_eq_true rfl), (Nat.le_of_ble_eq_true rfl)⟩ dX6_steps_3 ?_
  rintro _ _ ⟨rfl, rfl⟩
  refine ab_if_eq (tgt := 32) dX6_steps_6 (by decide) (fun c1 => ?_) (fun c1 => ?_)
  · have ht := ht.1 c1
    refine ab_iconst (v := (-1)) dX6_steps_32 (by decide) ?_
    exact ab_iret rfl dX6_steps_33 (Nat.le_of_ble_eq_true rfl) (Nat.le_of_ble_eq_true rfl) ht
  · have ht := ht.2 c1
    refine ab_iload_n (i := 2) dX6_steps_9 rfl rfl ?_
    refine ab_bipush (v := 12) dX6_steps_10 (by decide) ?_
    refine ab_callSN (Q' := fun r h' => r = some (.int (f_X11_isIn x2 12)) ∧ h = h') (As := [.int x2, .int 12]) (c_X11_isIn hs x2 12 ⟨rfl, rfl⟩) (Y_X11_isIn) (fun g A s z => z.2.2.2.2.2.2.2.1) st_X11_isIn rfl ⟨(Nat.le_of_ble_eq_true rfl), (Nat.le_of_ble_eq_true rfl), (Nat.le_of_ble_eq_true rfl), (Nat.le_of_ble_eq_true rfl)⟩ dX6_steps_12 ?_
    rintro _ _ ⟨rfl, rfl⟩
    refine ab_if_eq (tgt := 32) dX6_steps_15 (by decide) (fun c2 => ?_) (fun c2 => ?_)
    · have ht := ht.1 c2
      refine ab_iconst (v := (-1)) dX6_steps_32 (by decide) ?_
      exact ab_iret rfl dX6_steps_33 (Nat.le_of_ble_eq_true rfl) (Nat.le_of_ble_eq_true rfl) ht
    · have ht := ht.2 c2
      refine ab_aload_n (i := 0) dX6_steps_18 rfl rfl ?_
      refine ab_getR (b := 33) f_X6_25 rfl (sh_k hs 29 6 (by decide) rfl) (sh_r hs 38 rfl) dX6_steps_19 ?_
      refine ab_iload_n (i := 1) dX6_steps_22 rfl rfl ?_
      refine ab_bipush (v := 12) dX6_steps_23 (by decide) ?_
      refine ab_imul dX6_steps_25 ?_
      refine ab_iload_n (i := 2) dX6_steps_26 rfl rfl ?_
      refine ab_iadd dX6_steps_27 ?_
      obtain ⟨hc3, ht⟩ := ht
      refine ab_iald (sh_k hs 33 14 (by decide) rfl) hc3 dX6_steps_28 ?_
      refine ab_goto (tgt := 33) dX6_steps_29 (by decide) ?_
      exact ab_iret rfl dX6_steps_33 (Nat.le_of_ble_eq_true rfl) (Nat.le_of_ble_eq_true rfl) ht
theorem c_X6_steps {Q : Option Value → ah_T → Prop} {h : ah_T} (hs : Sh h) (x1 : Int32) (x2 : Int32) (ok0 : (¬ (f_X11_isIn x1 12) = 0 → (¬ (f_X11_isIn x2 12) = 0 → vp_in ((x1 * 12) + x2) (ah_n h 33)))) (hq : Q (some (.int (f_X6_steps h x1 x2))) h) : Mt mX6_steps [.ref 29, .int x1, .int x2] h Q := by
  refine T_X6_steps hs x1 x2 ?_
  refine ⟨fun c1 => ?_, fun c1 => ?_⟩
  ·
    simpa only [f_X6_steps, if_pos c1] using hq
  ·
    refine ⟨fun c2 => ?_, fun c2 => ?_⟩
    ·
      simpa only [f_X6_steps, if_neg c1, if_pos c2] using hq
    ·
      refine ⟨ok0 c1 c2, ?_⟩
      simpa only [f_X6_steps, if_neg c1, if_neg c2] using hq
theorem dX6_sight_0 : decode cX6_sight 0 = .ok (.iload_n 1, 1) := by decide +kernel
theorem dX6_sight_1 : decode cX6_sight 1 = .ok (.bipush 12, 2) := by decide +kernel
theorem dX6_sight_3 : decode cX6_sight 3 = .ok (.invokestatic 85, 3) := by decide +kernel
theorem dX6_sight_6 : decode cX6_sight 6 = .ok (.ifCond .eq 26, 3) := by decide +kernel
theorem dX6_sight_9 : decode cX6_sight 9 = .ok (.iload_n 2, 1) := by decide +kernel
theorem dX6_sight_10 : decode cX6_sight 10 = .ok (.bipush 12, 2) := by decide +kernel
theorem dX6_sight_12 : decode cX6_sight 12 = .ok (.invokestatic 85, 3) := by decide +kernel
theorem dX6_sight_15 : decode cX6_sight 15 = .ok (.ifCond .eq 17, 3) := by decide +kernel
theorem dX6_sight_18 : decode cX6_sight 18 = .ok (.aload_n 0, 1) := by decide +kernel
theorem dX6_sight_19 : decode cX6_sight 19 = .ok (.getfield 28, 3) := by decide +kernel
theorem dX6_sight_22 : decode cX6_sight 22 = .ok (.iload_n 1, 1) := by decide +kernel
theorem dX6_sight_23 : decode cX6_sight 23 = .ok (.bipush 12, 2) := by decide +kernel
theorem dX6_sight_25 : decode cX6_sight 25 = .ok (.imul, 1) := by decide +kernel
theorem dX6_sight_26 : decode cX6_sight 26 = .ok (.iload_n 2, 1) := by decide +kernel
theorem dX6_sight_27 : decode cX6_sight 27 = .ok (.iadd, 1) := by decide +kernel
theorem dX6_sight_28 : decode cX6_sight 28 = .ok (.iaload, 1) := by decide +kernel
theorem dX6_sight_29 : decode cX6_sight 29 = .ok (.goto 4, 3) := by decide +kernel
theorem dX6_sight_32 : decode cX6_sight 32 = .ok (.iconst (-1), 1) := by decide +kernel
theorem dX6_sight_33 : decode cX6_sight 33 = .ok (.ireturn, 1) := by decide +kernel
def f_X6_sight (h : ah_T) (x1 : Int32) (x2 : Int32) : Int32 := (if (f_X11_isIn x1 12) = 0 then (-1) else (if (f_X11_isIn x2 12) = 0 then (-1) else (ah_i h 34 (Int32.toNatClampNeg ((x1 * 12) + x2)))))
set_option maxRecDepth 20000 in
theorem T_X6_sight {Q : Option Value → ah_T → Prop} {h : ah_T} (hs : Sh h) (x1 : Int32) (x2 : Int32) (ht : (((f_X11_isIn x1 12) = 0 → Q (some (.int (-1))) h) ∧ (¬ (f_X11_isIn x1 12) = 0 → (((f_X11_isIn x2 12) = 0 → Q (some (.int (-1))) h) ∧ (¬ (f_X11_isIn x2 12) = 0 → (vp_in ((x1 * 12) + x2) (ah_n h 34)) ∧ Q (some (.int (ah_i h 34 (Int32.toNatClampNeg ((x1 * 12) + x2))))) h))))) : Mt mX6_sight [.ref 29, .int x1, .int x2] h Q := by
  refine Mt.ofWp rfl (by exact (Nat.le_of_ble_eq_true rfl)) (Wp.fewer (L' := [some (.ref 29), some (.int x1), some (.int x2)]) (show ab_leL _ _ from ⟨rfl, ⟨rfl, ⟨rfl, trivial⟩⟩⟩) ?_)
  refine ab_iload_n (i := 1) dX6_sight_0 rfl rfl ?_
  refine ab_bipush (v := 12) dX6_sight_1 (by decide) ?_
  refine ab_callSN (Q' := fun r h' => r = some (.int (f_X11_isIn x1 12)) ∧ h = h') (As := [.int x1, .int 12]) (c_X11_isIn hs x1 12 ⟨rfl, rfl⟩) (Y_X11_isIn) (fun g A s z => z.2.2.2.2.2.2.2.1) st_X11_isIn rfl ⟨(Nat.le_of_ble_eq_true rfl), (Nat.le_of_ble_eq_true rfl), (Nat.le_of_ble_eq_true rfl), (Nat.le_of_ble_eq_true rfl)⟩ dX6_sight_3 ?_
  rintro _ _ ⟨rfl, rfl⟩
  refine ab_if_eq (tgt := 32) dX6_sight_6 (by decide) (fun c1 => ?_) (fun c1 => ?_)
  · have ht := ht.1 c1
    refine ab_iconst (v := (-1)) dX6_sight_32 (by decide) ?_
    exact ab_iret rfl dX6_sight_33 (Nat.le_of_ble_eq_true rfl) (Nat.le_of_ble_eq_true rfl) ht
  · have ht := ht.2 c1
    refine ab_iload_n (i := 2) dX6_sight_9 rfl rfl ?_
    refine ab_bipush (v := 12) dX6_sight_10 (by decide) ?_
    refine ab_callSN (Q' := fun r h' => r = some (.int (f_X11_isIn x2 12)) ∧ h = h') (As := [.int x2, .int 12]) (c_X11_isIn hs x2 12 ⟨rfl, rfl⟩) (Y_X11_isIn) (fun g A s z => z.2.2.2.2.2.2.2.1) st_X11_isIn rfl ⟨(Nat.le_of_ble_eq_true rfl), (Nat.le_of_ble_eq_true rfl), (Nat.le_of_ble_eq_true rfl), (Nat.le_of_ble_eq_true rfl)⟩ dX6_sight_12 ?_
    rintro _ _ ⟨rfl, rfl⟩
    refine ab_if_eq (tgt := 32) dX6_sight_15 (by decide) (fun c2 => ?_) (fun c2 => ?_)
    · have ht := ht.1 c2
      refine ab_iconst (v := (-1)) dX6_sight_32 (by decide) ?_
      exact ab_iret rfl dX6_sight_33 (Nat.le_of_ble_eq_true rfl) (Nat.le_of_ble_eq_true rfl) ht
    · have ht := ht.2 c2
      refine ab_aload_n (i := 0) dX6_sight_18 rfl rfl ?_
      refine ab_getR (b := 34) f_X6_28 rfl (sh_k hs 29 6 (by decide) rfl) (sh_r hs 39 rfl) dX6_sight_19 ?_
      refine ab_iload_n (i := 1) dX6_sight_22 rfl rfl ?_
      refine ab_bipush (v := 12) dX6_sight_23 (by decide) ?_
      refine ab_imul dX6_sight_25 ?_
      refine ab_iload_n (i := 2) dX6_sight_26 rfl rfl ?_
      refine ab_iadd dX6_sight_27 ?_
      obtain ⟨hc3, ht⟩ := ht
      refine ab_iald (sh_k hs 34 14 (by decide) rfl) hc3 dX6_sight_28 ?_
      refine ab_goto (tgt := 33) dX6_sight_29 (by decide) ?_
      exact ab_iret rfl dX6_sight_33 (Nat.le_of_ble_eq_true rfl) (Nat.le_of_ble_eq_true rfl) ht
theorem c_X6_sight {Q : Option Value → ah_T → Prop} {h : ah_T} (hs : Sh h) (x1 : Int32) (x2 : Int32) (ok0 : (¬ (f_X11_isIn x1 12) = 0 → (¬ (f_X11_isIn x2 12) = 0 → vp_in ((x1 * 12) + x2) (ah_n h 34)))) (hq : Q (some (.int (f_X6_sight h x1 x2))) h) : Mt mX6_sight [.ref 29, .int x1, .int x2] h Q := by
  refine T_X6_sight hs x1 x2 ?_
  refine ⟨fun c1 => ?_, fun c1 => ?_⟩
  ·
    simpa only [f_X6_sight, if_pos c1] using hq
  ·
    refine ⟨fun c2 => ?_, fun c2 => ?_⟩
    ·
      simpa only [f_X6_sight, if_neg c1, if_pos c2] using hq
    ·
      refine ⟨ok0 c1 c2, ?_⟩
      simpa only [f_X6_sight, if_neg c1, if_neg c2] using hq
theorem dX11_drawn_0 : decode cX11_drawn 0 = .ok (.iload_n 1, 1) := by decide +kernel
theorem dX11_drawn_1 : decode cX11_drawn 1 = .ok (.bipush 120, 2) := by decide +kernel
theorem dX11_drawn_3 : decode cX11_drawn 3 = .ok (.invokestatic 119, 3) := by decide +kernel
theorem dX11_drawn_6 : decode cX11_drawn 6 = .ok (.ifCond .eq 22, 3) := by decide +kernel
theorem dX11_drawn_9 : decode cX11_drawn 9 = .ok (.aload_n 0, 1) := by decide +kernel
theorem dX11_drawn_10 : decode cX11_drawn 10 = .ok (.getfield 27, 3) := by decide +kernel
theorem dX11_drawn_13 : decode cX11_drawn 13 = .ok (.iconst 0, 1) := by decide +kernel
theorem dX11_drawn_14 : decode cX11_drawn 14 = .ok (.iaload, 1) := by decide +kernel
theorem dX11_drawn_15 : decode cX11_drawn 15 = .ok (.iconst (-1), 1) := by decide +kernel
theorem dX11_drawn_16 : decode cX11_drawn 16 = .ok (.if_icmp .eq 12, 3) := by decide +kernel
theorem dX11_drawn_19 : decode cX11_drawn 19 = .ok (.aload_n 0, 1) := by decide +kernel
theorem dX11_drawn_20 : decode cX11_drawn 20 = .ok (.getfield 27, 3) := by decide +kernel
theorem dX11_drawn_23 : decode cX11_drawn 23 = .ok (.iload_n 1, 1) := by decide +kernel
theorem dX11_drawn_24 : decode cX11_drawn 24 = .ok (.iaload, 1) := by decide +kernel
theorem dX11_drawn_25 : decode cX11_drawn 25 = .ok (.goto 4, 3) := by decide +kernel
theorem dX11_drawn_28 : decode cX11_drawn 28 = .ok (.iconst (-1), 1) := by decide +kernel
theorem dX11_drawn_29 : decode cX11_drawn 29 = .ok (.ireturn, 1) := by decide +kernel
def f_X11_drawn (h : ah_T) (x1 : Int32) : Int32 := (if (f_X11_isIn x1 120) = 0 then (-1) else (if (ah_i h 19 (Int32.toNatClampNeg 0)) = (-1) then (-1) else (ah_i h 19 (Int32.toNatClampNeg x1))))
set_option maxRecDepth 20000 in
theorem T_X11_drawn {Q : Option Value → ah_T → Prop} {h : ah_T} (hs : Sh h) (x1 : Int32) (ht : (((f_X11_isIn x1 120) = 0 → Q (some (.int (-1))) h) ∧ (¬ (f_X11_isIn x1 120) = 0 → (((ah_i h 19 (Int32.toNatClampNeg 0)) = (-1) → Q (some (.int (-1))) h) ∧ (¬ (ah_i h 19 (Int32.toNatClampNeg 0)) = (-1) → (vp_in x1 (ah_n h 19)) ∧ Q (some (.int (ah_i h 19 (Int32.toNatClampNeg x1)))) h))))) : Mt mX11_drawn [.ref 0, .int x1] h Q := by
  refine Mt.ofWp rfl (by exact (Nat.le_of_ble_eq_true rfl)) (Wp.fewer (L' := [some (.ref 0), some (.int x1)]) (show ab_leL _ _ from ⟨rfl, ⟨rfl, trivial⟩⟩) ?_)
  refine ab_iload_n (i := 1) dX11_drawn_0 rfl rfl ?_
  refine ab_bipush (v := 120) dX11_drawn_1 (by decide) ?_
  refine ab_callS (Q' := fun r h' => r = some (.int (f_X11_isIn x1 120)) ∧ h = h') (As := [.int x1, .int 120]) (c_X11_isIn hs x1 120 ⟨rfl, rfl⟩) (Y_X11_isIn) l_X11_119 st_X11_isIn rfl ⟨(Nat.le_of_ble_eq_true rfl), (Nat.le_of_ble_eq_true rfl), (Nat.le_of_ble_eq_true rfl), (Nat.le_of_ble_eq_true rfl)⟩ dX11_drawn_3 ?_
  rintro _ _ ⟨rfl, rfl⟩
  refine ab_if_eq (tgt := 28) dX11_drawn_6 (by decide) (fun c1 => ?_) (fun c1 => ?_)
  · have ht := ht.1 c1
    refine ab_iconst (v := (-1)) dX11_drawn_28 (by decide) ?_
    exact ab_iret rfl dX11_drawn_29 (Nat.le_of_ble_eq_true rfl) (Nat.le_of_ble_eq_true rfl) ht
  · have ht := ht.2 c1
    refine ab_aload_n (i := 0) dX11_drawn_9 rfl rfl ?_
    refine ab_getR (b := 19) f_X11_27 rfl (sh_k hs 0 11 (by decide) rfl) (sh_r hs 4 rfl) dX11_drawn_10 ?_
    refine ab_iconst (v := 0) dX11_drawn_13 (by decide) ?_
    refine ab_iald (sh_k hs 19 14 (by decide) rfl) (sh_in hs 19 120 (by decide) (by decide) rfl (by unfold vp_in; decide)) dX11_drawn_14 ?_
    refine ab_iconst (v := (-1)) dX11_drawn_15 (by decide) ?_
    refine ab_icmp_eq (tgt := 28) dX11_drawn_16 (by decide) (fun c2 => ?_) (fun c2 => ?_)
    · have ht := ht.1 c2
      refine ab_iconst (v := (-1)) dX11_drawn_28 (by decide) ?_
      exact ab_iret rfl dX11_drawn_29 (Nat.le_of_ble_eq_true rfl) (Nat.le_of_ble_eq_true rfl) ht
    · have ht := ht.2 c2
      refine ab_aload_n (i := 0) dX11_drawn_19 rfl rfl ?_
      refine ab_getR (b := 19) f_X11_27 rfl (sh_k hs 0 11 (by decide) rfl) (sh_r hs 4 rfl) dX11_drawn_20 ?_
      refine ab_iload_n (i := 1) dX11_drawn_23 rfl rfl ?_
      obtain ⟨hc3, ht⟩ := ht
      refine ab_iald (sh_k hs 19 14 (by decide) rfl) hc3 dX11_drawn_24 ?_
      refine ab_goto (tgt := 29) dX11_drawn_25 (by decide) ?_
      exact ab_iret rfl dX11_drawn_29 (Nat.le_of_ble_eq_true rfl) (Nat.le_of_ble_eq_true rfl) ht
theorem c_X11_drawn {Q : Option Value → ah_T → Prop} {h : ah_T} (hs : Sh h) (x1 : Int32) (ok0 : (¬ (f_X11_isIn x1 120) = 0 → (¬ (ah_i h 19 (Int32.toNatClampNeg 0)) = (-1) → vp_in x1 (ah_n h 19)))) (hq : Q (some (.int (f_X11_drawn h x1))) h) : Mt mX11_drawn [.ref 0, .int x1] h Q := by
  refine T_X11_drawn hs x1 ?_
  refine ⟨fun c1 => ?_, fun c1 => ?_⟩
  ·
    simpa only [f_X11_drawn, if_pos c1] using hq
  ·
    refine ⟨fun c2 => ?_, fun c2 => ?_⟩
    ·
      simpa only [f_X11_drawn, if_neg c1, if_pos c2] using hq
    ·
      refine ⟨ok0 c1 c2, ?_⟩
      simpa only [f_X11_drawn, if_neg c1, if_neg c2] using hq
theorem dX11_areBits_0 : decode cX11_areBits 0 = .ok (.iload_n 0, 1) := by decide +kernel
theorem dX11_areBits_1 : decode cX11_areBits 1 = .ok (.ifCond .le 22, 3) := by decide +kernel
theorem dX11_areBits_4 : decode cX11_areBits 4 = .ok (.iload_n 0, 1) := by decide +kernel
theorem dX11_areBits_5 : decode cX11_areBits 5 = .ok (.iconst 1, 1) := by decide +kernel
theorem dX11_areBits_6 : decode cX11_areBits 6 = .ok (.iload_n 1, 1) := by decide +kernel
theorem dX11_areBits_7 : decode cX11_areBits 7 = .ok (.ishl, 1) := by decide +kernel
theorem dX11_areBits_8 : decode cX11_areBits 8 = .ok (.if_icmp .ge 15, 3) := by decide +kernel
theorem dX11_areBits_11 : decode cX11_areBits 11 = .ok (.iload_n 0, 1) := by decide +kernel
theorem dX11_areBits_12 : decode cX11_areBits 12 = .ok (.invokestatic 292, 3) := by decide +kernel
theorem dX11_areBits_15 : decode cX11_areBits 15 = .ok (.iload_n 2, 1) := by decide +kernel
theorem dX11_areBits_16 : decode cX11_areBits 16 = .ok (.if_icmp .gt 7, 3) := by decide +kernel
theorem dX11_areBits_19 : decode cX11_areBits 19 = .ok (.iconst 1, 1) := by decide +kernel
theorem dX11_areBits_20 : decode cX11_areBits 20 = .ok (.goto 4, 3) := by decide +kernel
theorem dX11_areBits_23 : decode cX11_areBits 23 = .ok (.iconst 0, 1) := by decide +kernel
theorem dX11_areBits_24 : decode cX11_areBits 24 = .ok (.ireturn, 1) := by decide +kernel
def f_X11_areBits (x0 : Int32) (x1 : Int32) (x2 : Int32) : Int32 := (if x0 ≤ 0 then 0 else (if ((1 : Int32) <<< (x1 &&& 31)) ≤ x0 then 0 else (if x2 < (f_J6_bitCount_0f7a4 x0) then 0 else 1)))
set_option maxRecDepth 20000 in
theorem T_X11_areBits {Q : Option Value → ah_T → Prop} {h : ah_T} (hs : Sh h) (x0 : Int32) (x1 : Int32) (x2 : Int32) (ht : ((x0 ≤ 0 → Q (some (.int 0)) h) ∧ (¬ x0 ≤ 0 → ((((1 : Int32) <<< (x1 &&& 31)) ≤ x0 → Q (some (.int 0)) h) ∧ (¬ ((1 : Int32) <<< (x1 &&& 31)) ≤ x0 → ((x2 < (f_J6_bitCount_0f7a4 x0) → Q (some (.int 0)) h) ∧ (¬ x2 < (f_J6_bitCount_0f7a4 x0) → Q (some (.int 1)) h))))))) : Mt mX11_areBits [.int x0, .int x1, .int x2] h Q := by
  refine Mt.ofWp rfl (by exact (Nat.le_of_ble_eq_true rfl)) (Wp.fewer (L' := [some (.int x0), some (.int x1), some (.int x2)]) (show ab_leL _ _ from ⟨rfl, ⟨rfl, ⟨rfl, trivial⟩⟩⟩) ?_)
  refine ab_iload_n (i := 0) dX11_areBits_0 rfl rfl ?_
  refine ab_if_le (tgt := 23) dX11_areBits_1 (by decide) (fun c1 => ?_) (fun c1 => ?_)
  · have ht := ht.1 c1
    refine ab_iconst (v := 0) dX11_areBits_23 (by decide) ?_
    exact ab_zret rfl rfl dX11_areBits_24 (Nat.le_of_ble_eq_true rfl) (Nat.le_of_ble_eq_true rfl) ht
  · have ht := ht.2 c1
    refine ab_iload_n (i := 0) dX11_areBits_4 rfl rfl ?_
    refine ab_iconst (v := 1) dX11_areBits_5 (by decide) ?_
    refine ab_iload_n (i := 1) dX11_areBits_6 rfl rfl ?_
    refine ab_ishl dX11_areBits_7 ?_
    refine ab_icmp_ge (tgt := 23) dX11_areBits_8 (by decide) (fun c2 => ?_) (fun c2 => ?_)
    · have ht := ht.1 c2
      refine ab_iconst (v := 0) dX11_areBits_23 (by decide) ?_
      exact ab_zret rfl rfl dX11_areBits_24 (Nat.le_of_ble_eq_true rfl) (Nat.le_of_ble_eq_true rfl) ht
    · have ht := ht.2 c2
      refine ab_iload_n (i := 0) dX11_areBits_11 rfl rfl ?_
      refine ab_callS (Q' := fun r h' => r = some (.int (f_J6_bitCount_0f7a4 x0)) ∧ h = h') (As := [.int x0]) (c_J6_bitCount_0f7a4 hs x0 ⟨rfl, rfl⟩) (Y_J6_bitCount_0f7a4) l_X11_292 st_J6_bitCount_0f7a4 rfl ⟨(Nat.le_of_ble_eq_true rfl), (Nat.le_of_ble_eq_true rfl), (Nat.le_of_ble_eq_true rfl), (Nat.le_of_ble_eq_true rfl)⟩ dX11_areBits_12 ?_
      rintro _ _ ⟨rfl, rfl⟩
      refine ab_iload_n (i := 2) dX11_areBits_15 rfl rfl ?_
      refine ab_icmp_gt (tgt := 23) dX11_areBits_16 (by decide) (fun c3 => ?_) (fun c3 => ?_)
      · have ht := ht.1 c3
        refine ab_iconst (v := 0) dX11_areBits_23 (by decide) ?_
        exact ab_zret rfl rfl dX11_areBits_24 (Nat.le_of_ble_eq_true rfl) (Nat.le_of_ble_eq_true rfl) ht
      · have ht := ht.2 c3
        refine ab_iconst (v := 1) dX11_areBits_19 (by decide) ?_
        refine ab_goto (tgt := 24) dX11_areBits_20 (by decide) ?_
        exact ab_zret rfl rfl dX11_areBits_24 (Nat.le_of_ble_eq_true rfl) (Nat.le_of_ble_eq_true rfl) ht
theorem c_X11_areBits {Q : Option Value → ah_T → Prop} {h : ah_T} (hs : Sh h) (x0 : Int32) (x1 : Int32) (x2 : Int32)  (hq : Q (some (.int (f_X11_areBits x0 x1 x2))) h) : Mt mX11_areBits [.int x0, .int x1, .int x2] h Q := by
  refine T_X11_areBits hs x0 x1 x2 ?_
  refine ⟨fun c1 => ?_, fun c1 => ?_⟩
  ·
    simpa only [f_X11_areBits, if_pos c1] using hq
  ·
    refine ⟨fun c2 => ?_, fun c2 => ?_⟩
    ·
      simpa only [f_X11_areBits, if_neg c1, if_pos c2] using hq
    ·
      refine ⟨fun c3 => ?_, fun c3 => ?_⟩
      ·
        simpa only [f_X11_areBits, if_neg c1, if_neg c2, if_pos c3] using hq
      ·
        simpa only [f_X11_areBits, if_neg c1, if_neg c2, if_neg c3] using hq
theorem b_X11_areBits {x0 : Int32} {x1 : Int32} {x2 : Int32} : ab_b (f_X11_areBits x0 x1 x2) := by
  unfold f_X11_areBits
  repeat' split
  all_goals first | exact ab_b0 | exact ab_b1
theorem dX4_possibleSights_0 : decode cX4_possibleSights 0 = .ok (.iload_n 1, 1) := by decide +kernel
theorem dX4_possibleSights_1 : decode cX4_possibleSights 1 = .ok (.bipush 12, 2) := by decide +kernel
theorem dX4_possibleSights_3 : decode cX4_possibleSights 3 = .ok (.idiv, 1) := by decide +kernel
theorem dX4_possibleSights_4 : decode cX4_possibleSights 4 = .ok (.istore_n 2, 1) := by decide +kernel
theorem dX4_possibleSights_5 : decode cX4_possibleSights 5 = .ok (.iload_n 1, 1) := by decide +kernel
theorem dX4_possibleSights_6 : decode cX4_possibleSights 6 = .ok (.bipush 12, 2) := by decide +kernel
theorem dX4_possibleSights_8 : decode cX4_possibleSights 8 = .ok (.irem, 1) := by decide +kernel
theorem dX4_possibleSights_9 : decode cX4_possibleSights 9 = .ok (.istore_n 3, 1) := by decide +kernel
theorem dX4_possibleSights_10 : decode cX4_possibleSights 10 = .ok (.aload_n 0, 1) := by decide +kernel
theorem dX4_possibleSights_11 : decode cX4_possibleSights 11 = .ok (.getfield 54, 3) := by decide +kernel
theorem dX4_possibleSights_14 : decode cX4_possibleSights 14 = .ok (.iload_n 2, 1) := by decide +kernel
theorem dX4_possibleSights_15 : decode cX4_possibleSights 15 = .ok (.iload_n 3, 1) := by decide +kernel
theorem dX4_possibleSights_16 : decode cX4_possibleSights 16 = .ok (.invokevirtual 106, 3) := by decide +kernel
theorem dX4_possibleSights_19 : decode cX4_possibleSights 19 = .ok (.istore 4, 2) := by decide +kernel
theorem dX4_possibleSights_21 : decode cX4_possibleSights 21 = .ok (.iload_n 2, 1) := by decide +kernel
theorem dX4_possibleSights_22 : decode cX4_possibleSights 22 = .ok (.iload_n 3, 1) := by decide +kernel
theorem dX4_possibleSights_23 : decode cX4_possibleSights 23 = .ok (.if_icmp .eq 9, 3) := by decide +kernel
theorem dX4_possibleSights_26 : decode cX4_possibleSights 26 = .ok (.iload 4, 2) := by decide +kernel
theorem dX4_possibleSights_28 : decode cX4_possibleSights 28 = .ok (.iconst (-1), 1) := by decide +kernel
theorem dX4_possibleSights_29 : decode cX4_possibleSights 29 = .ok (.if_icmp .ne 10, 3) := by decide +kernel
theorem dX4_possibleSights_32 : decode cX4_possibleSights 32 = .ok (.iconst 1, 1) := by decide +kernel
theorem dX4_possibleSights_33 : decode cX4_possibleSights 33 = .ok (.iload 4, 2) := by decide +kernel
theorem dX4_possibleSights_35 : decode cX4_possibleSights 35 = .ok (.iconst 1, 1) := by decide +kernel
theorem dX4_possibleSights_36 : decode cX4_possibleSights 36 = .ok (.iadd, 1) := by decide +kernel
theorem dX4_possibleSights_37 : decode cX4_possibleSights 37 = .ok (.ishl, 1) := by decide +kernel
theorem dX4_possibleSights_38 : decode cX4_possibleSights 38 = .ok (.ireturn, 1) := by decide +kernel
theorem dX4_possibleSights_39 : decode cX4_possibleSights 39 = .ok (.iconst 1, 1) := by decide +kernel
theorem dX4_possibleSights_40 : decode cX4_possibleSights 40 = .ok (.sipush 8192, 3) := by decide +kernel
theorem dX4_possibleSights_43 : decode cX4_possibleSights 43 = .ok (.iconst 1, 1) := by decide +kernel
theorem dX4_possibleSights_44 : decode cX4_possibleSights 44 = .ok (.iload 4, 2) := by decide +kernel
theorem dX4_possibleSights_46 : decode cX4_possibleSights 46 = .ok (.iconst 1, 1) := by decide +kernel
theorem dX4_possibleSights_47 : decode cX4_possibleSights 47 = .ok (.iadd, 1) := by decide +kernel
theorem dX4_possibleSights_48 : decode cX4_possibleSights 48 = .ok (.ishl, 1) := by decide +kernel
theorem dX4_possibleSights_49 : decode cX4_possibleSights 49 = .ok (.isub, 1) := by decide +kernel
theorem dX4_possibleSights_50 : decode cX4_possibleSights 50 = .ok (.ior, 1) := by decide +kernel
theorem dX4_possibleSights_51 : decode cX4_possibleSights 51 = .ok (.ireturn, 1) := by decide +kernel
def f_X4_possibleSights (h : ah_T) (x1 : Int32) : Int32 := (if (x1 / 12) = (x1 - x1 / 12 * 12) then ((1 : Int32) <<< (((f_X6_sight h (x1 / 12) (x1 - x1 / 12 * 12)) + 1) &&& 31)) else (if (f_X6_sight h (x1 / 12) (x1 - x1 / 12 * 12)) = (-1) then ((1 : Int32) <<< (((f_X6_sight h (x1 / 12) (x1 - x1 / 12 * 12)) + 1) &&& 31)) else (1 ||| (8192 - ((1 : Int32) <<< (((f_X6_sight h (x1 / 12) (x1 - x1 / 12 * 12)) + 1) &&& 31))))))
set_option maxRecDepth 20000 in
theorem T_X4_possibleSights {Q : Option Value → ah_T → Prop} {h : ah_T} (hs : Sh h) (x1 : Int32) (ht : ((¬ (f_X11_isIn (x1 / 12) 12) = 0 → (¬ (f_X11_isIn (x1 - x1 / 12 * 12) 12) = 0 → vp_in (((x1 / 12) * 12) + (x1 - x1 / 12 * 12)) (ah_n h 34)))) ∧ (((x1 / 12) = (x1 - x1 / 12 * 12) → Q (some (.int ((1 : Int32) <<< (((f_X6_sight h (x1 / 12) (x1 - x1 / 12 * 12)) + 1) &&& 31)))) h) ∧ (¬ (x1 / 12) = (x1 - x1 / 12 * 12) → ((¬ (f_X6_sight h (x1 / 12) (x1 - x1 / 12 * 12)) = (-1) → Q (some (.int (1 ||| (8192 - ((1 : Int32) <<< (((f_X6_sight h (x1 / 12) (x1 - x1 / 12 * 12)) + 1) &&& 31)))))) h) ∧ ((f_X6_sight h (x1 / 12) (x1 - x1 / 12 * 12)) = (-1) → Q (some (.int ((1 : Int32) <<< (((f_X6_sight h (x1 / 12) (x1 - x1 / 12 * 12)) + 1) &&& 31)))) h))))) : Mt mX4_possibleSights [.ref 74, .int x1] h Q := by
  refine Mt.ofWp rfl (by exact (Nat.le_of_ble_eq_true rfl)) (Wp.fewer (L' := [some (.ref 74), some (.int x1), none, none, none]) (show ab_leL _ _ from ⟨rfl, ⟨rfl, trivial⟩⟩) ?_)
  refine ab_iload_n (i := 1) dX4_possibleSights_0 rfl rfl ?_
  refine ab_bipush (v := 12) dX4_possibleSights_1 (by decide) ?_
  refine ab_idiv dX4_possibleSights_3 (by decide) ?_
  refine ab_istore_n (i := 2) (L' := [some (.ref 74), some (.int x1), some (.int (x1 / 12)), none, none]) dX4_possibleSights_4 rfl (by exact (Nat.le_of_ble_eq_true rfl)) rfl rfl ?_
  refine ab_iload_n (i := 1) dX4_possibleSights_5 rfl rfl ?_
  refine ab_bipush (v := 12) dX4_possibleSights_6 (by decide) ?_
  refine ab_irem dX4_possibleSights_8 (by decide) ?_
  refine ab_istore_n (i := 3) (L' := [some (.ref 74), some (.int x1), some (.int (x1 / 12)), some (.int (x1 - x1 / 12 * 12)), none]) dX4_possibleSights_9 rfl (by exact (Nat.le_of_ble_eq_true rfl)) rfl rfl ?_
  refine ab_aload_n (i := 0) dX4_possibleSights_10 rfl rfl ?_
  refine ab_getR (b := 29) f_X4_54 rfl (sh_k hs 74 4 (by decide) rfl) (sh_r hs 90 rfl) dX4_possibleSights_11 ?_
  refine ab_iload_n (i := 2) dX4_possibleSights_14 rfl rfl ?_
  refine ab_iload_n (i := 3) dX4_possibleSights_15 rfl rfl ?_
  obtain ⟨hc1, ht⟩ := ht
  refine ab_callV (b := 29) (Q' := fun r h' => r = some (.int (f_X6_sight h (x1 / 12) (x1 - x1 / 12 * 12))) ∧ h = h') (As := [.int (x1 / 12), .int (x1 - x1 / 12 * 12)]) (c_X6_sight hs (x1 / 12) (x1 - x1 / 12 * 12)  hc1 ⟨rfl, rfl⟩) (Y_X6_sight) l_X4_106 in_X6_sight se_X6_sight (sh_k hs 29 6 (by decide) rfl) (by decide) rfl rfl ⟨(Nat.le_of_ble_eq_true rfl), (Nat.le_of_ble_eq_true rfl), (Nat.le_of_ble_eq_true rfl), (Nat.le_of_ble_eq_true rfl)⟩ dX4_possibleSights_16 ?_
  rintro _ _ ⟨rfl, rfl⟩
  refine ab_istore (i := 4) (L' := [some (.ref 74), some (.int x1), some (.int (x1 / 12)), some (.int (x1 - x1 / 12 * 12)), some (.int (f_X6_sight h (x1 / 12) (x1 - x1 / 12 * 12)))]) dX4_possibleSights_19 (by exact (Nat.le_of_ble_eq_true rfl)) rfl rfl ?_
  refine ab_iload_n (i := 2) dX4_possibleSights_21 rfl rfl ?_
  refine ab_iload_n (i := 3) dX4_possibleSights_22 rfl rfl ?_
  refine ab_icmp_eq (tgt := 32) dX4_possibleSights_23 (by decide) (fun c2 => ?_) (fun c2 => ?_)
  · have ht := ht.1 c2
    refine ab_iconst (v := 1) dX4_possibleSights_32 (by decide) ?_
    refine ab_iload (i := 4) dX4_possibleSights_33 rfl ?_
    refine ab_iconst (v := 1) dX4_possibleSights_35 (by decide) ?_
    refine ab_iadd dX4_possibleSights_36 ?_
    refine ab_ishl dX4_possibleSights_37 ?_
    exact ab_iret rfl dX4_possibleSights_38 (Nat.le_of_ble_eq_true rfl) (Nat.le_of_ble_eq_true rfl) ht
  · have ht := ht.2 c2
    refine ab_iload (i := 4) dX4_possibleSights_26 rfl ?_
    refine ab_iconst (v := (-1)) dX4_possibleSights_28 (by decide) ?_
    refine ab_icmp_ne (tgt := 39) dX4_possibleSights_29 (by decide) (fun c3 => ?_) (fun c3 => ?_)
    · have ht := ht.1 c3
      refine ab_iconst (v := 1) dX4_possibleSights_39 (by decide) ?_
      refine ab_sipush (v := 8192) dX4_possibleSights_40 (by decide) ?_
      refine ab_iconst (v := 1) dX4_possibleSights_43 (by decide) ?_
      refine ab_iload (i := 4) dX4_possibleSights_44 rfl ?_
      refine ab_iconst (v := 1) dX4_possibleSights_46 (by decide) ?_
      refine ab_iadd dX4_possibleSights_47 ?_
      refine ab_ishl dX4_possibleSights_48 ?_
      refine ab_isub dX4_possibleSights_49 ?_
      refine ab_ior dX4_possibleSights_50 ?_
      exact ab_iret rfl dX4_possibleSights_51 (Nat.le_of_ble_eq_true rfl) (Nat.le_of_ble_eq_true rfl) ht
    · have ht := ht.2 c3
      refine ab_iconst (v := 1) dX4_possibleSights_32 (by decide) ?_
      refine ab_iload (i := 4) dX4_possibleSights_33 rfl ?_
      refine ab_iconst (v := 1) dX4_possibleSights_35 (by decide) ?_
      refine ab_iadd dX4_possibleSights_36 ?_
      refine ab_ishl dX4_possibleSights_37 ?_
      exact ab_iret rfl dX4_possibleSights_38 (Nat.le_of_ble_eq_true rfl) (Nat.le_of_ble_eq_true rfl) ht
theorem c_X4_possibleSights {Q : Option Value → ah_T → Prop} {h : ah_T} (hs : Sh h) (x1 : Int32) (ok0 : (¬ (f_X11_isIn (x1 / 12) 12) = 0 → (¬ (f_X11_isIn (x1 - x1 / 12 * 12) 12) = 0 → vp_in (((x1 / 12) * 12) + (x1 - x1 / 12 * 12)) (ah_n h 34)))) (hq : Q (some (.int (f_X4_possibleSights h x1))) h) : Mt mX4_possibleSights [.ref 74, .int x1] h Q := by
  refine T_X4_possibleSights hs x1 ?_
  refine ⟨ok0, ?_⟩
  refine ⟨fun c2 => ?_, fun c2 => ?_⟩
  ·
    simpa only [f_X4_possibleSights, if_pos c2] using hq
  ·
    refine ⟨fun c3 => ?_, fun c3 => ?_⟩
    ·
      simpa only [f_X4_possibleSights, if_neg c2, if_neg c3] using hq
    ·
      simpa only [f_X4_possibleSights, if_neg c2, if_pos c3] using hq
