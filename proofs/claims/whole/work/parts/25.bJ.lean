/-! ===== blocks of methods (printed by wip/whole/mkall.py) ===== -/
theorem dJ7_fill_53178_0 : decode cJ7_fill_53178 0 = .ok (.iconst 0, 1) := by decide +kernel
theorem dJ7_fill_53178_1 : decode cJ7_fill_53178 1 = .ok (.istore_n 2, 1) := by decide +kernel
theorem dJ7_fill_53178_2 : decode cJ7_fill_53178 2 = .ok (.aload_n 0, 1) := by decide +kernel
theorem dJ7_fill_53178_3 : decode cJ7_fill_53178 3 = .ok (.arraylength, 1) := by decide +kernel
theorem dJ7_fill_53178_4 : decode cJ7_fill_53178 4 = .ok (.istore_n 3, 1) := by decide +kernel
theorem dJ7_fill_53178_5 : decode cJ7_fill_53178 5 = .ok (.iload_n 2, 1) := by decide +kernel
theorem dJ7_fill_53178_6 : decode cJ7_fill_53178 6 = .ok (.iload_n 3, 1) := by decide +kernel
theorem dJ7_fill_53178_7 : decode cJ7_fill_53178 7 = .ok (.if_icmp .ge 13, 3) := by decide +kernel
theorem dJ7_fill_53178_10 : decode cJ7_fill_53178 10 = .ok (.aload_n 0, 1) := by decide +kernel
theorem dJ7_fill_53178_11 : decode cJ7_fill_53178 11 = .ok (.iload_n 2, 1) := by decide +kernel
theorem dJ7_fill_53178_12 : decode cJ7_fill_53178 12 = .ok (.iload_n 1, 1) := by decide +kernel
theorem dJ7_fill_53178_13 : decode cJ7_fill_53178 13 = .ok (.iastore, 1) := by decide +kernel
theorem dJ7_fill_53178_14 : decode cJ7_fill_53178 14 = .ok (.iinc 2 1, 3) := by decide +kernel
theorem dJ7_fill_53178_17 : decode cJ7_fill_53178 17 = .ok (.goto (-12), 3) := by decide +kernel
theorem dJ7_fill_53178_20 : decode cJ7_fill_53178 20 = .ok (.return_, 1) := by decide +kernel
set_option maxRecDepth 20000 in
theorem T_J7_fill_53178_5 {Q : Option Value → ah_T → Prop} {h : ah_T} (hs : Sh h) (a0 : Nat) (x1 : Int32) (x2 : Int32) (x3 : Int32) (hk_a0 : ah_k h a0 = 14) (ht : ((x3 ≤ x2 → Q none h) ∧ (¬ x3 ≤ x2 → (vp_in x2 (ah_n h a0)) ∧ (∀ h3, h3 = ah_si h a0 (Int32.toNatClampNeg x2) x1 → Wp mJ7_fill_53178 Q 0 0 5 [some (.ref a0), some (.int x1), some (.int (x2 + 1)), some (.int x3)] [] h3)))) : Wp mJ7_fill_53178 Q 0 0 5 [some (.ref a0), some (.int x1), some (.int x2), some (.int x3)] [] h := by
  refine ab_iload_n (i := 2) dJ7_fill_53178_5 rfl rfl ?_
  refine ab_iload_n (i := 3) dJ7_fill_53178_6 rfl rfl ?_
  refine ab_icmp_ge (tgt := 20) dJ7_fill_53178_7 (by decide) (fun c1 => ?_) (fun c1 => ?_)
  · have ht := ht.1 c1
    exact ab_vret rfl dJ7_fill_53178_20 (Nat.le_of_ble_eq_true rfl) (Nat.le_of_ble_eq_true rfl) ht
  · have ht := ht.2 c1
    refine ab_aload_n (i := 0) dJ7_fill_53178_10 rfl rfl ?_
    refine ab_iload_n (i := 2) dJ7_fill_53178_11 rfl rfl ?_
    refine ab_iload_n (i := 1) dJ7_fill_53178_12 rfl rfl ?_
    obtain ⟨hc2, ht⟩ := ht
    refine ab_iast hk_a0 hc2 dJ7_fill_53178_13 ?_
    refine Wp.nm fun h3 e4 => ?_
    have ht := ht h3 e4
    have hs5 : Sh h3 := by rw [e4]; exact sh_si hs
    have hk6 : ah_k h3 a0 = 14 := by rw [e4]; exact hk_a0
    refine ab_iinc (i := 2) (x := x2) (v := (x2 + 1)) (L' := [some (.ref a0), some (.int x1), some (.int (x2 + 1)), some (.int x3)]) dJ7_fill_53178_14 rfl rfl (by exact (Nat.le_of_ble_eq_true rfl)) rfl rfl ?_
    refine ab_goto (tgt := 5) dJ7_fill_53178_17 (by decide) ?_
    exact Wp.fewer (L' := [some (.ref a0), some (.int x1), some (.int (x2 + 1)), some (.int x3)]) (show ab_leL _ _ from ⟨rfl, ⟨rfl, ⟨rfl, ⟨rfl, trivial⟩⟩⟩⟩) ht
set_option maxRecDepth 20000 in
theorem T_J7_fill_53178 {Q : Option Value → ah_T → Prop} {h : ah_T} (hs : Sh h) (a0 : Nat) (x1 : Int32) (hk_a0 : ah_k h a0 = 14) (ht : Wp mJ7_fill_53178 Q 0 0 5 [some (.ref a0), some (.int x1), some (.int 0), some (.int (Int32.ofNat (ah_n h a0)))] [] h) : Mt mJ7_fill_53178 [.ref a0, .int x1] h Q := by
  refine Mt.ofWp rfl (by exact (Nat.le_of_ble_eq_true rfl)) (Wp.fewer (L' := [some (.ref a0), some (.int x1), none, none]) (show ab_leL _ _ from ⟨rfl, ⟨rfl, trivial⟩⟩) ?_)
  refine ab_iconst (v := 0) dJ7_fill_53178_0 (by decide) ?_
  refine ab_istore_n (i := 2) (L' := [some (.ref a0), some (.int x1), some (.int 0), none]) dJ7_fill_53178_1 rfl (by exact (Nat.le_of_ble_eq_true rfl)) rfl rfl ?_
  refine ab_aload_n (i := 0) dJ7_fill_53178_2 rfl rfl ?_
  refine ab_alen 14 (by decide) hk_a0 rfl dJ7_fill_53178_3 ?_
  refine ab_istore_n (i := 3) (L' := [some (.ref a0), some (.int x1), some (.int 0), some (.int (Int32.ofNat (ah_n h a0)))]) dJ7_fill_53178_4 rfl (by exact (Nat.le_of_ble_eq_true rfl)) rfl rfl ?_
  exact Wp.fewer (L' := [some (.ref a0), some (.int x1), some (.int 0), some (.int (Int32.ofNat (ah_n h a0)))]) (show ab_leL _ _ from ⟨rfl, ⟨rfl, ⟨rfl, ⟨rfl, trivial⟩⟩⟩⟩) ht
theorem dJ7_fill_fda19_0 : decode cJ7_fill_fda19 0 = .ok (.aload_n 0, 1) := by decide +kernel
theorem dJ7_fill_fda19_1 : decode cJ7_fill_fda19 1 = .ok (.arraylength, 1) := by decide +kernel
theorem dJ7_fill_fda19_2 : decode cJ7_fill_fda19 2 = .ok (.iload_n 1, 1) := by decide +kernel
theorem dJ7_fill_fda19_3 : decode cJ7_fill_fda19 3 = .ok (.iload_n 2, 1) := by decide +kernel
theorem dJ7_fill_fda19_4 : decode cJ7_fill_fda19 4 = .ok (.invokestatic 13, 3) := by decide +kernel
theorem dJ7_fill_fda19_7 : decode cJ7_fill_fda19 7 = .ok (.iload_n 1, 1) := by decide +kernel
theorem dJ7_fill_fda19_8 : decode cJ7_fill_fda19 8 = .ok (.istore 4, 2) := by decide +kernel
theorem dJ7_fill_fda19_10 : decode cJ7_fill_fda19 10 = .ok (.iload 4, 2) := by decide +kernel
theorem dJ7_fill_fda19_12 : decode cJ7_fill_fda19 12 = .ok (.iload_n 2, 1) := by decide +kernel
theorem dJ7_fill_fda19_13 : decode cJ7_fill_fda19 13 = .ok (.if_icmp .ge 14, 3) := by decide +kernel
theorem dJ7_fill_fda19_16 : decode cJ7_fill_fda19 16 = .ok (.aload_n 0, 1) := by decide +kernel
theorem dJ7_fill_fda19_17 : decode cJ7_fill_fda19 17 = .ok (.iload 4, 2) := by decide +kernel
theorem dJ7_fill_fda19_19 : decode cJ7_fill_fda19 19 = .ok (.iload_n 3, 1) := by decide +kernel
theorem dJ7_fill_fda19_20 : decode cJ7_fill_fda19 20 = .ok (.iastore, 1) := by decide +kernel
theorem dJ7_fill_fda19_21 : decode cJ7_fill_fda19 21 = .ok (.iinc 4 1, 3) := by decide +kernel
theorem dJ7_fill_fda19_24 : decode cJ7_fill_fda19 24 = .ok (.goto (-14), 3) := by decide +kernel
theorem dJ7_fill_fda19_27 : decode cJ7_fill_fda19 27 = .ok (.return_, 1) := by decide +kernel
set_option maxRecDepth 20000 in
theorem T_J7_fill_fda19_10 {Q : Option Value → ah_T → Prop} {h : ah_T} (hs : Sh h) (a0 : Nat) (x2 : Int32) (x3 : Int32) (x4 : Int32) (hk_a0 : ah_k h a0 = 14) (ht : ((x2 ≤ x4 → Q none h) ∧ (¬ x2 ≤ x4 → (vp_in x4 (ah_n h a0)) ∧ (∀ h7, h7 = ah_si h a0 (Int32.toNatClampNeg x4) x3 → Wp mJ7_fill_fda19 Q 0 0 10 [some (.ref a0), none, some (.int x2), some (.int x3), some (.int (x4 + 1))] [] h7)))) : Wp mJ7_fill_fda19 Q 0 0 10 [some (.ref a0), none, some (.int x2), some (.int x3), some (.int x4)] [] h := by
  refine ab_iload (i := 4) dJ7_fill_fda19_10 rfl ?_
  refine ab_iload_n (i := 2) dJ7_fill_fda19_12 rfl rfl ?_
  refine ab_icmp_ge (tgt := 27) dJ7_fill_fda19_13 (by decide) (fun c5 => ?_) (fun c5 => ?_)
  · have ht := ht.1 c5
    exact ab_vret rfl dJ7_fill_fda19_27 (Nat.le_of_ble_eq_true rfl) (Nat.le_of_ble_eq_true rfl) ht
  · have ht := ht.2 c5
    refine ab_aload_n (i := 0) dJ7_fill_fda19_16 rfl rfl ?_
    refine ab_iload (i := 4) dJ7_fill_fda19_17 rfl ?_
    refine ab_iload_n (i := 3) dJ7_fill_fda19_19 rfl rfl ?_
    obtain ⟨hc6, ht⟩ := ht
    refine ab_iast hk_a0 hc6 dJ7_fill_fda19_20 ?_
    refine Wp.nm fun h7 e8 => ?_
    have ht := ht h7 e8
    have hs9 : Sh h7 := by rw [e8]; exact sh_si hs
    have hk10 : ah_k h7 a0 = 14 := by rw [e8]; exact hk_a0
    refine ab_iinc (i := 4) (x := x4) (v := (x4 + 1)) (L' := [some (.ref a0), none, some (.int x2), some (.int x3), some (.int (x4 + 1))]) dJ7_fill_fda19_21 rfl rfl (by exact (Nat.le_of_ble_eq_true rfl)) rfl rfl ?_
    refine ab_goto (tgt := 10) dJ7_fill_fda19_24 (by decide) ?_
    exact Wp.fewer (L' := [some (.ref a0), none, some (.int x2), some (.int x3), some (.int (x4 + 1))]) (show ab_leL _ _ from ⟨rfl, ⟨rfl, ⟨rfl, ⟨rfl, trivial⟩⟩⟩⟩) ht
set_option maxRecDepth 20000 in
theorem T_J7_fill_fda19 {Q : Option Value → ah_T → Prop} {h : ah_T} (hs : Sh h) (a0 : Nat) (x1 : Int32) (x2 : Int32) (x3 : Int32) (hk_a0 : ah_k h a0 = 14) (ht : (Mt mJ7_rangeCheck_23922 [.int (Int32.ofNat (ah_n h a0)), .int x1, .int x2] h (ab_qv fun h1 => Sh h1 ∧ ah_k h1 a0 = 14 ∧ Wp mJ7_fill_fda19 Q 0 0 10 [some (.ref a0), none, some (.int x2), some (.int x3), some (.int x1)] [] h1))) : Mt mJ7_fill_fda19 [.ref a0, .int x1, .int x2, .int x3] h Q := by
  refine Mt.ofWp rfl (by exact (Nat.le_of_ble_eq_true rfl)) (Wp.fewer (L' := [some (.ref a0), some (.int x1), some (.int x2), some (.int x3), none]) (show ab_leL _ _ from ⟨rfl, ⟨rfl, ⟨rfl, ⟨rfl, trivial⟩⟩⟩⟩) ?_)
  refine ab_aload_n (i := 0) dJ7_fill_fda19_0 rfl rfl ?_
  refine ab_alen 14 (by decide) hk_a0 rfl dJ7_fill_fda19_1 ?_
  refine ab_iload_n (i := 1) dJ7_fill_fda19_2 rfl rfl ?_
  refine ab_iload_n (i := 2) dJ7_fill_fda19_3 rfl rfl ?_
  refine ab_callS (As := [.int (Int32.ofNat (ah_n h a0)), .int x1, .int x2]) ht (Y_J7_rangeCheck_23922) l_J7_13 st_J7_rangeCheck_23922 rfl ⟨(Nat.le_of_ble_eq_true rfl), (Nat.le_of_ble_eq_true rfl), (Nat.le_of_ble_eq_true rfl), (Nat.le_of_ble_eq_true rfl)⟩ dJ7_fill_fda19_4 ?_
  rintro _ h1 ⟨rfl, hs2, hk4, ht⟩
  refine ab_iload_n (i := 1) dJ7_fill_fda19_7 rfl rfl ?_
  refine ab_istore (i := 4) (L' := [some (.ref a0), some (.int x1), some (.int x2), some (.int x3), some (.int x1)]) dJ7_fill_fda19_8 (by exact (Nat.le_of_ble_eq_true rfl)) rfl rfl ?_
  exact Wp.fewer (L' := [some (.ref a0), none, some (.int x2), some (.int x3), some (.int x1)]) (show ab_leL _ _ from ⟨rfl, ⟨rfl, ⟨rfl, ⟨rfl, trivial⟩⟩⟩⟩) ht
