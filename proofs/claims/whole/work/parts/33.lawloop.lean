/-! ===== the loop of the law ===== -/
theorem lw_len : ∀ n : Nat, n ≤ 3072 → (Int32.ofNat n - 6).toInt = (n : Int) - 6 := by
  have h : ((List.range 3073).all fun n => decide ((Int32.ofNat n - 6).toInt = (n : Int) - 6)) = true := by decide +kernel
  intro n hn
  have := List.all_eq_true.mp h n (List.mem_range.mpr (by omega))
  simpa using this
set_option maxRecDepth 100000 in
set_option maxHeartbeats 4000000 in
theorem lw_loop {p : Program} {l : Launch} {e : Env} {s : State} {m : MethodId} {below : List Frame} {meth : Method} {c : Code} {g : ab_G} {b L : Nat} {xs : Nat → Int32} {Inv : Nat → ah_T → Prop} (C : lw_C p s m meth c g b L xs) (hSh : ∀ n h, Inv n h → Sh h) (hmo : ∀ n h, Inv (n + 1) h → Inv n h) (hall : ∀ n, lw_All (Inv (n + 1)) (Inv n)) (hL : L ≤ 3072) :
    ∀ (n j : Nat), L + 6 ≤ j + 6 * n → ∀ (σ : Nat → Nat) (H : Heap) (locs : List Loc) (h : ah_T) (ls : Array Slot) (cells slots : Nat), j ≤ 3072 → lw_S g s σ H locs h → Inv n h → lv_has ls 4 [(0, .ref b), (1, .ref (σ 0)), (2, .ref (σ 82)), (3, .int (nI j))] → cells + 40 * n ≤ 600000 → slots + 11900 * n ≤ 7302250 →
      W p l e room_1 s m #[Value.ref b] below meth c H locs cells slots (lw_Z below #[Value.ref b] s) (F0 m 18 ls []) := by
  intro n
  induction n with
  | zero =>
    intro j hj σ H locs h ls cells slots hj2 S hI hl hc hs
    refine lv_iload_n C.1 C.2.1 dL_law_18 rfl (lv_at hl 3 rfl) ?_
    refine lv_aload_n C.1 C.2.1 dL_law_19 rfl (lv_at hl 0 rfl) ?_
    refine va_slen C.1 C.2.1 C.2.2.2.2.2.1 C.2.2.2.2.2.2.1 (Nat.not_le.mpr C.2.2.2.2.2.2.1) S.2.2 dL_law_20 ?_
    refine lv_bipush (v := 6) C.1 C.2.1 dL_law_21 (by decide) ?_
    refine lv_isub C.1 C.2.1 dL_law_23 ?_
    refine lv_icmp_gt (tgt := 1612) C.1 C.2.1 dL_law_24 (by decide) (fun _ => ?_) (fun q => ?_)
    · refine lv_iconst (v := 1) C.1 C.2.1 dL_law_1612 (by decide) ?_
      refine W.eq (g2 := F0 m 1613 ls [.int 1]) rfl ?_
      refine W.widen (k := 600000) (n := 7302250) (by omega) (by omega) ?_
      exact va_forget S.2.2.2.2 (lw_ret C.1 C.2.1 C.2.2.2.2.2.2.2.2.2.1 C.2.2.2.2.2.2.2.2.2.2 dL_law_1613)
    · exfalso
      apply q
      rw [Int32.lt_iff_toInt_lt, lw_len L hL, nI_toInt (by omega)]
      omega
  | succ n ih =>
    intro j hj σ H locs h ls cells slots hj2 S hI hl hc hs
    refine lv_iload_n C.1 C.2.1 dL_law_18 rfl (lv_at hl 3 rfl) ?_
    refine lv_aload_n C.1 C.2.1 dL_law_19 rfl (lv_at hl 0 rfl) ?_
    refine va_slen C.1 C.2.1 C.2.2.2.2.2.1 C.2.2.2.2.2.2.1 (Nat.not_le.mpr C.2.2.2.2.2.2.1) S.2.2 dL_law_20 ?_
    refine lv_bipush (v := 6) C.1 C.2.1 dL_law_21 (by decide) ?_
    refine lv_isub C.1 C.2.1 dL_law_23 ?_
    refine lv_icmp_gt (tgt := 1612) C.1 C.2.1 dL_law_24 (by decide) (fun _ => ?_) (fun q => ?_)
    · refine lv_iconst (v := 1) C.1 C.2.1 dL_law_1612 (by decide) ?_
      refine W.eq (g2 := F0 m 1613 ls [.int 1]) rfl ?_
      refine W.widen (k := 600000) (n := 7302250) (by omega) (by omega) ?_
      exact va_forget S.2.2.2.2 (lw_ret C.1 C.2.1 C.2.2.2.2.2.2.2.2.2.1 C.2.2.2.2.2.2.2.2.2.2 dL_law_1613)
    · have hj6 : j + 6 ≤ L := by
        rw [Int32.lt_iff_toInt_lt, lw_len L hL, nI_toInt (by omega)] at q
        omega
      have go : ∀ (h' : ah_T) (σ' : Nat → Nat) (H' : Heap) (locs' : List Loc), Inv n h' → lw_S g s σ' H' locs' h' → σ' 0 = σ 0 → σ' 82 = σ 82 → W p l e room_1 s m #[Value.ref b] below meth c H' locs' (cells + 40) (slots + 11900) (lw_Z below #[Value.ref b] s) (F0 m 1606 ls []) := by
        intro h' σ' H' locs' hI' S' e0 e82
        refine lv_iinc (k := 3) (v := nI (j + 6)) (lv' := [(3, .int (nI (j + 6))), (0, .ref b), (1, .ref (σ 0)), (2, .ref (σ 82))]) C.1 C.2.1 dL_law_1606 hl rfl (by rw [← nI_add]; rfl) (by decide) rfl (fun ls' hl' => ?_)
        refine lv_goto (tgt := 18) C.1 C.2.1 dL_law_1609 (by decide) ?_
        exact ih (j + 6) (by omega) σ' H' locs' h' ls' (cells + 40) (slots + 11900) (by omega) S' hI' (by rw [e0, e82]; exact lv_sub hl' [1, 2, 3, 0] rfl) (by omega) (by omega)
      refine lv_aload_n C.1 C.2.1 dL_law_27 rfl (lv_at hl 0 rfl) ?_
      refine lv_iload_n C.1 C.2.1 dL_law_28 rfl (lv_at hl 3 rfl) ?_
      refine lw_sld C S (vp_in_nI (show j < L by omega) (by omega)) dL_law_29 ?_
      refine lv_bipush (v := 63) C.1 C.2.1 dL_law_30 (by decide) ?_
      refine lv_iand C.1 C.2.1 dL_law_32 ?_
      generalize xs (nI j).toNatClampNeg &&& 63 = z
      by_cases z0 : z = 0
      · exact lv_tableIn (off := 191) (tgt := 224) C.1 C.2.1 dL_law_33 (by rw [z0]; decide) (by rw [z0]; decide) (by rw [z0]; rfl) (by decide) (lw_case_0 C (hSh (n + 1)) ((hall n).1) S hI hl hj6 hL (by omega) (by omega) go)
      by_cases z1 : z = 1
      · exact lv_tableIn (off := 224) (tgt := 257) C.1 C.2.1 dL_law_33 (by rw [z1]; decide) (by rw [z1]; decide) (by rw [z1]; rfl) (by decide) (lw_case_1 C (hSh (n + 1)) ((hall n).2.1) S hI hl hj6 hL (by omega) (by omega) go)
      by_cases z2 : z = 2
      · exact lv_tableIn (off := 257) (tgt := 290) C.1 C.2.1 dL_law_33 (by rw [z2]; decide) (by rw [z2]; decide) (by rw [z2]; rfl) (by decide) (lw_case_2 C (hSh (n + 1)) ((hall n).2.2.1) S hI hl hj6 hL (by omega) (by omega) go)
      by_cases z3 : z = 3
      · exact lv_tableIn (off := 290) (tgt := 323) C.1 C.2.1 dL_law_33 (by rw [z3]; decide) (by rw [z3]; decide) (by rw [z3]; rfl) (by decide) (lw_case_3 C (hSh (n + 1)) ((hall n).2.2.2.1) S hI hl hj6 hL (by omega) (by omega) go)
      by_cases z4 : z = 4
      · exact lv_tableIn (off := 333) (tgt := 366) C.1 C.2.1 dL_law_33 (by rw [z4]; decide) (by rw [z4]; decide) (by rw [z4]; rfl) (by decide) (lw_case_4 C (hSh (n + 1)) ((hall n).2.2.2.2.1) S hI hl hj6 hL (by omega) (by omega) go)
      by_cases z5 : z = 5
      · exact lv_tableIn (off := 376) (tgt := 409) C.1 C.2.1 dL_law_33 (by rw [z5]; decide) (by rw [z5]; decide) (by rw [z5]; rfl) (by decide) (lw_case_5 C (hSh (n + 1)) ((hall n).2.2.2.2.2.1) S hI hl hj6 hL (by omega) (by omega) go)
      by_cases z6 : z = 6
      · exact lv_tableIn (off := 419) (tgt := 452) C.1 C.2.1 dL_law_33 (by rw [z6]; decide) (by rw [z6]; decide) (by rw [z6]; rfl) (by decide) (lw_case_6 C (hSh (n + 1)) ((hall n).2.2.2.2.2.2.1) S hI hl hj6 hL (by omega) (by omega) go)
      by_cases z7 : z = 7
      · exact lv_tableIn (off := 452) (tgt := 485) C.1 C.2.1 dL_law_33 (by rw [z7]; decide) (by rw [z7]; decide) (by rw [z7]; rfl) (by decide) (lw_case_7 C (hSh (n + 1)) ((hall n).2.2.2.2.2.2.2.1) S hI hl hj6 hL (by omega) (by omega) go)
      by_cases z8 : z = 8
      · exact lv_tableIn (off := 495) (tgt := 528) C.1 C.2.1 dL_law_33 (by rw [z8]; decide) (by rw [z8]; decide) (by rw [z8]; rfl) (by decide) (lw_case_8 C (hSh (n + 1)) ((hall n).2.2.2.2.2.2.2.2.1) S hI hl hj6 hL (by omega) (by omega) go)
      by_cases z9 : z = 9
      · exact lv_tableIn (off := 508) (tgt := 541) C.1 C.2.1 dL_law_33 (by rw [z9]; decide) (by rw [z9]; decide) (by rw [z9]; rfl) (by decide) (lw_case_9 C (hSh (n + 1)) ((hall n).2.2.2.2.2.2.2.2.2.1) S hI hl hj6 hL (by omega) (by omega) go)
      by_cases z10 : z = 10
      · exact lv_tableIn (off := 551) (tgt := 584) C.1 C.2.1 dL_law_33 (by rw [z10]; decide) (by rw [z10]; decide) (by rw [z10]; rfl) (by decide) (lw_case_10 C (hSh (n + 1)) ((hall n).2.2.2.2.2.2.2.2.2.2.1) S hI hl hj6 hL (by omega) (by omega) go)
      by_cases z11 : z = 11
      · exact lv_tableIn (off := 584) (tgt := 617) C.1 C.2.1 dL_law_33 (by rw [z11]; decide) (by rw [z11]; decide) (by rw [z11]; rfl) (by decide) (lw_case_11 C (hSh (n + 1)) ((hall n).2.2.2.2.2.2.2.2.2.2.2.1) S hI hl hj6 hL (by omega) (by omega) go)
      by_cases z12 : z = 12
      · exact lv_tableIn (off := 597) (tgt := 630) C.1 C.2.1 dL_law_33 (by rw [z12]; decide) (by rw [z12]; decide) (by rw [z12]; rfl) (by decide) (lw_case_12 C (hSh (n + 1)) ((hall n).2.2.2.2.2.2.2.2.2.2.2.2.1) S hI hl hj6 hL (by omega) (by omega) go)
      by_cases z13 : z = 13
      · exact lv_tableIn (off := 640) (tgt := 673) C.1 C.2.1 dL_law_33 (by rw [z13]; decide) (by rw [z13]; decide) (by rw [z13]; rfl) (by decide) (lw_case_13 C (hSh (n + 1)) ((hall n).2.2.2.2.2.2.2.2.2.2.2.2.2.1) S hI hl hj6 hL (by omega) (by omega) go)
      by_cases z14 : z = 14
      · exact lv_tableIn (off := 673) (tgt := 706) C.1 C.2.1 dL_law_33 (by rw [z14]; decide) (by rw [z14]; decide) (by rw [z14]; rfl) (by decide) (lw_case_14 C (hSh (n + 1)) ((hall n).2.2.2.2.2.2.2.2.2.2.2.2.2.2.1) S hI hl hj6 hL (by omega) (by omega) go)
      by_cases z15 : z = 15
      · exact lv_tableIn (off := 736) (tgt := 769) C.1 C.2.1 dL_law_33 (by rw [z15]; decide) (by rw [z15]; decide) (by rw [z15]; rfl) (by decide) (lw_case_15 C (hSh (n + 1)) ((hall n).2.2.2.2.2.2.2.2.2.2.2.2.2.2.2.1) S hI hl hj6 hL (by omega) (by omega) go)
      by_cases z16 : z = 16
      · exact lv_tableIn (off := 759) (tgt := 792) C.1 C.2.1 dL_law_33 (by rw [z16]; decide) (by rw [z16]; decide) (by rw [z16]; rfl) (by decide) (lw_case_16 C (hSh (n + 1)) ((hall n).2.2.2.2.2.2.2.2.2.2.2.2.2.2.2.2.1) S hI hl hj6 hL (by omega) (by omega) go)
      by_cases z17 : z = 17
      · exact lv_tableIn (off := 772) (tgt := 805) C.1 C.2.1 dL_law_33 (by rw [z17]; decide) (by rw [z17]; decide) (by rw [z17]; rfl) (by decide) (lw_case_17 C (hSh (n + 1)) ((hall n).2.2.2.2.2.2.2.2.2.2.2.2.2.2.2.2.2.1) S hI hl hj6 hL (by omega) (by omega) go)
      by_cases z18 : z = 18
      · exact lv_tableIn (off := 785) (tgt := 818) C.1 C.2.1 dL_law_33 (by rw [z18]; decide) (by rw [z18]; decide) (by rw [z18]; rfl) (by decide) (lw_case_18 C (hSh (n + 1)) ((hall n).2.2.2.2.2.2.2.2.2.2.2.2.2.2.2.2.2.2.1) S hI hl hj6 hL (by omega) (by omega) go)
      by_cases z19 : z = 19
      · exact lv_tableIn (off := 798) (tgt := 831) C.1 C.2.1 dL_law_33 (by rw [z19]; decide) (by rw [z19]; decide) (by rw [z19]; rfl) (by decide) (lw_case_19 C (hSh (n + 1)) ((hall n).2.2.2.2.2.2.2.2.2.2.2.2.2.2.2.2.2.2.2.1) S hI hl hj6 hL (by omega) (by omega) go)
      by_cases z20 : z = 20
      · exact lv_tableIn (off := 811) (tgt := 844) C.1 C.2.1 dL_law_33 (by rw [z20]; decide) (by rw [z20]; decide) (by rw [z20]; rfl) (by decide) (lw_case_20 C (hSh (n + 1)) ((hall n).2.2.2.2.2.2.2.2.2.2.2.2.2.2.2.2.2.2.2.2.1) S hI hl hj6 hL (by omega) (by omega) go)
      by_cases z21 : z = 21
      · exact lv_tableIn (off := 824) (tgt := 857) C.1 C.2.1 dL_law_33 (by rw [z21]; decide) (by rw [z21]; decide) (by rw [z21]; rfl) (by decide) (lw_case_21 C (hSh (n + 1)) ((hall n).2.2.2.2.2.2.2.2.2.2.2.2.2.2.2.2.2.2.2.2.2.1) S hI hl hj6 hL (by omega) (by omega) go)
      by_cases z22 : z = 22
      · exact lv_tableIn (off := 837) (tgt := 870) C.1 C.2.1 dL_law_33 (by rw [z22]; decide) (by rw [z22]; decide) (by rw [z22]; rfl) (by decide) (lw_case_22 C (hSh (n + 1)) ((hall n).2.2.2.2.2.2.2.2.2.2.2.2.2.2.2.2.2.2.2.2.2.2.1) S hI hl hj6 hL (by omega) (by omega) go)
      by_cases z23 : z = 23
      · exact lv_tableIn (off := 860) (tgt := 893) C.1 C.2.1 dL_law_33 (by rw [z23]; decide) (by rw [z23]; decide) (by rw [z23]; rfl) (by decide) (lw_case_23 C (hSh (n + 1)) ((hall n).2.2.2.2.2.2.2.2.2.2.2.2.2.2.2.2.2.2.2.2.2.2.2.1) S hI hl hj6 hL (by omega) (by omega) go)
      by_cases z24 : z = 24
      · exact lv_tableIn (off := 913) (tgt := 946) C.1 C.2.1 dL_law_33 (by rw [z24]; decide) (by rw [z24]; decide) (by rw [z24]; rfl) (by decide) (lw_case_24 C (hSh (n + 1)) ((hall n).2.2.2.2.2.2.2.2.2.2.2.2.2.2.2.2.2.2.2.2.2.2.2.2.1) S hI hl hj6 hL (by omega) (by omega) go)
      by_cases z25 : z = 25
      · exact lv_tableIn (off := 956) (tgt := 989) C.1 C.2.1 dL_law_33 (by rw [z25]; decide) (by rw [z25]; decide) (by rw [z25]; rfl) (by decide) (lw_case_25 C (hSh (n + 1)) ((hall n).2.2.2.2.2.2.2.2.2.2.2.2.2.2.2.2.2.2.2.2.2.2.2.2.2.1) S hI hl hj6 hL (by omega) (by omega) go)
      by_cases z26 : z = 26
      · exact lv_tableIn (off := 979) (tgt := 1012) C.1 C.2.1 dL_law_33 (by rw [z26]; decide) (by rw [z26]; decide) (by rw [z26]; rfl) (by decide) (lw_case_26 C (hSh (n + 1)) ((hall n).2.2.2.2.2.2.2.2.2.2.2.2.2.2.2.2.2.2.2.2.2.2.2.2.2.2.1) S hI hl hj6 hL (by omega) (by omega) go)
      by_cases z27 : z = 27
      · exact lv_tableIn (off := 1012) (tgt := 1045) C.1 C.2.1 dL_law_33 (by rw [z27]; decide) (by rw [z27]; decide) (by rw [z27]; rfl) (by decide) (lw_case_27 C (hSh (n + 1)) ((hall n).2.2.2.2.2.2.2.2.2.2.2.2.2.2.2.2.2.2.2.2.2.2.2.2.2.2.2.1) S hI hl hj6 hL (by omega) (by omega) go)
      by_cases z28 : z = 28
      · exact lv_tableIn (off := 1035) (tgt := 1068) C.1 C.2.1 dL_law_33 (by rw [z28]; decide) (by rw [z28]; decide) (by rw [z28]; rfl) (by decide) (lw_case_28 C (hSh (n + 1)) ((hall n).2.2.2.2.2.2.2.2.2.2.2.2.2.2.2.2.2.2.2.2.2.2.2.2.2.2.2.2.1) S hI hl hj6 hL (by omega) (by omega) go)
      by_cases z29 : z = 29
      · exact lv_tableIn (off := 1068) (tgt := 1101) C.1 C.2.1 dL_law_33 (by rw [z29]; decide) (by rw [z29]; decide) (by rw [z29]; rfl) (by decide) (lw_case_29 C (hSh (n + 1)) ((hall n).2.2.2.2.2.2.2.2.2.2.2.2.2.2.2.2.2.2.2.2.2.2.2.2.2.2.2.2.2.1) S hI hl hj6 hL (by omega) (by omega) go)
      by_cases z30 : z = 30
      · exact lv_tableIn (off := 1131) (tgt := 1164) C.1 C.2.1 dL_law_33 (by rw [z30]; decide) (by rw [z30]; decide) (by rw [z30]; rfl) (by decide) (lw_case_30 C (hSh (n + 1)) ((hall n).2.2.2.2.2.2.2.2.2.2.2.2.2.2.2.2.2.2.2.2.2.2.2.2.2.2.2.2.2.2.1) S hI hl hj6 hL (by omega) (by omega) go)
      by_cases z31 : z = 31
      · exact lv_tableIn (off := 1194) (tgt := 1227) C.1 C.2.1 dL_law_33 (by rw [z31]; decide) (by rw [z31]; decide) (by rw [z31]; rfl) (by decide) (lw_case_31 C (hSh (n + 1)) ((hall n).2.2.2.2.2.2.2.2.2.2.2.2.2.2.2.2.2.2.2.2.2.2.2.2.2.2.2.2.2.2.2.1) S hI hl hj6 hL (by omega) (by omega) go)
      by_cases z32 : z = 32
      · exact lv_tableIn (off := 1257) (tgt := 1290) C.1 C.2.1 dL_law_33 (by rw [z32]; decide) (by rw [z32]; decide) (by rw [z32]; rfl) (by decide) (lw_case_32 C (hSh (n + 1)) ((hall n).2.2.2.2.2.2.2.2.2.2.2.2.2.2.2.2.2.2.2.2.2.2.2.2.2.2.2.2.2.2.2.2.1) S hI hl hj6 hL (by omega) (by omega) go)
      by_cases z33 : z = 33
      · exact lv_tableIn (off := 1280) (tgt := 1313) C.1 C.2.1 dL_law_33 (by rw [z33]; decide) (by rw [z33]; decide) (by rw [z33]; rfl) (by decide) (lw_case_33 C (hSh (n + 1)) ((hall n).2.2.2.2.2.2.2.2.2.2.2.2.2.2.2.2.2.2.2.2.2.2.2.2.2.2.2.2.2.2.2.2.2.1) S hI hl hj6 hL (by omega) (by omega) go)
      by_cases z34 : z = 34
      · exact lv_tableIn (off := 1313) (tgt := 1346) C.1 C.2.1 dL_law_33 (by rw [z34]; decide) (by rw [z34]; decide) (by rw [z34]; rfl) (by decide) (lw_case_34 C (hSh (n + 1)) ((hall n).2.2.2.2.2.2.2.2.2.2.2.2.2.2.2.2.2.2.2.2.2.2.2.2.2.2.2.2.2.2.2.2.2.2.1) S hI hl hj6 hL (by omega) (by omega) go)
      by_cases z35 : z = 35
      · exact lv_tableIn (off := 1356) (tgt := 1389) C.1 C.2.1 dL_law_33 (by rw [z35]; decide) (by rw [z35]; decide) (by rw [z35]; rfl) (by decide) (lw_case_35 C (hSh (n + 1)) ((hall n).2.2.2.2.2.2.2.2.2.2.2.2.2.2.2.2.2.2.2.2.2.2.2.2.2.2.2.2.2.2.2.2.2.2.2.1) S hI hl hj6 hL (by omega) (by omega) go)
      by_cases z36 : z = 36
      · exact lv_tableIn (off := 1369) (tgt := 1402) C.1 C.2.1 dL_law_33 (by rw [z36]; decide) (by rw [z36]; decide) (by rw [z36]; rfl) (by decide) (lw_case_36 C (hSh (n + 1)) ((hall n).2.2.2.2.2.2.2.2.2.2.2.2.2.2.2.2.2.2.2.2.2.2.2.2.2.2.2.2.2.2.2.2.2.2.2.2.1) S hI hl hj6 hL (by omega) (by omega) go)
      by_cases z37 : z = 37
      · exact lv_tableIn (off := 1392) (tgt := 1425) C.1 C.2.1 dL_law_33 (by rw [z37]; decide) (by rw [z37]; decide) (by rw [z37]; rfl) (by decide) (lw_case_37 C (hSh (n + 1)) ((hall n).2.2.2.2.2.2.2.2.2.2.2.2.2.2.2.2.2.2.2.2.2.2.2.2.2.2.2.2.2.2.2.2.2.2.2.2.2.1) S hI hl hj6 hL (by omega) (by omega) go)
      by_cases z38 : z = 38
      · exact lv_tableIn (off := 1415) (tgt := 1448) C.1 C.2.1 dL_law_33 (by rw [z38]; decide) (by rw [z38]; decide) (by rw [z38]; rfl) (by decide) (lw_case_38 C (hSh (n + 1)) ((hall n).2.2.2.2.2.2.2.2.2.2.2.2.2.2.2.2.2.2.2.2.2.2.2.2.2.2.2.2.2.2.2.2.2.2.2.2.2.2.1) S hI hl hj6 hL (by omega) (by omega) go)
      by_cases z39 : z = 39
      · exact lv_tableIn (off := 1468) (tgt := 1501) C.1 C.2.1 dL_law_33 (by rw [z39]; decide) (by rw [z39]; decide) (by rw [z39]; rfl) (by decide) (lw_case_39 C (hSh (n + 1)) ((hall n).2.2.2.2.2.2.2.2.2.2.2.2.2.2.2.2.2.2.2.2.2.2.2.2.2.2.2.2.2.2.2.2.2.2.2.2.2.2.2.1) S hI hl hj6 hL (by omega) (by omega) go)
      by_cases z40 : z = 40
      · exact lv_tableIn (off := 1491) (tgt := 1524) C.1 C.2.1 dL_law_33 (by rw [z40]; decide) (by rw [z40]; decide) (by rw [z40]; rfl) (by decide) (lw_case_40 C (hSh (n + 1)) ((hall n).2.2.2.2.2.2.2.2.2.2.2.2.2.2.2.2.2.2.2.2.2.2.2.2.2.2.2.2.2.2.2.2.2.2.2.2.2.2.2.2.1) S hI hl hj6 hL (by omega) (by omega) go)
      by_cases z41 : z = 41
      · exact lv_tableIn (off := 1514) (tgt := 1547) C.1 C.2.1 dL_law_33 (by rw [z41]; decide) (by rw [z41]; decide) (by rw [z41]; rfl) (by decide) (lw_case_41 C (hSh (n + 1)) ((hall n).2.2.2.2.2.2.2.2.2.2.2.2.2.2.2.2.2.2.2.2.2.2.2.2.2.2.2.2.2.2.2.2.2.2.2.2.2.2.2.2.2.1) S hI hl hj6 hL (by omega) (by omega) go)
      by_cases z42 : z = 42
      · exact lv_tableIn (off := 1537) (tgt := 1570) C.1 C.2.1 dL_law_33 (by rw [z42]; decide) (by rw [z42]; decide) (by rw [z42]; rfl) (by decide) (lw_case_42 C (hSh (n + 1)) ((hall n).2.2.2.2.2.2.2.2.2.2.2.2.2.2.2.2.2.2.2.2.2.2.2.2.2.2.2.2.2.2.2.2.2.2.2.2.2.2.2.2.2.2.1) S hI hl hj6 hL (by omega) (by omega) go)
      by_cases z43 : z = 43
      · exact lv_tableIn (off := 1560) (tgt := 1593) C.1 C.2.1 dL_law_33 (by rw [z43]; decide) (by rw [z43]; decide) (by rw [z43]; rfl) (by decide) (lw_case_43 C (hSh (n + 1)) ((hall n).2.2.2.2.2.2.2.2.2.2.2.2.2.2.2.2.2.2.2.2.2.2.2.2.2.2.2.2.2.2.2.2.2.2.2.2.2.2.2.2.2.2.2) S hI hl hj6 hL (by omega) (by omega) go)
      refine lv_tableOut (tgt := 1606) C.1 C.2.1 dL_law_33 (by
        have y0 := lv_neT (a := 0) z0 (by decide)
        have y1 := lv_neT (a := 1) z1 (by decide)
        have y2 := lv_neT (a := 2) z2 (by decide)
        have y3 := lv_neT (a := 3) z3 (by decide)
        have y4 := lv_neT (a := 4) z4 (by decide)
        have y5 := lv_neT (a := 5) z5 (by decide)
        have y6 := lv_neT (a := 6) z6 (by decide)
        have y7 := lv_neT (a := 7) z7 (by decide)
        have y8 := lv_neT (a := 8) z8 (by decide)
        have y9 := lv_neT (a := 9) z9 (by decide)
        have y10 := lv_neT (a := 10) z10 (by decide)
        have y11 := lv_neT (a := 11) z11 (by decide)
        have y12 := lv_neT (a := 12) z12 (by decide)
        have y13 := lv_neT (a := 13) z13 (by decide)
        have y14 := lv_neT (a := 14) z14 (by decide)
        have y15 := lv_neT (a := 15) z15 (by decide)
        have y16 := lv_neT (a := 16) z16 (by decide)
        have y17 := lv_neT (a := 17) z17 (by decide)
        have y18 := lv_neT (a := 18) z18 (by decide)
        have y19 := lv_neT (a := 19) z19 (by decide)
        have y20 := lv_neT (a := 20) z20 (by decide)
        have y21 := lv_neT (a := 21) z21 (by decide)
        have y22 := lv_neT (a := 22) z22 (by decide)
        have y23 := lv_neT (a := 23) z23 (by decide)
        have y24 := lv_neT (a := 24) z24 (by decide)
        have y25 := lv_neT (a := 25) z25 (by decide)
        have y26 := lv_neT (a := 26) z26 (by decide)
        have y27 := lv_neT (a := 27) z27 (by decide)
        have y28 := lv_neT (a := 28) z28 (by decide)
        have y29 := lv_neT (a := 29) z29 (by decide)
        have y30 := lv_neT (a := 30) z30 (by decide)
        have y31 := lv_neT (a := 31) z31 (by decide)
        have y32 := lv_neT (a := 32) z32 (by decide)
        have y33 := lv_neT (a := 33) z33 (by decide)
        have y34 := lv_neT (a := 34) z34 (by decide)
        have y35 := lv_neT (a := 35) z35 (by decide)
        have y36 := lv_neT (a := 36) z36 (by decide)
        have y37 := lv_neT (a := 37) z37 (by decide)
        have y38 := lv_neT (a := 38) z38 (by decide)
        have y39 := lv_neT (a := 39) z39 (by decide)
        have y40 := lv_neT (a := 40) z40 (by decide)
        have y41 := lv_neT (a := 41) z41 (by decide)
        have y42 := lv_neT (a := 42) z42 (by decide)
        have y43 := lv_neT (a := 43) z43 (by decide)
        omega) (by decide) ?_
      exact W.widen (k := cells + 40) (n := slots + 11900) (by omega) (by omega) (go h σ H locs (hmo _ _ hI) S rfl rfl)
