/-! ===== the class's word: the text of words is read sign by sign ===== -/
theorem dX5_wordIn_0 : decode cX5_wordIn 0 = .ok (.iconst 0, 1) := by decide +kernel
theorem dX5_wordIn_1 : decode cX5_wordIn 1 = .ok (.istore_n 3, 1) := by decide +kernel
theorem dX5_wordIn_2 : decode cX5_wordIn 2 = .ok (.iconst 0, 1) := by decide +kernel
theorem dX5_wordIn_3 : decode cX5_wordIn 3 = .ok (.istore 4, 2) := by decide +kernel
theorem dX5_wordIn_5 : decode cX5_wordIn 5 = .ok (.iconst 0, 1) := by decide +kernel
theorem dX5_wordIn_6 : decode cX5_wordIn 6 = .ok (.istore 5, 2) := by decide +kernel
theorem dX5_wordIn_8 : decode cX5_wordIn 8 = .ok (.iload 5, 2) := by decide +kernel
theorem dX5_wordIn_10 : decode cX5_wordIn 10 = .ok (.ldc 96, 2) := by decide +kernel
theorem dX5_wordIn_12 : decode cX5_wordIn 12 = .ok (.invokevirtual 98, 3) := by decide +kernel
theorem dX5_wordIn_15 : decode cX5_wordIn 15 = .ok (.if_icmp .gt 85, 3) := by decide +kernel
theorem dX5_wordIn_18 : decode cX5_wordIn 18 = .ok (.iload 5, 2) := by decide +kernel
theorem dX5_wordIn_20 : decode cX5_wordIn 20 = .ok (.ldc 96, 2) := by decide +kernel
theorem dX5_wordIn_22 : decode cX5_wordIn 22 = .ok (.invokevirtual 98, 3) := by decide +kernel
theorem dX5_wordIn_25 : decode cX5_wordIn 25 = .ok (.if_icmp .eq 15, 3) := by decide +kernel
theorem dX5_wordIn_28 : decode cX5_wordIn 28 = .ok (.ldc 96, 2) := by decide +kernel
theorem dX5_wordIn_30 : decode cX5_wordIn 30 = .ok (.iload 5, 2) := by decide +kernel
theorem dX5_wordIn_32 : decode cX5_wordIn 32 = .ok (.invokevirtual 104, 3) := by decide +kernel
theorem dX5_wordIn_35 : decode cX5_wordIn 35 = .ok (.bipush 32, 2) := by decide +kernel
theorem dX5_wordIn_37 : decode cX5_wordIn 37 = .ok (.if_icmp .ne 22, 3) := by decide +kernel
theorem dX5_wordIn_40 : decode cX5_wordIn 40 = .ok (.iload 4, 2) := by decide +kernel
theorem dX5_wordIn_42 : decode cX5_wordIn 42 = .ok (.iload_n 2, 1) := by decide +kernel
theorem dX5_wordIn_43 : decode cX5_wordIn 43 = .ok (.iload_n 1, 1) := by decide +kernel
theorem dX5_wordIn_44 : decode cX5_wordIn 44 = .ok (.isub, 1) := by decide +kernel
theorem dX5_wordIn_45 : decode cX5_wordIn 45 = .ok (.if_icmp .ne 5, 3) := by decide +kernel
theorem dX5_wordIn_48 : decode cX5_wordIn 48 = .ok (.iload_n 3, 1) := by decide +kernel
theorem dX5_wordIn_49 : decode cX5_wordIn 49 = .ok (.ireturn, 1) := by decide +kernel
theorem dX5_wordIn_50 : decode cX5_wordIn 50 = .ok (.iinc 3 1, 3) := by decide +kernel
theorem dX5_wordIn_53 : decode cX5_wordIn 53 = .ok (.iconst 0, 1) := by decide +kernel
theorem dX5_wordIn_54 : decode cX5_wordIn 54 = .ok (.istore 4, 2) := by decide +kernel
theorem dX5_wordIn_56 : decode cX5_wordIn 56 = .ok (.goto 38, 3) := by decide +kernel
theorem dX5_wordIn_59 : decode cX5_wordIn 59 = .ok (.iload 4, 2) := by decide +kernel
theorem dX5_wordIn_61 : decode cX5_wordIn 61 = .ok (.iload_n 2, 1) := by decide +kernel
theorem dX5_wordIn_62 : decode cX5_wordIn 62 = .ok (.iload_n 1, 1) := by decide +kernel
theorem dX5_wordIn_63 : decode cX5_wordIn 63 = .ok (.isub, 1) := by decide +kernel
theorem dX5_wordIn_64 : decode cX5_wordIn 64 = .ok (.if_icmp .ge 25, 3) := by decide +kernel
theorem dX5_wordIn_67 : decode cX5_wordIn 67 = .ok (.ldc 96, 2) := by decide +kernel
theorem dX5_wordIn_69 : decode cX5_wordIn 69 = .ok (.iload 5, 2) := by decide +kernel
theorem dX5_wordIn_71 : decode cX5_wordIn 71 = .ok (.invokevirtual 104, 3) := by decide +kernel
theorem dX5_wordIn_74 : decode cX5_wordIn 74 = .ok (.aload_n 0, 1) := by decide +kernel
theorem dX5_wordIn_75 : decode cX5_wordIn 75 = .ok (.iload_n 1, 1) := by decide +kernel
theorem dX5_wordIn_76 : decode cX5_wordIn 76 = .ok (.iload 4, 2) := by decide +kernel
theorem dX5_wordIn_78 : decode cX5_wordIn 78 = .ok (.iadd, 1) := by decide +kernel
theorem dX5_wordIn_79 : decode cX5_wordIn 79 = .ok (.iaload, 1) := by decide +kernel
theorem dX5_wordIn_80 : decode cX5_wordIn 80 = .ok (.if_icmp .ne 9, 3) := by decide +kernel
theorem dX5_wordIn_83 : decode cX5_wordIn 83 = .ok (.iinc 4 1, 3) := by decide +kernel
theorem dX5_wordIn_86 : decode cX5_wordIn 86 = .ok (.goto 8, 3) := by decide +kernel
theorem dX5_wordIn_89 : decode cX5_wordIn 89 = .ok (.sipush 401, 3) := by decide +kernel
theorem dX5_wordIn_92 : decode cX5_wordIn 92 = .ok (.istore 4, 2) := by decide +kernel
theorem dX5_wordIn_94 : decode cX5_wordIn 94 = .ok (.iinc 5 1, 3) := by decide +kernel
theorem dX5_wordIn_97 : decode cX5_wordIn 97 = .ok (.goto (-89), 3) := by decide +kernel
theorem dX5_wordIn_100 : decode cX5_wordIn 100 = .ok (.bipush 98, 2) := by decide +kernel
theorem dX5_wordIn_102 : decode cX5_wordIn 102 = .ok (.ireturn, 1) := by decide +kernel
theorem dJ0_length_8abf5_0 : decode cJ0_length_8abf5 0 = .ok (.aload_n 0, 1) := by decide +kernel
theorem dJ0_length_8abf5_1 : decode cJ0_length_8abf5 1 = .ok (.getfield 9, 3) := by decide +kernel
theorem dJ0_length_8abf5_4 : decode cJ0_length_8abf5 4 = .ok (.arraylength, 1) := by decide +kernel
theorem dJ0_length_8abf5_5 : decode cJ0_length_8abf5 5 = .ok (.aload_n 0, 1) := by decide +kernel
theorem dJ0_length_8abf5_6 : decode cJ0_length_8abf5 6 = .ok (.invokevirtual 335, 3) := by decide +kernel
theorem dJ0_length_8abf5_9 : decode cJ0_length_8abf5 9 = .ok (.ishr, 1) := by decide +kernel
theorem dJ0_length_8abf5_10 : decode cJ0_length_8abf5 10 = .ok (.ireturn, 1) := by decide +kernel
theorem dJ0_charAt_5068e_0 : decode cJ0_charAt_5068e 0 = .ok (.aload_n 0, 1) := by decide +kernel
theorem dJ0_charAt_5068e_1 : decode cJ0_charAt_5068e 1 = .ok (.invokevirtual 492, 3) := by decide +kernel
theorem dJ0_charAt_5068e_4 : decode cJ0_charAt_5068e 4 = .ok (.ifCond .eq 12, 3) := by decide +kernel
theorem dJ0_charAt_5068e_7 : decode cJ0_charAt_5068e 7 = .ok (.aload_n 0, 1) := by decide +kernel
theorem dJ0_charAt_5068e_8 : decode cJ0_charAt_5068e 8 = .ok (.getfield 9, 3) := by decide +kernel
theorem dJ0_charAt_5068e_11 : decode cJ0_charAt_5068e 11 = .ok (.iload_n 1, 1) := by decide +kernel
theorem dJ0_charAt_5068e_12 : decode cJ0_charAt_5068e 12 = .ok (.invokestatic 495, 3) := by decide +kernel
theorem dJ0_charAt_5068e_15 : decode cJ0_charAt_5068e 15 = .ok (.ireturn, 1) := by decide +kernel
theorem dJ0_charAt_5068e_16 : decode cJ0_charAt_5068e 16 = .ok (.aload_n 0, 1) := by decide +kernel
theorem dJ0_charAt_5068e_17 : decode cJ0_charAt_5068e 17 = .ok (.getfield 9, 3) := by decide +kernel
theorem dJ0_charAt_5068e_20 : decode cJ0_charAt_5068e 20 = .ok (.iload_n 1, 1) := by decide +kernel
theorem dJ0_charAt_5068e_21 : decode cJ0_charAt_5068e 21 = .ok (.invokestatic 498, 3) := by decide +kernel
theorem dJ0_charAt_5068e_24 : decode cJ0_charAt_5068e 24 = .ok (.ireturn, 1) := by decide +kernel
theorem dJ0_coder_7d493_0 : decode cJ0_coder_7d493 0 = .ok (.getstatic 38, 3) := by decide +kernel
theorem dJ0_coder_7d493_3 : decode cJ0_coder_7d493 3 = .ok (.ifCond .eq 10, 3) := by decide +kernel
theorem dJ0_coder_7d493_6 : decode cJ0_coder_7d493 6 = .ok (.aload_n 0, 1) := by decide +kernel
theorem dJ0_coder_7d493_7 : decode cJ0_coder_7d493 7 = .ok (.getfield 15, 3) := by decide +kernel
theorem dJ0_coder_7d493_10 : decode cJ0_coder_7d493 10 = .ok (.goto 4, 3) := by decide +kernel
theorem dJ0_coder_7d493_13 : decode cJ0_coder_7d493 13 = .ok (.iconst 1, 1) := by decide +kernel
theorem dJ0_coder_7d493_14 : decode cJ0_coder_7d493 14 = .ok (.ireturn, 1) := by decide +kernel
theorem dJ0_isLatin1_aae02_0 : decode cJ0_isLatin1_aae02 0 = .ok (.getstatic 38, 3) := by decide +kernel
theorem dJ0_isLatin1_aae02_3 : decode cJ0_isLatin1_aae02 3 = .ok (.ifCond .eq 14, 3) := by decide +kernel
theorem dJ0_isLatin1_aae02_6 : decode cJ0_isLatin1_aae02 6 = .ok (.aload_n 0, 1) := by decide +kernel
theorem dJ0_isLatin1_aae02_7 : decode cJ0_isLatin1_aae02 7 = .ok (.getfield 15, 3) := by decide +kernel
theorem dJ0_isLatin1_aae02_10 : decode cJ0_isLatin1_aae02 10 = .ok (.ifCond .ne 7, 3) := by decide +kernel
theorem dJ0_isLatin1_aae02_13 : decode cJ0_isLatin1_aae02 13 = .ok (.iconst 1, 1) := by decide +kernel
theorem dJ0_isLatin1_aae02_14 : decode cJ0_isLatin1_aae02 14 = .ok (.goto 4, 3) := by decide +kernel
theorem dJ0_isLatin1_aae02_17 : decode cJ0_isLatin1_aae02 17 = .ok (.iconst 0, 1) := by decide +kernel
theorem dJ0_isLatin1_aae02_18 : decode cJ0_isLatin1_aae02 18 = .ok (.ireturn, 1) := by decide +kernel
theorem dJ0_checkIndex_df160_0 : decode cJ0_checkIndex_df160 0 = .ok (.iload_n 0, 1) := by decide +kernel
theorem dJ0_checkIndex_df160_1 : decode cJ0_checkIndex_df160 1 = .ok (.iload_n 1, 1) := by decide +kernel
theorem dJ0_checkIndex_df160_2 : decode cJ0_checkIndex_df160 2 = .ok (.getstatic 1053, 3) := by decide +kernel
theorem dJ0_checkIndex_df160_5 : decode cJ0_checkIndex_df160 5 = .ok (.invokestatic 1059, 3) := by decide +kernel
theorem dJ0_checkIndex_df160_8 : decode cJ0_checkIndex_df160 8 = .ok (.pop, 1) := by decide +kernel
theorem dJ0_checkIndex_df160_9 : decode cJ0_checkIndex_df160 9 = .ok (.return_, 1) := by decide +kernel
theorem dJ1_charAt_3b067_0 : decode cJ1_charAt_3b067 0 = .ok (.iload_n 1, 1) := by decide +kernel
theorem dJ1_charAt_3b067_1 : decode cJ1_charAt_3b067 1 = .ok (.aload_n 0, 1) := by decide +kernel
theorem dJ1_charAt_3b067_2 : decode cJ1_charAt_3b067 2 = .ok (.arraylength, 1) := by decide +kernel
theorem dJ1_charAt_3b067_3 : decode cJ1_charAt_3b067 3 = .ok (.invokestatic 9, 3) := by decide +kernel
theorem dJ1_charAt_3b067_6 : decode cJ1_charAt_3b067 6 = .ok (.aload_n 0, 1) := by decide +kernel
theorem dJ1_charAt_3b067_7 : decode cJ1_charAt_3b067 7 = .ok (.iload_n 1, 1) := by decide +kernel
theorem dJ1_charAt_3b067_8 : decode cJ1_charAt_3b067 8 = .ok (.baload, 1) := by decide +kernel
theorem dJ1_charAt_3b067_9 : decode cJ1_charAt_3b067 9 = .ok (.sipush 255, 3) := by decide +kernel
theorem dJ1_charAt_3b067_12 : decode cJ1_charAt_3b067 12 = .ok (.iand, 1) := by decide +kernel
theorem dJ1_charAt_3b067_13 : decode cJ1_charAt_3b067 13 = .ok (.i2c, 1) := by decide +kernel
theorem dJ1_charAt_3b067_14 : decode cJ1_charAt_3b067 14 = .ok (.ireturn, 1) := by decide +kernel
theorem dJ3_checkIndex_8e157_0 : decode cJ3_checkIndex_8e157 0 = .ok (.iload_n 0, 1) := by decide +kernel
theorem dJ3_checkIndex_8e157_1 : decode cJ3_checkIndex_8e157 1 = .ok (.ifCond .lt 8, 3) := by decide +kernel
theorem dJ3_checkIndex_8e157_4 : decode cJ3_checkIndex_8e157 4 = .ok (.iload_n 0, 1) := by decide +kernel
theorem dJ3_checkIndex_8e157_5 : decode cJ3_checkIndex_8e157 5 = .ok (.iload_n 1, 1) := by decide +kernel
theorem dJ3_checkIndex_8e157_6 : decode cJ3_checkIndex_8e157 6 = .ok (.if_icmp .lt 10, 3) := by decide +kernel
theorem dJ3_checkIndex_8e157_9 : decode cJ3_checkIndex_8e157 9 = .ok (.aload_n 2, 1) := by decide +kernel
theorem dJ3_checkIndex_8e157_10 : decode cJ3_checkIndex_8e157 10 = .ok (.iload_n 0, 1) := by decide +kernel
theorem dJ3_checkIndex_8e157_11 : decode cJ3_checkIndex_8e157 11 = .ok (.iload_n 1, 1) := by decide +kernel
theorem dJ3_checkIndex_8e157_12 : decode cJ3_checkIndex_8e157 12 = .ok (.invokestatic 95, 3) := by decide +kernel
theorem dJ3_checkIndex_8e157_15 : decode cJ3_checkIndex_8e157 15 = .ok (.athrow, 1) := by decide +kernel
theorem dJ3_checkIndex_8e157_16 : decode cJ3_checkIndex_8e157 16 = .ok (.iload_n 0, 1) := by decide +kernel
theorem dJ3_checkIndex_8e157_17 : decode cJ3_checkIndex_8e157 17 = .ok (.ireturn, 1) := by decide +kernel
theorem fl_J0_38 : Cond.fieldLink RJ0 38 "java/lang/String" "COMPACT_STRINGS" "Z" ∈ lw_T := tb_4 (List.mem_of_getElem? (i := 118) (by decide +kernel)) rfl
theorem fl_J0_1053 : Cond.fieldLink RJ0 1053 "jdk/internal/util/Preconditions" "SIOOBE_FORMATTER" "Ljava/util/function/BiFunction;" ∈ lw_T := tb_4 (List.mem_of_getElem? (i := 134) (by decide +kernel)) rfl
theorem fl_J0_9 : Cond.fieldLink RJ0 9 "java/lang/String" "value" "[B" ∈ lw_T := tb_10 (List.mem_of_getElem? (i := 25) (by decide +kernel)) rfl
theorem fl_J0_15 : Cond.fieldLink RJ0 15 "java/lang/String" "coder" "B" ∈ lw_T := tb_10 (List.mem_of_getElem? (i := 26) (by decide +kernel)) rfl
/-! what the JDK's methods answer over the text: no cell changes -/
def zNA : Nat → Prop := fun _ => False
abbrev zPc (g : ab_G) (as : List Value) : Array Value → State → Prop := va_Pc as (fun U => ab_Z g zNA U U.heap)
abbrev zQc (r : Option Value) : Array Value → State → Outcome → State → Prop := fun _ st oc t => oc = .returned r ∧ va_F zNA st t
abbrev zMet (l : Launch) (g : ab_G) (M : ab_M) (as : List Value) (r : Option Value) : Prop := Met l M.1 (ab_wm M) (ab_rm M) (zPc g as) (zQc r) 0 0 zNA
theorem zs_back {p : Program} {l : Launch} {e : Env} {R : Room} {s : State} {m : MethodId} {args : Array Value} {below : List Frame} {meth : Method} {c : Code} {H : Heap} {locs : List Loc} {cells slots : Nat} {Q : State → Prop} {pc : Nat} {ls : Array Slot} {gst rest st1 : List Value} {r : Option Value} {A0 : Nat → Prop} {H0 : Heap}
    (hS : va_S A0 H0 H locs) (hr : va_Run p l e R s m args below meth c H locs cells slots 0 0 (F0 m pc ls gst) rest (fun st oc t => oc = .returned r ∧ va_F zNA st t) zNA) (e1 : r.toList ++ rest = st1)
    (kk : ∀ (H1 : Heap) (locs1 : List Loc), H.size ≤ H1.size → (∀ q : Nat, q < H.size → H1[q]? = H[q]?) → va_S A0 H0 H1 locs1 → W p l e R s m args below meth c H1 locs1 cells slots Q (F0 m (pc + 3) ls st1)) : W p l e R s m args below meth c H locs cells slots Q (F0 m pc ls gst) := by
  subst e1
  intro T hT X
  obtain ⟨v, st₀, t, T', L, h0, X', hL, e1, e2, ⟨hv, hz, hk⟩, st⟩ := hr T hT X
  cases hv
  rw [h0] at hz hk
  obtain ⟨t2, a1, b1⟩ := kk T'.heap (locs ++ L) (by rw [e1]; exact hz) (fun q h1 => by rw [e1]; exact hk q h1 (fun z => z))
    ⟨Nat.le_trans hS.1 (by rw [e1]; exact hz), fun q h1 h2 => by rw [e1, hk q (Nat.lt_of_lt_of_le h1 hS.1) (fun z => z)]; exact hS.2.1 q h1 h2, fun q hq => by
      rcases List.mem_append.mp hq with h | h
      · exact hS.2.2 q h
      · exact (hL q h).elim⟩ T' rfl X'
  exact ⟨t2, st t2 a1, b1⟩
theorem zs_pre {g : ab_G} {A : Nat → Prop} {s : State} {H : Heap} {locs : List Loc} (hZ : ab_Z g A s s.heap) (hS : va_S A s.heap H locs) (as : List Value) :
    FrameBlind (zPc g as) ∧ ∀ U : State, U.heap = H → s.WarmedH U.vm → zPc g as as.toArray U :=
  ⟨fun _ _ _ _ q => ⟨q.1, ab_Z.calling q.2⟩, fun _ hU hW => ⟨rfl, ab_Z.to hZ hW hU (fun a ha hna => hS.2.1 a ha hna) (fun _ z => z.elim)⟩⟩
theorem zs_coder (l : Launch) (g : ab_G) : zMet l g mJ0_coder_7d493 [.ref g.2.2.1] (some (.int 0)) := by
  refine Met.ofW (cc := cJ0_coder_7d493) (maxL := 1) (ret := some .byte) rfl rfl ?_
  intro p e s m args below meth c s₁ B hml hv
  obtain ⟨rfl, hZ⟩ := hv
  have hx := B.exec
  have hb := B.bytes
  have hr := B.returns
  have hlocks : meth.locks = false := B.notSynchronized
  have hown := findClass_of_methodNamed B.named
  have hts := atoms_spec (ws := ab_wm mJ0_coder_7d493) B.pre
  have hl := lv_entry ([.ref g.2.2.1]) (n := 1) (Nat.le_of_ble_eq_true rfl)
  rw [lg_entry_eq]
  generalize (lg_sl ([.ref g.2.2.1]) ++ List.replicate (1 - (lg_sl ([.ref g.2.2.1])).length) Slot.unset).toArray = ls at hl ⊢
  have hl : lv_has ls 1 [(0, .ref g.2.2.1)] := hl
  have hS : va_S zNA s.heap s.heap [] := va_S.rf
  obtain ⟨z1, z2, z3, z4, z5⟩ := hZ
  obtain ⟨hO, hC, hV, hT⟩ := z1.1 0 (by decide)
  refine va_gets hx hb z3 hS hown (hts _ (List.mem_cons_of_mem _ fl_J0_38)) (fun x h => h) dJ0_coder_7d493_0 ?_
  refine lv_if_eq hx hb dJ0_coder_7d493_3 (tgt := 13) (by decide) (fun q => absurd q (by decide)) (fun _ => ?_)
  refine lv_aload_n hx hb dJ0_coder_7d493_6 rfl (lv_at hl 0 rfl) ?_
  refine vk_getf hx hb hC hS hown (hts _ (List.mem_cons_of_mem _ fl_J0_15)) (fun x h => h) dJ0_coder_7d493_7 ?_
  refine lv_goto hx hb dJ0_coder_7d493_10 (tgt := 14) (by decide) ?_
  exact W.zret (ty := .byte) (v := 0) hx hb hr rfl (fun t ht hW => ⟨rfl, hS.F ht⟩) hS.2.2 dJ0_coder_7d493_14
theorem zs_isLatin1 (l : Launch) (g : ab_G) : zMet l g mJ0_isLatin1_aae02 [.ref g.2.2.1] (some (.int 1)) := by
  refine Met.ofW (cc := cJ0_isLatin1_aae02) (maxL := 1) (ret := some .boolean) rfl rfl ?_
  intro p e s m args below meth c s₁ B hml hv
  obtain ⟨rfl, hZ⟩ := hv
  have hx := B.exec
  have hb := B.bytes
  have hr := B.returns
  have hlocks : meth.locks = false := B.notSynchronized
  have hown := findClass_of_methodNamed B.named
  have hts := atoms_spec (ws := ab_wm mJ0_isLatin1_aae02) B.pre
  have hl := lv_entry ([.ref g.2.2.1]) (n := 1) (Nat.le_of_ble_eq_true rfl)
  rw [lg_entry_eq]
  generalize (lg_sl ([.ref g.2.2.1]) ++ List.replicate (1 - (lg_sl ([.ref g.2.2.1])).length) Slot.unset).toArray = ls at hl ⊢
  have hl : lv_has ls 1 [(0, .ref g.2.2.1)] := hl
  have hS : va_S zNA s.heap s.heap [] := va_S.rf
  obtain ⟨z1, z2, z3, z4, z5⟩ := hZ
  obtain ⟨hO, hC, hV, hT⟩ := z1.1 0 (by decide)
  refine va_gets hx hb z3 hS hown (hts _ (List.mem_cons_of_mem _ fl_J0_38)) (fun x h => h) dJ0_isLatin1_aae02_0 ?_
  refine lv_if_eq hx hb dJ0_isLatin1_aae02_3 (tgt := 17) (by decide) (fun q => absurd q (by decide)) (fun _ => ?_)
  refine lv_aload_n hx hb dJ0_isLatin1_aae02_6 rfl (lv_at hl 0 rfl) ?_
  refine vk_getf hx hb hC hS hown (hts _ (List.mem_cons_of_mem _ fl_J0_15)) (fun x h => h) dJ0_isLatin1_aae02_7 ?_
  refine lv_if_ne hx hb dJ0_isLatin1_aae02_10 (tgt := 17) (by decide) (fun q => absurd rfl q) (fun _ => ?_)
  refine lv_iconst (v := 1) hx hb dJ0_isLatin1_aae02_13 (by decide) ?_
  refine lv_goto hx hb dJ0_isLatin1_aae02_14 (tgt := 18) (by decide) ?_
  exact W.zret (ty := .boolean) (v := 1) hx hb hr rfl (fun t ht hW => ⟨rfl, hS.F ht⟩) hS.2.2 dJ0_isLatin1_aae02_18
theorem zs_chk3 (l : Launch) (g : ab_G) (x : Value) {j : Nat} (hj : j < 133) (hx3 : x = .null ∨ ∃ t, x = .ref t) : zMet l g mJ3_checkIndex_8e157 [.int (nI j), .int 133, x] (some (.int (nI j))) := by
  refine Met.ofW (cc := cJ3_checkIndex_8e157) (maxL := 3) (ret := some .int) rfl rfl ?_
  intro p e s m args below meth c s₁ B hml hv
  obtain ⟨rfl, hZ⟩ := hv
  have hx := B.exec
  have hb := B.bytes
  have hr := B.returns
  have hlocks : meth.locks = false := B.notSynchronized
  have hl := lv_entry ([.int (nI j), .int 133, x]) (n := 3) (by rcases hx3 with rfl | ⟨t, rfl⟩ <;> exact Nat.le_of_ble_eq_true rfl)
  rw [lg_entry_eq]
  generalize (lg_sl ([.int (nI j), .int 133, x]) ++ List.replicate (3 - (lg_sl ([.int (nI j), .int 133, x])).length) Slot.unset).toArray = ls at hl ⊢
  have hl : lv_has ls 3 [(0, .int (nI j)), (1, .int 133), (2, x)] := by rcases hx3 with rfl | ⟨t, rfl⟩ <;> exact hl
  have hS : va_S zNA s.heap s.heap [] := va_S.rf
  refine lv_iload_n hx hb dJ3_checkIndex_8e157_0 rfl (lv_at hl 0 rfl) ?_
  refine lv_if_lt hx hb dJ3_checkIndex_8e157_1 (tgt := 9) (by decide) (fun q => absurd q (nI_pos (by omega))) (fun _ => ?_)
  refine lv_iload_n hx hb dJ3_checkIndex_8e157_4 rfl (lv_at hl 0 rfl) ?_
  refine lv_iload_n hx hb dJ3_checkIndex_8e157_5 rfl (lv_at hl 1 rfl) ?_
  refine lv_icmp_lt hx hb dJ3_checkIndex_8e157_6 (tgt := 16) (by decide) (fun _ => ?_) (fun q => absurd (show nI j < nI 133 from nI_lt hj (by omega)) q)
  refine lv_iload_n hx hb dJ3_checkIndex_8e157_16 rfl (lv_at hl 0 rfl) ?_
  exact W.iret (v := nI j) hx hb hr (fun t ht hW => ⟨rfl, hS.F ht⟩) hS.2.2 dJ3_checkIndex_8e157_17
theorem zs_chk0 (l : Launch) (g : ab_G) {j : Nat} (hj : j < 133) : zMet l g mJ0_checkIndex_df160 [.int (nI j), .int 133] none := by
  refine Met.ofW (cc := cJ0_checkIndex_df160) (maxL := 2) (ret := none) rfl rfl ?_
  intro p e s m args below meth c s₁ B hml hv
  obtain ⟨rfl, hZ⟩ := hv
  have hx := B.exec
  have hb := B.bytes
  have hr := B.returns
  have hlocks : meth.locks = false := B.notSynchronized
  have hown := findClass_of_methodNamed B.named
  have hts := atoms_spec (ws := ab_wm mJ0_checkIndex_df160) B.pre
  have hl := lv_entry ([.int (nI j), .int 133]) (n := 2) (Nat.le_of_ble_eq_true rfl)
  rw [lg_entry_eq]
  generalize (lg_sl ([.int (nI j), .int 133]) ++ List.replicate (2 - (lg_sl ([.int (nI j), .int 133])).length) Slot.unset).toArray = ls at hl ⊢
  have hl : lv_has ls 2 [(0, .int (nI j)), (1, .int 133)] := hl
  have hS : va_S zNA s.heap s.heap [] := va_S.rf
  have hZ0 := hZ
  obtain ⟨z1, z2, z3, z4, z5⟩ := hZ
  refine lv_iload_n hx hb dJ0_checkIndex_df160_0 rfl (lv_at hl 0 rfl) ?_
  refine lv_iload_n hx hb dJ0_checkIndex_df160_1 rfl (lv_at hl 1 rfl) ?_
  have go : ∀ x : Value, (x = .null ∨ ∃ t, x = .ref t) → W p l e (ab_rm mJ0_checkIndex_df160) s m [.int (nI j), .int 133].toArray below meth c s.heap [] 0 0 (MQ below (zQc none) [.int (nI j), .int 133].toArray s 0 0 zNA) (F0 m 5 ls [x, .int 133, .int (nI j)]) := by
    intro x hx3
    have hp := zs_pre hZ0 hS [.int (nI j), .int 133, x]
    refine zs_back (r := some (.int (nI j))) hS (va_runS (As := [.int (nI j), .int 133, x]) (rest := []) (g := F0 m 5 ls [x, .int 133, .int (nI j)]) ⟨hx, hb, hml, hown, hts⟩ (zs_chk3 l g x hj hx3) ⟨ab_callB (M := mJ0_checkIndex_df160) Y_J3_checkIndex_8e157 hts l_J0_1059 (by decide), hts _ (List.mem_cons_of_mem _ st_J3_checkIndex_8e157)⟩ ⟨hp.1, hp.2⟩ rfl rfl hl.1 rfl (lv_room (Nat.le_of_ble_eq_true rfl)) dJ0_checkIndex_df160_5 ⟨by decide, by decide⟩) rfl (fun H1 locs1 g1 g2 hS1 => ?_)
    refine lv_pop hx hb dJ0_checkIndex_df160_8 (by rfl) ?_
    exact W.vret hx hb hr (fun t ht hW => ⟨rfl, hS1.F ht⟩) hS1.2.2 dJ0_checkIndex_df160_9
  rcases z4 with z | ⟨t, z⟩
  · exact va_gets hx hb z hS hown (hts _ (List.mem_cons_of_mem _ fl_J0_1053)) (fun x h => h) dJ0_checkIndex_df160_2 (go _ (.inl rfl))
  · exact va_gets hx hb z hS hown (hts _ (List.mem_cons_of_mem _ fl_J0_1053)) (fun x h => h) dJ0_checkIndex_df160_2 (go _ (.inr ⟨t, rfl⟩))
def kch (j : Nat) : Int32 := ab_kw.getD j 0 &&& 255
theorem zs_char1 (l : Launch) (g : ab_G) {j : Nat} (hj : j < 133) : zMet l g mJ1_charAt_3b067 [.ref g.2.2.2, .int (nI j)] (some (.int (kch j))) := by
  refine Met.ofW (cc := cJ1_charAt_3b067) (maxL := 2) (ret := some .char) rfl rfl ?_
  intro p e s m args below meth c s₁ B hml hv
  obtain ⟨rfl, hZ⟩ := hv
  have hx := B.exec
  have hb := B.bytes
  have hr := B.returns
  have hlocks : meth.locks = false := B.notSynchronized
  have hown := findClass_of_methodNamed B.named
  have hts := atoms_spec (ws := ab_wm mJ1_charAt_3b067) B.pre
  have hl := lv_entry ([.ref g.2.2.2, .int (nI j)]) (n := 2) (Nat.le_of_ble_eq_true rfl)
  rw [lg_entry_eq]
  generalize (lg_sl ([.ref g.2.2.2, .int (nI j)]) ++ List.replicate (2 - (lg_sl ([.ref g.2.2.2, .int (nI j)])).length) Slot.unset).toArray = ls at hl ⊢
  have hl : lv_has ls 2 [(0, .ref g.2.2.2), (1, .int (nI j))] := hl
  have hS : va_S zNA s.heap s.heap [] := va_S.rf
  have hZ0 := hZ
  obtain ⟨z1, z2, z3, z4, z5⟩ := hZ
  obtain ⟨hO, hC, hV, hT0⟩ := z1.1 0 (by decide)
  have hT : va_T .byte g.2.2.2 133 (fun j => .int (ab_kw.getD j 0)) zNA s s.heap := hT0
  refine lv_iload_n hx hb dJ1_charAt_3b067_0 rfl (lv_at hl 1 rfl) ?_
  refine lv_aload_n hx hb dJ1_charAt_3b067_1 rfl (lv_at hl 0 rfl) ?_
  refine va_tlen hx hb (ty := .byte) hT hS (v := 133) rfl dJ1_charAt_3b067_2 ?_
  have hp := zs_pre hZ0 hS [.int (nI j), .int 133]
  refine zs_back (r := none) hS (va_runS (As := [.int (nI j), .int 133]) (rest := []) (g := F0 m 3 ls [.int 133, .int (nI j)]) ⟨hx, hb, hml, hown, hts⟩ (zs_chk0 l g hj) ⟨ab_callB (M := mJ1_charAt_3b067) Y_J0_checkIndex_df160 hts l_J1_9 (by decide), hts _ (List.mem_cons_of_mem _ st_J0_checkIndex_df160)⟩ ⟨hp.1, hp.2⟩ rfl rfl hl.1 rfl (lv_room (Nat.le_of_ble_eq_true rfl)) dJ1_charAt_3b067_3 ⟨by decide, by decide⟩) rfl (fun H1 locs1 g1 g2 hS1 => ?_)
  refine lv_aload_n hx hb dJ1_charAt_3b067_6 rfl (lv_at hl 0 rfl) ?_
  refine lv_iload_n hx hb dJ1_charAt_3b067_7 rfl (lv_at hl 1 rfl) ?_
  refine va_tb hx hb hT hS1 (i := nI j) (vp_in_nI hj (by omega)) (v := .int (ab_kw.getD j 0)) (by rw [nI_clamp (by omega)]) dJ1_charAt_3b067_8 ?_
  refine lv_sipush (v := 255) hx hb dJ1_charAt_3b067_9 (by decide) ?_
  refine lv_iand hx hb dJ1_charAt_3b067_12 ?_
  refine lv_i2c hx hb dJ1_charAt_3b067_13 (sc_c2 _) ?_
  exact W.zret (ty := .char) (v := kch j) hx hb hr (sc_nar _) (fun t ht hW => ⟨rfl, hS1.F ht⟩) hS1.2.2 dJ1_charAt_3b067_14
theorem zs_length (l : Launch) (g : ab_G) : zMet l g mJ0_length_8abf5 [.ref g.2.2.1] (some (.int 133)) := by
  refine Met.ofW (cc := cJ0_length_8abf5) (maxL := 1) (ret := some .int) rfl rfl ?_
  intro p e s m args below meth c s₁ B hml hv
  obtain ⟨rfl, hZ⟩ := hv
  have hx := B.exec
  have hb := B.bytes
  have hr := B.returns
  have hlocks : meth.locks = false := B.notSynchronized
  have hown := findClass_of_methodNamed B.named
  have hts := atoms_spec (ws := ab_wm mJ0_length_8abf5) B.pre
  have hl := lv_entry ([.ref g.2.2.1]) (n := 1) (Nat.le_of_ble_eq_true rfl)
  rw [lg_entry_eq]
  generalize (lg_sl ([.ref g.2.2.1]) ++ List.replicate (1 - (lg_sl ([.ref g.2.2.1])).length) Slot.unset).toArray = ls at hl ⊢
  have hl : lv_has ls 1 [(0, .ref g.2.2.1)] := hl
  have hS : va_S zNA s.heap s.heap [] := va_S.rf
  have hZ0 := hZ
  obtain ⟨z1, z2, z3, z4, z5⟩ := hZ
  obtain ⟨hO, hC, hV, hT0⟩ := z1.1 0 (by decide)
  have hT : va_T .byte g.2.2.2 133 (fun j => .int (ab_kw.getD j 0)) zNA s s.heap := hT0
  refine lv_aload_n hx hb dJ0_length_8abf5_0 rfl (lv_at hl 0 rfl) ?_
  refine vk_getf hx hb hV hS hown (hts _ (List.mem_cons_of_mem _ fl_J0_9)) (fun x h => h) dJ0_length_8abf5_1 ?_
  refine va_tlen hx hb (ty := .byte) hT hS (v := 133) rfl dJ0_length_8abf5_4 ?_
  refine lv_aload_n hx hb dJ0_length_8abf5_5 rfl (lv_at hl 0 rfl) ?_
  have hp := zs_pre hZ0 hS [.ref g.2.2.1]
  refine zs_back (r := some (.int 0)) hS (va_runV (C := RJ0) (b := g.2.2.1) (As := []) (rest := [.int 133]) (g := F0 m 6 ls [.ref g.2.2.1, .int 133]) ⟨hx, hb, hml, hown, hts⟩ (zs_coder l g) ⟨ab_callB (M := mJ0_length_8abf5) Y_J0_coder_7d493 hts l_J0_335 (by decide), hts _ (List.mem_cons_of_mem _ in_J0_coder_7d493), hts _ (List.mem_cons_of_mem _ se_J0_coder_7d493)⟩ ⟨hp.1, vk_recv z1 (i := 0) (by decide) hS, hp.2⟩ rfl rfl hl.1 rfl (lv_room (Nat.le_of_ble_eq_true rfl)) dJ0_length_8abf5_6 ⟨by decide, by decide⟩) rfl (fun H1 locs1 g1 g2 hS1 => ?_)
  refine lv_ishr hx hb dJ0_length_8abf5_9 ?_
  refine lv_topi (fun y hy => ?_)
  have hy2 : y = 133 := hy.trans (by decide)
  subst hy2
  exact W.iret (v := 133) hx hb hr (fun t ht hW => ⟨rfl, hS1.F ht⟩) hS1.2.2 dJ0_length_8abf5_10
theorem zs_charAt (l : Launch) (g : ab_G) {j : Nat} (hj : j < 133) : zMet l g mJ0_charAt_5068e [.ref g.2.2.1, .int (nI j)] (some (.int (kch j))) := by
  refine Met.ofW (cc := cJ0_charAt_5068e) (maxL := 2) (ret := some .char) rfl rfl ?_
  intro p e s m args below meth c s₁ B hml hv
  obtain ⟨rfl, hZ⟩ := hv
  have hx := B.exec
  have hb := B.bytes
  have hr := B.returns
  have hlocks : meth.locks = false := B.notSynchronized
  have hown := findClass_of_methodNamed B.named
  have hts := atoms_spec (ws := ab_wm mJ0_charAt_5068e) B.pre
  have hl := lv_entry ([.ref g.2.2.1, .int (nI j)]) (n := 2) (Nat.le_of_ble_eq_true rfl)
  rw [lg_entry_eq]
  generalize (lg_sl ([.ref g.2.2.1, .int (nI j)]) ++ List.replicate (2 - (lg_sl ([.ref g.2.2.1, .int (nI j)])).length) Slot.unset).toArray = ls at hl ⊢
  have hl : lv_has ls 2 [(0, .ref g.2.2.1), (1, .int (nI j))] := hl
  have hS : va_S zNA s.heap s.heap [] := va_S.rf
  have hZ0 := hZ
  obtain ⟨z1, z2, z3, z4, z5⟩ := hZ
  obtain ⟨hO, hC, hV, hT0⟩ := z1.1 0 (by decide)
  refine lv_aload_n hx hb dJ0_charAt_5068e_0 rfl (lv_at hl 0 rfl) ?_
  have hp := zs_pre hZ0 hS [.ref g.2.2.1]
  refine zs_back (r := some (.int 1)) hS (va_runV (C := RJ0) (b := g.2.2.1) (As := []) (rest := []) (g := F0 m 1 ls [.ref g.2.2.1]) ⟨hx, hb, hml, hown, hts⟩ (zs_isLatin1 l g) ⟨ab_callB (M := mJ0_charAt_5068e) Y_J0_isLatin1_aae02 hts l_J0_492 (by decide), hts _ (List.mem_cons_of_mem _ in_J0_isLatin1_aae02), hts _ (List.mem_cons_of_mem _ se_J0_isLatin1_aae02)⟩ ⟨hp.1, vk_recv z1 (i := 0) (by decide) hS, hp.2⟩ rfl rfl hl.1 rfl (lv_room (Nat.le_of_ble_eq_true rfl)) dJ0_charAt_5068e_1 ⟨by decide, by decide⟩) rfl (fun H1 locs1 g1 g2 hS1 => ?_)
  refine lv_if_eq hx hb dJ0_charAt_5068e_4 (tgt := 16) (by decide) (fun q => absurd q (by decide)) (fun _ => ?_)
  refine lv_aload_n hx hb dJ0_charAt_5068e_7 rfl (lv_at hl 0 rfl) ?_
  refine vk_getf hx hb hV hS1 hown (hts _ (List.mem_cons_of_mem _ fl_J0_9)) (fun x h => h) dJ0_charAt_5068e_8 ?_
  refine lv_iload_n hx hb dJ0_charAt_5068e_11 rfl (lv_at hl 1 rfl) ?_
  have hp2 := zs_pre hZ0 hS1 [.ref g.2.2.2, .int (nI j)]
  refine zs_back (r := some (.int (kch j))) hS1 (va_runS (As := [.ref g.2.2.2, .int (nI j)]) (rest := []) (g := F0 m 12 ls [.int (nI j), .ref g.2.2.2]) ⟨hx, hb, hml, hown, hts⟩ (zs_char1 l g hj) ⟨ab_callB (M := mJ0_charAt_5068e) Y_J1_charAt_3b067 hts l_J0_495 (by decide), hts _ (List.mem_cons_of_mem _ st_J1_charAt_3b067)⟩ ⟨hp2.1, hp2.2⟩ rfl rfl hl.1 rfl (lv_room (Nat.le_of_ble_eq_true rfl)) dJ0_charAt_5068e_12 ⟨by decide, by decide⟩) rfl (fun H2 locs2 g3 g4 hS2 => ?_)
  exact W.zret (ty := .char) (v := kch j) hx hb hr (sc_nar _) (fun t ht hW => ⟨rfl, hS2.F ht⟩) hS2.2.2 dJ0_charAt_5068e_15
/-! the loop -/
abbrev wiL (a : Nat) (x1 x2 w m i : Int32) : List (Option Value) := [some (.ref a), some (.int x1), some (.int x2), some (.int w), some (.int m), some (.int i)]
section WI
variable {Q : Option Value → ah_T → Prop} {h : ah_T} {a pc : Nat} {L : List (Option Value)} {st : List Value} {x1 x2 w m i : Int32}
theorem wi_S {p : Program} {s : State} {m0 : MethodId} {args : Array Value} {meth : Method} {c : Code} {g : ab_G} {A : Nat → Prop} {σ0 : Nat → Nat} {n0 : Nat} {σ : Nat → Nat} {H H1 : Heap} {locs locs1 : List Loc} {ls : Array Slot} (S : ab_S mX5_wordIn g A σ0 n0 s σ H locs ls L st h) (g2 : ∀ q : Nat, q < H.size → H1[q]? = H[q]?) (hS1 : va_S A s.heap H1 locs1) {v : Int32} : ab_S mX5_wordIn g A σ0 n0 s σ H1 locs1 ls L (.int v :: st) h := by
  obtain ⟨s1, s2, s3, s4, s5, s6, s7, s8⟩ := S
  exact ⟨s1, s2, ⟨s3.1.kept (fun k q hk => g2 q.1 (s3.1 k q hk).lt), s3.2⟩, s4, hS1, s6, ⟨trivial, s7⟩, s8⟩
theorem wi_len (d1 : decode cX5_wordIn pc = .ok (.ldc 96, 2)) (d2 : decode cX5_wordIn (pc + 2) = .ok (.invokevirtual 98, 3)) (hst : (st.map fun v => v.category).sum ≤ 8) (kk : Wp mX5_wordIn Q 0 0 (pc + 2 + 3) L (.int 133 :: st) h) : Wp mX5_wordIn Q 0 0 pc L st h := by
  intro p l e s m args below meth c g A σ0 n0 C σ H locs ls S
  have hZ : ab_Z g A s s.heap := C.2.2.2.2.2.2.2.2.2.2
  have hts := C.2.2.2.2.2.2.1
  have hS : va_S A s.heap H locs := S.2.2.2.2.1
  refine va_ldcS (own := RX5) (tx := ab_kwt) C.1 C.2.1 C.2.2.2.2.2.1 hZ.2.1 d1 ?_
  have hp := zs_pre hZ hS [.ref g.2.2.1]
  refine zs_back (r := some (.int 133)) hS (va_runV (C := RJ0) (b := g.2.2.1) (As := []) (rest := st.map (ab_v σ)) (g := F0 m (pc + 2) ls (.ref g.2.2.1 :: st.map (ab_v σ))) ⟨C.1, C.2.1, C.2.2.1, C.2.2.2.2.2.1, hts⟩ (zs_length l g) ⟨ab_callB (M := mX5_wordIn) Y_J0_length_8abf5 hts l_X5_98 (by decide), hts _ (List.mem_cons_of_mem _ in_J0_length_8abf5), hts _ (List.mem_cons_of_mem _ se_J0_length_8abf5)⟩ ⟨hp.1, vk_recv hZ.1 (i := 0) (by decide) hS, hp.2⟩ rfl rfl S.2.2.2.2.2.1.1 rfl (lv_room (by rw [ab_cat_map]; exact hst)) d2 ⟨by decide, by decide⟩) rfl (fun H1 locs1 g1 g2 hS1 => ?_)
  exact kk p l e s m args below meth c g A σ0 n0 C σ H1 locs1 ls (wi_S (p := p) (m0 := m) (meth := meth) (c := c) (args := args) S g2 hS1)
theorem wi_char {j : Nat} (hj : j < 133) (hL : L[5]? = some (some (.int (nI j)))) (d1 : decode cX5_wordIn pc = .ok (.ldc 96, 2)) (d2 : decode cX5_wordIn (pc + 2) = .ok (.iload 5, 2)) (d3 : decode cX5_wordIn (pc + 2 + 2) = .ok (.invokevirtual 104, 3)) (hst : (st.map fun v => v.category).sum ≤ 8) (kk : Wp mX5_wordIn Q 0 0 (pc + 2 + 2 + 3) L (.int (kch j) :: st) h) : Wp mX5_wordIn Q 0 0 pc L st h := by
  intro p l e s m args below meth c g A σ0 n0 C σ H locs ls S
  have hZ : ab_Z g A s s.heap := C.2.2.2.2.2.2.2.2.2.2
  have hts := C.2.2.2.2.2.2.1
  have hS : va_S A s.heap H locs := S.2.2.2.2.1
  refine va_ldcS (own := RX5) (tx := ab_kwt) C.1 C.2.1 C.2.2.2.2.2.1 hZ.2.1 d1 ?_
  refine lv_iload C.1 C.2.1 d2 (S.2.2.2.2.2.1.at hL) ?_
  have hp := zs_pre hZ hS [.ref g.2.2.1, .int (nI j)]
  refine zs_back (r := some (.int (kch j))) hS (va_runV (C := RJ0) (b := g.2.2.1) (As := [.int (nI j)]) (rest := st.map (ab_v σ)) (g := F0 m (pc + 2 + 2) ls (.int (nI j) :: .ref g.2.2.1 :: st.map (ab_v σ))) ⟨C.1, C.2.1, C.2.2.1, C.2.2.2.2.2.1, hts⟩ (zs_charAt l g hj) ⟨ab_callB (M := mX5_wordIn) Y_J0_charAt_5068e hts l_X5_104 (by decide), hts _ (List.mem_cons_of_mem _ in_J0_charAt_5068e), hts _ (List.mem_cons_of_mem _ se_J0_charAt_5068e)⟩ ⟨hp.1, vk_recv hZ.1 (i := 0) (by decide) hS, hp.2⟩ rfl rfl S.2.2.2.2.2.1.1 rfl (lv_room (by rw [ab_cat_map]; exact hst)) d3 ⟨by decide, by decide⟩) rfl (fun H1 locs1 g1 g2 hS1 => ?_)
  exact kk p l e s m args below meth c g A σ0 n0 C σ H1 locs1 ls (wi_S (p := p) (m0 := m) (meth := meth) (c := c) (args := args) S g2 hS1)
theorem wi_94 (k : Wp mX5_wordIn Q 0 0 8 (wiL a x1 x2 w m (i + 1)) [] h) : Wp mX5_wordIn Q 0 0 94 (wiL a x1 x2 w m i) [] h := by
  refine ab_iinc (i := 5) (x := i) (v := i + 1) (L' := wiL a x1 x2 w m (i + 1)) dX5_wordIn_94 rfl rfl (by exact (Nat.le_of_ble_eq_true rfl)) rfl rfl ?_
  exact ab_goto (tgt := 8) dX5_wordIn_97 (by decide) k
theorem wi_40 (kt : m = x2 - x1 → Q (some (.int w)) h) (kf : ¬ m = x2 - x1 → Wp mX5_wordIn Q 0 0 8 (wiL a x1 x2 (w + 1) 0 (i + 1)) [] h) : Wp mX5_wordIn Q 0 0 40 (wiL a x1 x2 w m i) [] h := by
  refine ab_iload (i := 4) dX5_wordIn_40 rfl ?_
  refine ab_iload_n (i := 2) dX5_wordIn_42 rfl rfl ?_
  refine ab_iload_n (i := 1) dX5_wordIn_43 rfl rfl ?_
  refine ab_isub dX5_wordIn_44 ?_
  refine ab_icmp_ne (tgt := 50) dX5_wordIn_45 (by decide) (fun c => ?_) (fun c => ?_)
  · refine ab_iinc (i := 3) (x := w) (v := w + 1) (L' := wiL a x1 x2 (w + 1) m i) dX5_wordIn_50 rfl rfl (by exact (Nat.le_of_ble_eq_true rfl)) rfl rfl ?_
    refine ab_iconst (v := 0) dX5_wordIn_53 (by decide) ?_
    refine ab_istore (i := 4) (L' := wiL a x1 x2 (w + 1) 0 i) dX5_wordIn_54 (by exact (Nat.le_of_ble_eq_true rfl)) rfl rfl ?_
    exact ab_goto (tgt := 94) dX5_wordIn_56 (by decide) (wi_94 (kf c))
  · refine ab_iload_n (i := 3) dX5_wordIn_48 rfl rfl ?_
    exact ab_iret rfl dX5_wordIn_49 (Nat.le_of_ble_eq_true rfl) (Nat.le_of_ble_eq_true rfl) (kt c)
theorem wi_89 (k : Wp mX5_wordIn Q 0 0 8 (wiL a x1 x2 w 401 (i + 1)) [] h) : Wp mX5_wordIn Q 0 0 89 (wiL a x1 x2 w m i) [] h := by
  refine ab_sipush (v := 401) dX5_wordIn_89 (by decide) ?_
  refine ab_istore (i := 4) (L' := wiL a x1 x2 w 401 i) dX5_wordIn_92 (by exact (Nat.le_of_ble_eq_true rfl)) rfl rfl ?_
  exact wi_94 k
theorem wi_59 {j : Nat} (hj : j < 133) (ka : ah_k h a = 14) (k0 : x2 - x1 ≤ m → Wp mX5_wordIn Q 0 0 8 (wiL a x1 x2 w 401 (nI j + 1)) [] h)
    (k1 : ¬ x2 - x1 ≤ m → vp_in (x1 + m) (ah_n h a) ∧ (kch j = ah_i h a (x1 + m).toNatClampNeg → Wp mX5_wordIn Q 0 0 8 (wiL a x1 x2 w (m + 1) (nI j + 1)) [] h) ∧ (¬ kch j = ah_i h a (x1 + m).toNatClampNeg → Wp mX5_wordIn Q 0 0 8 (wiL a x1 x2 w 401 (nI j + 1)) [] h)) :
    Wp mX5_wordIn Q 0 0 59 (wiL a x1 x2 w m (nI j)) [] h := by
  refine ab_iload (i := 4) dX5_wordIn_59 rfl ?_
  refine ab_iload_n (i := 2) dX5_wordIn_61 rfl rfl ?_
  refine ab_iload_n (i := 1) dX5_wordIn_62 rfl rfl ?_
  refine ab_isub dX5_wordIn_63 ?_
  refine ab_icmp_ge (tgt := 89) dX5_wordIn_64 (by decide) (fun c => wi_89 (k0 c)) (fun c => ?_)
  obtain ⟨k2, k3, k4⟩ := k1 c
  refine wi_char (j := j) hj rfl dX5_wordIn_67 dX5_wordIn_69 dX5_wordIn_71 (Nat.le_of_ble_eq_true rfl) ?_
  refine ab_aload_n (i := 0) dX5_wordIn_74 rfl rfl ?_
  refine ab_iload_n (i := 1) dX5_wordIn_75 rfl rfl ?_
  refine ab_iload (i := 4) dX5_wordIn_76 rfl ?_
  refine ab_iadd dX5_wordIn_78 ?_
  refine ab_iald ka k2 dX5_wordIn_79 ?_
  refine ab_icmp_ne (tgt := 89) dX5_wordIn_80 (by decide) (fun c => wi_89 (k4 c)) (fun c => ?_)
  refine ab_iinc (i := 4) (x := m) (v := m + 1) (L' := wiL a x1 x2 w (m + 1) (nI j)) dX5_wordIn_83 rfl rfl (by exact (Nat.le_of_ble_eq_true rfl)) rfl rfl ?_
  exact ab_goto (tgt := 94) dX5_wordIn_86 (by decide) (wi_94 (k3 c))
end WI
/-! the words, as the class has them -/
def kW : List (List Nat) := [[108, 97, 109, 112], [107, 105, 110, 100], [111, 116, 104, 101, 114], [110, 101, 97, 114], [108, 97, 116, 101, 114], [109, 105, 110, 117, 116, 101], [119, 105, 110, 100], [109, 111, 111, 100], [108, 97, 109, 112, 115], [115, 119, 105, 116, 99, 104, 101, 115], [108, 97, 115, 116], [100, 111, 110, 101], [114, 117, 110], [115, 104, 117, 110, 115], [114, 101, 97, 99, 104, 101, 115], [100, 114, 105, 110, 107, 115], [108, 105, 103, 104, 116], [115, 110, 117, 102, 102], [97, 116], [101, 97, 99, 104], [116, 105, 109, 101, 115], [105, 102], [111, 114], [97, 110, 100], [110, 111, 116]]
def kB : List Nat := jn kW
def kix : List (List Nat) → List Nat → Nat → Nat
  | [], _, _ => 98
  | u :: r, t, w => if u = t then w else kix r t (w + 1)
theorem kW_ok : ∀ u ∈ kW, u.length ≤ 8 ∧ ∀ i, i < u.length → u.getD i 0 ≠ 32 ∧ u.getD i 0 < 128 := by decide +kernel
theorem kB_at : ∀ j, j < 133 → kch j = nI (kB.getD j 0) ∧ kB.getD j 0 < 128 := by decide +kernel
theorem kB_len : kB.length = 134 := by decide +kernel
theorem kB_end : kB.getD 133 0 = 32 := by decide +kernel
theorem kix_no : ∀ (r : List (List Nat)) (t : List Nat) (w : Nat), (∀ u ∈ r, u ≠ t) → kix r t w = 98
  | [], _, _, _ => rfl
  | u :: r, t, w, z => by
    unfold kix
    rw [if_neg (z u List.mem_cons_self)]
    exact kix_no r t (w + 1) (fun v hv => z v (List.mem_cons_of_mem _ hv))
theorem wix_no : ∀ (r : List (List Nat)) (t : List Nat) (w : Nat), (∀ u ∈ r, u ≠ t) → wix r t w = 0
  | [], _, _, _ => rfl
  | u :: r, t, w, z => by
    unfold wix
    rw [if_neg (z u List.mem_cons_self)]
    exact wix_no r t (w + 1) (fun v hv => z v (List.mem_cons_of_mem _ hv))
theorem kw_all : ∀ u ∈ kW, u ∈ mW ∧ kix kW u 0 = wdL.getD (wix mW u 1) 98 := by decide +kernel
theorem mw_all : ∀ u ∈ mW, u ∈ kW := by decide +kernel
theorem kix_wix (t : List Nat) : kix kW t 0 = wdL.getD (wix mW t 1) 98 := by
  by_cases y : t ∈ kW
  · exact (kw_all t y).2
  · rw [kix_no kW t 0 (fun u hu e => y (e ▸ hu)), wix_no mW t 1 (fun u hu e => y (e ▸ mw_all u hu))]
    rfl
theorem wi_8 {Q : Option Value → ah_T → Prop} {h : ah_T} {a j : Nat} {x1 x2 w m : Int32} (hj : j ≤ 134) (k0 : j = 134 → Q (some (.int 98)) h) (k1 : j < 134 → kB.getD j 0 = 32 → Wp mX5_wordIn Q 0 0 40 (wiL a x1 x2 w m (nI j)) [] h) (k2 : j < 133 → ¬ kB.getD j 0 = 32 → Wp mX5_wordIn Q 0 0 59 (wiL a x1 x2 w m (nI j)) [] h) : Wp mX5_wordIn Q 0 0 8 (wiL a x1 x2 w m (nI j)) [] h := by
  refine ab_iload (i := 5) dX5_wordIn_8 rfl ?_
  refine wi_len dX5_wordIn_10 dX5_wordIn_12 (Nat.le_of_ble_eq_true rfl) ?_
  refine ab_icmp_gt (tgt := 100) dX5_wordIn_15 (by decide) (fun c => ?_) (fun c => ?_)
  · refine ab_bipush (v := 98) dX5_wordIn_100 (by decide) ?_
    refine ab_iret rfl dX5_wordIn_102 (Nat.le_of_ble_eq_true rfl) (Nat.le_of_ble_eq_true rfl) (k0 ?_)
    have : 133 < j := (nI_ltI (a := 133) (by omega) (by omega)).mp c
    omega
  · have hj2 : j ≤ 133 := by
      rcases Nat.lt_or_ge 133 j with y | y
      · exact absurd ((nI_ltI (a := 133) (by omega) (by omega)).mpr y) c
      · exact y
    refine ab_iload (i := 5) dX5_wordIn_18 rfl ?_
    refine wi_len dX5_wordIn_20 dX5_wordIn_22 (Nat.le_of_ble_eq_true rfl) ?_
    refine ab_icmp_eq (tgt := 40) dX5_wordIn_25 (by decide) (fun c2 => ?_) (fun c2 => ?_)
    · have e : j = 133 := (nI_eq (b := 133) (by omega) (by omega)).mp c2
      exact k1 (by omega) (by rw [e]; exact kB_end)
    · have e : j < 133 := by
        rcases Nat.lt_or_ge j 133 with y | y
        · exact y
        · exact absurd (show nI j = 133 by rw [show j = 133 by omega]; rfl) c2
      obtain ⟨q1, q2⟩ := kB_at j e
      refine wi_char (j := j) e rfl dX5_wordIn_28 dX5_wordIn_30 dX5_wordIn_32 (Nat.le_of_ble_eq_true rfl) ?_
      refine ab_bipush (v := 32) dX5_wordIn_35 (by decide) ?_
      refine ab_icmp_ne (tgt := 59) dX5_wordIn_37 (by decide) (fun c3 => ?_) (fun c3 => ?_)
      · exact k2 e (fun y => c3 (by rw [q1, y]; rfl))
      · exact k1 (by omega) ((nI_eq (b := 32) (by omega) (by omega)).mp (q1.symm.trans c3))
theorem c_wordIn {Q : Option Value → ah_T → Prop} {h : ah_T} (hs : Sh h) {D : Nat → Nat} {a k e : Nat} (ka : ah_k h a = 14) (na : e ≤ ah_n h a) (hk : k < e) (he : e ≤ 400) (hD : ∀ j, k ≤ j → j < e → D j < 256 ∧ ah_i h a j = nI (D j)) (hq : Q (some (.int (nI (wdL.getD (wix mW (tb D k e) 1) 98)))) h) : Mt mX5_wordIn [.ref a, .int (nI k), .int (nI e)] h Q := by
  rw [← kix_wix] at hq
  have outer : ∀ (r : List (List Nat)) (p : List Nat) (w : Nat), kB = p ++ jn r → (∀ u ∈ r, u.length ≤ 8 ∧ ∀ i, i < u.length → u.getD i 0 ≠ 32 ∧ u.getD i 0 < 128) → Q (some (.int (nI (kix r (tb D k e) w)))) h → Wp mX5_wordIn Q 0 0 8 (wiL a (nI k) (nI e) (nI w) 0 (nI p.length)) [] h := by
    intro r
    induction r with
    | nil =>
      intro p w hp _ q
      have : p.length = 134 := by rw [← kB_len, hp]; simp [jn]
      exact wi_8 (by omega) (fun _ => q) (fun y => by omega) (fun y => by omega)
    | cons u r ih =>
      intro p w hp hu q
      obtain ⟨hu1, hu2⟩ := hu u List.mem_cons_self
      have hj : jn (u :: r) = u ++ 32 :: jn r := rfl
      have hlen : p.length + (u.length + 1) + (jn r).length = 134 := by rw [← kB_len, hp, hj]; simp; omega
      have at1 : ∀ j, j < u.length → kB.getD (p.length + j) 0 = u.getD j 0 := fun j hj2 => by
        rw [hp, jn_at, hj, un_at u _ hj2]
      have at2 : kB.getD (p.length + u.length) 0 = 32 := by
        rw [hp, jn_at, hj, un_32]
      have scan : ∀ (f i m : Nat), i + f = u.length → ((m = i ∧ i ≤ e - k ∧ ∀ j, j < i → u.getD j 0 = D (k + j)) ∨ (m = 401 ∧ ¬ (i ≤ e - k ∧ ∀ j, j < i → u.getD j 0 = D (k + j)))) → Wp mX5_wordIn Q 0 0 8 (wiL a (nI k) (nI e) (nI w) (nI m) (nI (p.length + i))) [] h := by
        intro f
        induction f with
        | zero =>
          intro i m hi hm
          have hi2 : i = u.length := by omega
          subst hi2
          refine wi_8 (by omega) (fun y => by omega) (fun _ _ => ?_) (fun _ y => absurd at2 y)
          have hm31 : m < 2 ^ 31 := by rcases hm with y | y <;> omega
          refine wi_40 (fun z => ?_) (fun z => ?_)
          · rw [nI_sub (by omega), nI_eq hm31 (by omega)] at z
            have e1 : u = tb D k e := by
              rcases hm with ⟨y1, y2, y3⟩ | ⟨y1, y2⟩
              · exact tb_eq.mpr ⟨by omega, fun j hj => y3 j (by omega)⟩
              · omega
            unfold kix at q
            rw [if_pos e1] at q
            exact q
          · rw [nI_sub (by omega), nI_eq hm31 (by omega)] at z
            have e1 : ¬ u = tb D k e := by
              intro y
              obtain ⟨y1, y2⟩ := tb_eq.mp y
              rcases hm with ⟨y3, y4, y5⟩ | ⟨y3, y4⟩
              · omega
              · exact y4 ⟨by omega, fun j hj => y2 j (by omega)⟩
            rw [nI_1, nI_1]
            have f1 : p.length + u.length + 1 = (p ++ (u ++ [32])).length := by simp; omega
            rw [f1]
            refine ih (p ++ (u ++ [32])) (w + 1) (by rw [hp, hj]; simp) (fun v hv => hu v (List.mem_cons_of_mem _ hv)) ?_
            unfold kix at q
            rw [if_neg e1] at q
            exact q
        | succ f ihf =>
          intro i m hi hm
          have h1 := hu2 i (by omega)
          have hm31 : m < 2 ^ 31 := by rcases hm with y | y <;> omega
          refine wi_8 (by omega) (fun y => by omega) (fun _ y => absurd ((at1 i (by omega)).symm.trans y) h1.1) (fun y3 _ => ?_)
          refine wi_59 y3 ka (fun z => ?_) (fun z => ?_)
          · rw [nI_1, Nat.add_assoc]
            refine ihf (i + 1) 401 (by omega) (.inr ⟨rfl, fun y => ?_⟩)
            rw [nI_sub (by omega)] at z
            rcases hm with ⟨g1, g2, g3⟩ | ⟨g1, g2⟩
            · exact nI_ge (a := m) (b := e - k) (by omega) (by omega) z
            · exact g2 ⟨by omega, fun j hj => y.2 j (by omega)⟩
          · rw [nI_sub (by omega)] at z
            have hlt : m < e - k := by
              rcases Nat.lt_or_ge m (e - k) with y | y
              · exact y
              · exact absurd (nI_le y hm31) z
            have hmi : m = i ∧ i ≤ e - k ∧ ∀ j, j < i → u.getD j 0 = D (k + j) := by
              rcases hm with y | ⟨y, _⟩
              · exact y
              · omega
            obtain ⟨rfl, g2, g3⟩ := hmi
            have hDk := hD (k + m) (by omega) (by omega)
            have ee : kch (p.length + m) = ah_i h a (nI k + nI m).toNatClampNeg ↔ u.getD m 0 = D (k + m) := by
              rw [nI_add, nI_clamp (by omega), (kB_at _ y3).1, at1 m (by omega), hDk.2, nI_eq (by omega) (by omega)]
            refine ⟨by rw [nI_add]; exact (vp_nI (by omega)).mpr (by omega), fun y => ?_, fun y => ?_⟩
            · rw [nI_1, nI_1, Nat.add_assoc]
              refine ihf (m + 1) (m + 1) (by omega) (.inl ⟨rfl, by omega, fun j hj => ?_⟩)
              rcases Nat.lt_or_ge j m with x | x
              · exact g3 j x
              · have : j = m := by omega
                subst this
                exact ee.mp y
            · rw [nI_1, Nat.add_assoc]
              exact ihf (m + 1) 401 (by omega) (.inr ⟨rfl, fun x => y (ee.mpr (x.2 m (by omega)))⟩)
      exact scan u.length 0 0 (by omega) (.inl ⟨rfl, by omega, fun j hj => by omega⟩)
  refine Mt.ofWp rfl (by exact (Nat.le_of_ble_eq_true rfl)) (Wp.fewer (L' := [some (.ref a), some (.int (nI k)), some (.int (nI e)), none, none, none]) (show ab_leL _ _ from ⟨rfl, ⟨rfl, ⟨rfl, trivial⟩⟩⟩) ?_)
  refine ab_iconst (v := 0) dX5_wordIn_0 (by decide) ?_
  refine ab_istore_n (i := 3) (L' := [some (.ref a), some (.int (nI k)), some (.int (nI e)), some (.int 0), none, none]) dX5_wordIn_1 rfl (by exact (Nat.le_of_ble_eq_true rfl)) rfl rfl ?_
  refine ab_iconst (v := 0) dX5_wordIn_2 (by decide) ?_
  refine ab_istore (i := 4) (L' := [some (.ref a), some (.int (nI k)), some (.int (nI e)), some (.int 0), some (.int 0), none]) dX5_wordIn_3 (by exact (Nat.le_of_ble_eq_true rfl)) rfl rfl ?_
  refine ab_iconst (v := 0) dX5_wordIn_5 (by decide) ?_
  refine ab_istore (i := 5) (L' := wiL a (nI k) (nI e) (nI 0) 0 (nI 0)) dX5_wordIn_6 (by exact (Nat.le_of_ble_eq_true rfl)) rfl rfl ?_
  exact outer kW [] 0 rfl kW_ok hq
