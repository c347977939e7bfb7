/-! ===== the law, from its entry: what the statement gives, two new objects, then the loop ===== -/
theorem iv_no {P : Prop} (w : Nat) (h : w < 0) : P := absurd h (Nat.not_lt_zero w)
section LS
variable {p : Program} {l : Launch} {e : Env} {s : State} {m : MethodId} {below : List Frame} {meth : Method} {c : Code} {g : ab_G} {b L : Nat} {xs : Nat → Int32} {σ : Nat → Nat} {H : Heap} {locs : List Loc} {h : ah_T} {M' : ab_M} {Q' : Option Value → ah_T → Prop} {As rest : List Value} {b0 index n ci cells slots pc : Nat} {ls : Array Slot} {Qz : State → Prop}
/-- a new object in the law -/
theorem lw_new (C : lw_C p s m meth c g b L xs) (S : lw_S g s σ H locs h) (hC : ab_CL RL index ci) (hc : cells + 1 ≤ 600000) (hs : slots + ab_N ci ≤ 7302250) (d : decode code pc = .ok (.new index, 3))
    (kk : ∀ (σ' : Nat → Nat) (H' : Heap) (locs' : List Loc), lw_S g s σ' H' locs' (ah_nw h ci 0) → (∀ a, a < ah_x h → σ' a = σ a) → W p l e room_1 s m #[Value.ref b] below meth c H' locs' (cells + 1) (slots + ab_N ci) Qz (F0 m (pc + 3) ls (.ref (σ' (ah_x h)) :: rest))) :
    W p l e room_1 s m #[Value.ref b] below meth c H locs cells slots Qz (F0 m pc ls rest) := by
  obtain ⟨s3, s4, s5⟩ := S
  obtain ⟨CC, T, N, f1, f2, f3, f4, f5, f6, f7, f8, f9⟩ := hC
  have hts : ∀ w ∈ lw_T, w.before #[Value.ref b] s = true := fun w hw => C.2.2.2.2.1 w (lw_inT hw)
  rw [f3] at hs kk
  have hfs : ∀ σ', ab_fs σ' (ah_nw h ci 0) (ah_x h) ci = ab_fs σ (ah_nw h ci 0) (ah_x h) ci := fun σ' => by
    unfold ab_fs
    apply List.map_congr_left
    intro k _
    unfold ab_fv
    rw [ah_r_nw, if_pos rfl]
    rfl
  refine va_new (D := g.1) (cl := vwCl) (ci := ci) (C := CC) (T := T) (N := N) (own := RL) (fs := ab_fs σ (ah_nw h ci 0) (ah_x h) ci) (A := fun q => s.heap.size ≤ q) C.1 C.2.1 hts f4 (ab_ty ci) f5 C.2.2.2.1 (hts _ f6) (hts _ f7) (hts _ f8) C.2.2.2.2.2.2.2.1 s3.1 (s3.D s4) s5 (fun q hq => hq) f1 ?_ hc hs d fun q H1 hP1 hD1 hS1 => ?_
  · intro j hj
    unfold vp_V
    rw [List.getD_eq_getElem?_getD, ab_fs_at (by rw [f3]; exact hj)]
    show _ = ab_fv σ (ah_nw h ci 0) (ah_x h) j (ab_ty ci j)
    unfold ab_fv
    rw [ah_i_nw, ah_l_nw, ah_r_nw, if_pos rfl, if_pos rfl, if_pos rfl]
    have hno := f9 j hj
    cases hty : ab_ty ci j with
    | float => exact absurd hty hno.1
    | double => exact absurd hty hno.2
    | _ => rfl
  · have hσ : ∀ b, b < ah_x h → ah_u1 σ (ah_x h) q b = σ b := fun b hb => if_neg (by omega)
    have hq : ah_u1 σ (ah_x h) q (ah_x h) = q := if_pos rfl
    have hw : ab_ws g.2.1 σ h ++ [(q, .inr (ci, ab_fs σ (ah_nw h ci 0) (ah_x h) ci))] = ab_ws g.2.1 (ah_u1 σ (ah_x h) q) (ah_nw h ci 0) := by
      refine ab_ws_new (ah_x_nw h ci 0) q _ hq (by rw [ab_E_obj (ci := ci) (by rw [ah_k_nw, if_pos rfl]) f2, hfs]) (fun b hb => ⟨hσ b hb, ?_⟩)
      have hne : b ≠ ah_x h := by omega
      refine ab_E_moved (by rw [ah_k_nw, if_neg hne]) (by rw [ah_n_nw, if_neg hne]) (fun j => by rw [ah_i_nw, if_neg hne]) (fun j => by rw [ah_l_nw, if_neg hne]) (fun j => ?_)
      rw [ah_r_nw, if_neg hne]
      cases hr : ah_r h b j with
      | none => rfl
      | some z => exact congrArg some (hσ z (s3.2.2.2 b j z hb hr))
    rw [hw] at hP1 hD1
    have k2 := kk (ah_u1 σ (ah_x h) q) H1 locs ⟨⟨hP1, fun b b' hb hb' hbb => hD1.1 b b' _ _ (ab_ws_at hb) (ab_ws_at hb') hbb, fun b hb => ?_, fun b j z hb hz => ?_⟩, fun b hb => hD1.2 b _ (ab_ws_at hb), hS1⟩ hσ
    · rw [hq] at k2
      exact k2
    · by_cases hbx : b = ah_x h
      · rw [ah_x_nw, hbx]; omega
      · rw [ah_k_nw, if_neg hbx] at hb
        have := s3.2.2.1 b hb
        rw [ah_x_nw]; omega
    · by_cases hbx : b = ah_x h
      · rw [hbx, ah_r_nw, if_pos rfl] at hz
        cases hz
      · rw [ah_r_nw, if_neg hbx] at hz
        have := s3.2.2.2 b j z (by rw [ah_x_nw] at hb; omega) hz
        rw [ah_x_nw]; omega
/-- a constructor, called by the law -/
theorem lw_callI (C : lw_C p s m meth c g b L xs) (S : lw_S g s σ H locs h) (hM : Mt M' [.ref b0] h Q') (hY : ab_Y M' 0) (hret : M'.2.2.2.1 = none) (hni : M'.1.name = "<init>") (hl : Cond.methodLink RL index M'.1 ∈ lw_tbl) (hin : Cond.instanceMethod M'.1 ∈ lw_T) (hb : b0 < ah_x h) (hdp : M'.2.2.2.2.1 ≤ 1000) (hsz : ls.size = 4)
    (hc : cells + M'.2.2.2.2.2.1 ≤ 600000) (hs : slots + M'.2.2.2.2.2.2 ≤ 7302250) (hr : (rest.map fun v => v.category).sum ≤ 8) (d : decode code pc = .ok (.invokespecial index, 3))
    (kk : ∀ (r : Option Value) (h' : ah_T) (σ' : Nat → Nat) (H' : Heap) (locs' : List Loc), Q' r h' → lw_S g s σ' H' locs' h' → (∀ a, a < ah_x h → σ' a = σ a) → ah_x h ≤ ah_x h' → W p l e room_1 s m #[Value.ref b] below meth c H' locs' (cells + M'.2.2.2.2.2.1) (slots + M'.2.2.2.2.2.2) Qz (F0 m (pc + 3) ls ((r.map (ab_v σ')).toList ++ rest))) :
    W p l e room_1 s m #[Value.ref b] below meth c H locs cells slots Qz (F0 m pc ls (.ref (σ b0) :: rest)) := by
  have hpre := lw_pre C S [.ref b0]
  have cb := lw_callB C hY hl hdp
  rw [hret] at cb
  have hrun := va_runI (b := σ b0) (As := []) (rest := rest) (g := F0 m pc ls (.ref (σ b0) :: rest)) (below := below) (meth := meth) (locs := locs) (cells := cells) (slots := slots) (e := e) (H := H) (R := room_1) (n := 0) (l := l) ⟨C.1, C.2.1, C.2.2.1, C.2.2.2.1, C.2.2.2.2.1⟩ (hM l g σ H.size ⟨hb, trivial⟩) ⟨cb, hni, C.2.2.2.2.1 _ (lw_inT hin)⟩ ⟨hpre.1, hpre.2⟩ rfl rfl hsz rfl (lv_room hr) d ⟨hc, hs⟩
  exact lw_back C S kk hrun
end LS
/-- what the tables say of a row of a type -/
theorem ls_arr {s : State} {args : Array Value} {ty : FieldType} (hty : ty = .byte ∨ ty = .int ∨ ty = .long ∨ ty = .boolean) (h : (Cond.arrayClass ty).before args s = true) : ∃ cA : ClassId, ArrOfT s cA ty ∧ va_RA s cA ty := by
  obtain ⟨cA, k, comp, h1, h2, h3⟩ := Cond.arrayClass_spec (args := args) (first := s) (o := none) (s := s) (idx := []) h
  refine ⟨cA, fun n z => ⟨fun _ q => (by cases q), k, h2, comp, h3⟩, ?_⟩
  rcases hty with rfl | rfl | rfl | rfl <;> exact h1
theorem ls_arrO {s : State} {C : String} (h : va_AO C s) : ∃ cA : ClassId, ArrOfT s cA (.object C) ∧ va_RA s cA (.object C) := by
  obtain ⟨comp, cA, k, h1, h2, h3, h4, h5⟩ := Cond.arrayOver_spec h
  exact ⟨cA, fun n z => ⟨fun _ q => (by cases q), k, h3, comp, h4⟩, k, comp, h3, h4, h1, h5⟩
def kT : Term := .string "LampTempers$Reader" 96
def gN : List Cond := flatC (Jvm.Cond.and given_1 narrow_1)
set_option maxRecDepth 100000 in
theorem gn_el : ∀ j, j < 133 → gN[39 + j]? = some (Cond.eq (.elem (.field kT "java/lang/String" "value" "[B") (.int (Int32.ofNat j))) (.int (ab_kw.getD j 0))) := by decide +kernel
set_option maxRecDepth 100000 in
theorem gn_co : gN[36]? = some (Cond.eq (.field kT "java/lang/String" "coder" "B") (.int 0)) := by decide +kernel
set_option maxRecDepth 100000 in
theorem gn_ex : gN[35]? = some (Cond.exactly kT "java/lang/String") := by decide +kernel
set_option maxRecDepth 100000 in
theorem gn_ar : gN[37]? = some (Cond.arrayOf (.field kT "java/lang/String" "value" "[B") .byte) := by decide +kernel
set_option maxRecDepth 100000 in
theorem gn_le : gN[38]? = some (Cond.eq (.length (.field kT "java/lang/String" "value" "[B")) (.int (Int32.ofNat 133))) := by decide +kernel
set_option maxRecDepth 100000 in
theorem gn_cs : gN[4]? = some (Cond.eq (.static RJ0 "COMPACT_STRINGS" "Z") (.int 1)) := by decide +kernel
set_option maxRecDepth 100000 in
theorem gn_si : gN[5]? = some (Cond.isRef (.static RJ3 "SIOOBE_FORMATTER" "Ljava/util/function/BiFunction;")) := by decide +kernel
theorem lt_1 {w : Cond} (h : w ∈ tables_1_1) : w ∈ lw_tbl := List.mem_append_right _ (show w ∈ tables_1 from List.mem_append_left _ h)
theorem lt_3 {w : Cond} (h : w ∈ tables_1_3) : w ∈ lw_tbl := List.mem_append_right _ (show w ∈ tables_1 from List.mem_append_right _ (List.mem_append_right _ (List.mem_append_left _ h)))
theorem lt_4 {w : Cond} (h : w ∈ tables_1_4) : w ∈ lw_tbl := List.mem_append_right _ (show w ∈ tables_1 from List.mem_append_right _ (List.mem_append_right _ (List.mem_append_right _ (List.mem_append_left _ h))))
theorem ls_o9 : Cond.arrayOver (.object "LampTempers$Text") ∈ lw_tbl := lt_1 (List.mem_of_getElem? (i := 65) (by decide +kernel))
theorem ls_o10 : Cond.arrayOver (.object "LampTempers$Town") ∈ lw_tbl := lt_1 (List.mem_of_getElem? (i := 119) (by decide +kernel))
theorem ls_sr : Cond.stringRef "LampTempers$Reader" 96 "lamp kind other near later minute wind mood lamps switches last done run shuns reaches drinks light snuff at each times if or and not" ∈ lw_tbl := lt_4 (List.mem_of_getElem? (i := 109) (by decide +kernel))
theorem ls_l0 : Cond.laysStatic "java/lang/String" "COMPACT_STRINGS" "Z" ∈ lw_tbl := lt_4 (List.mem_of_getElem? (i := 119) (by decide +kernel))
theorem ls_i0 : Cond.initialized "java/lang/String" ∈ lw_tbl := lt_1 (List.mem_of_getElem? (i := 15) (by decide +kernel))
theorem ls_l3 : Cond.laysStatic "jdk/internal/util/Preconditions" "SIOOBE_FORMATTER" "Ljava/util/function/BiFunction;" ∈ lw_tbl := lt_4 (List.mem_of_getElem? (i := 135) (by decide +kernel))
theorem ls_i3 : Cond.initialized "jdk/internal/util/Preconditions" ∈ lw_tbl := lt_1 (List.mem_of_getElem? (i := 17) (by decide +kernel))
theorem ls_ca : Cond.castable "[I" "java/lang/Cloneable" ∈ lw_tbl := lt_4 (List.mem_of_getElem? (i := 205) (by decide +kernel))
theorem ls_n1 : Cond.methodLinkNest RX11 32 yX5_init RX11 ∈ lw_tbl := lt_1 (List.mem_of_getElem? (i := 122) (by decide +kernel))
theorem ls_n2 : Cond.methodLinkNest RX11 39 yX2_init RX11 ∈ lw_tbl := lt_1 (List.mem_of_getElem? (i := 163) (by decide +kernel))
theorem ls_n3 : Cond.methodLinkNest RX10 67 yX11_isIn RX11 ∈ lw_tbl := lt_3 (List.mem_of_getElem? (i := 212) (by decide +kernel))
theorem ls_n4 : Cond.methodLinkNest RX6 85 yX11_isIn RX11 ∈ lw_tbl := lt_4 (List.mem_of_getElem? (i := 9) (by decide +kernel))
theorem ls_t0 : Cond.instantiable RX0 13 ∈ lw_T := tb_2 (List.mem_of_getElem? (i := 118) (by decide +kernel)) rfl
theorem ls_t1 : Cond.instantiable RX1 18 ∈ lw_T := tb_2 (List.mem_of_getElem? (i := 169) (by decide +kernel)) rfl
theorem ls_t2 : Cond.instantiable RX2 3 ∈ lw_T := tb_1 (List.mem_of_getElem? (i := 162) (by decide +kernel)) rfl
theorem ls_t3 : Cond.instantiable RX3 20 ∈ lw_T := tb_2 (List.mem_of_getElem? (i := 36) (by decide +kernel)) rfl
theorem ls_t4 : Cond.instantiable RX4 16 ∈ lw_T := tb_2 (List.mem_of_getElem? (i := 238) (by decide +kernel)) rfl
theorem ls_t5 : Cond.instantiable RX5 11 ∈ lw_T := tb_1 (List.mem_of_getElem? (i := 121) (by decide +kernel)) rfl
theorem ls_t6 : Cond.instantiable RX6 14 ∈ lw_T := tb_1 (List.mem_of_getElem? (i := 182) (by decide +kernel)) rfl
theorem ls_t7 : Cond.instantiable RX7 4 ∈ lw_T := tb_1 (List.mem_of_getElem? (i := 37) (by decide +kernel)) rfl
theorem ls_t8 : Cond.instantiable RX8 11 ∈ lw_T := tb_1 (List.mem_of_getElem? (i := 235) (by decide +kernel)) rfl
theorem ls_t9 : Cond.instantiable RX9 4 ∈ lw_T := tb_4 (List.mem_of_getElem? (i := 196) (by decide +kernel)) rfl
theorem ls_t10 : Cond.instantiable RX10 10 ∈ lw_T := tb_1 (List.mem_of_getElem? (i := 31) (by decide +kernel)) rfl
theorem ls_t11 : Cond.instantiable RX11 20 ∈ lw_T := tb_1 (List.mem_of_getElem? (i := 23) (by decide +kernel)) rfl
theorem ls_t12 : Cond.instantiable RX12 79 ∈ lw_T := tb_6 (List.mem_of_getElem? (i := 213) (by decide +kernel)) rfl
/-- what is fixed all through the law's run -/
theorem ls_C {p : Program} {s : State} {m : MethodId} {meth : Method} {c : Code} {b L : Nat} {xs : Nat → Int32} (C0 : lw_At p s m meth c b L xs) : ∃ g : ab_G, lw_C p s m meth c g b L xs := by
  obtain ⟨hx, hb, hr, hml, hown, hts, hX, hbl, hlocks, hgv⟩ := C0
  have hA : ∀ a : Nat, a < s.heap.size → ¬ (fun q : Nat => s.heap.size ≤ q) a := fun a h => Nat.not_le.mpr h
  have ht : ∀ w ∈ lw_T, w.before #[Value.ref b] s = true := fun w hw => hts w (lw_inT hw)
  have hg : ∀ (i : Nat) (w : Cond), gN[i]? = some w → w.before #[Value.ref b] s = true := fun i w hw => flat_of_before _ hgv w (List.mem_of_getElem? hw)
  -- classes
  have hcl : ∀ k : Nat, ∃ q : ClassId × (Nat → Nat), ∀ r : vw_C, vwCl[k]? = some r → u_Kn s r.1 r.2.1 r.2.2 q.1 q.2 := by
    intro k
    by_cases hk : k < 13
    · have : ∃ (cC : ClassId) (iS : Nat → Nat), ∀ r : vw_C, vwCl[k]? = some r → u_Kn s r.1 r.2.1 r.2.2 cC iS := by
        rcases (show k = 0 ∨ k = 1 ∨ k = 2 ∨ k = 3 ∨ k = 4 ∨ k = 5 ∨ k = 6 ∨ k = 7 ∨ k = 8 ∨ k = 9 ∨ k = 10 ∨ k = 11 ∨ k = 12 by omega) with rfl | rfl | rfl | rfl | rfl | rfl | rfl | rfl | rfl | rfl | rfl | rfl | rfl
        · obtain ⟨cC, iS, h⟩ := u_known (C := RX0) (T := TX0) (N := 13) (n := 13) ht inT0 (ht _ ls_t0)
          exact ⟨cC, iS, fun r hr => by cases hr; exact h⟩
        · obtain ⟨cC, iS, h⟩ := u_known (C := RX1) (T := TX1) (N := 18) (n := 18) ht inT1 (ht _ ls_t1)
          exact ⟨cC, iS, fun r hr => by cases hr; exact h⟩
        · obtain ⟨cC, iS, h⟩ := u_known (C := RX2) (T := TX2) (N := 3) (n := 3) ht inT2 (ht _ ls_t2)
          exact ⟨cC, iS, fun r hr => by cases hr; exact h⟩
        · obtain ⟨cC, iS, h⟩ := u_known (C := RX3) (T := TX3) (N := 20) (n := 20) ht inT3 (ht _ ls_t3)
          exact ⟨cC, iS, fun r hr => by cases hr; exact h⟩
        · obtain ⟨cC, iS, h⟩ := u_known (C := RX4) (T := TX4) (N := 16) (n := 16) ht inT4 (ht _ ls_t4)
          exact ⟨cC, iS, fun r hr => by cases hr; exact h⟩
        · obtain ⟨cC, iS, h⟩ := u_known (C := RX5) (T := TX5) (N := 11) (n := 11) ht inT5 (ht _ ls_t5)
          exact ⟨cC, iS, fun r hr => by cases hr; exact h⟩
        · obtain ⟨cC, iS, h⟩ := u_known (C := RX6) (T := TX6) (N := 14) (n := 14) ht inT6 (ht _ ls_t6)
          exact ⟨cC, iS, fun r hr => by cases hr; exact h⟩
        · obtain ⟨cC, iS, h⟩ := u_known (C := RX7) (T := TX7) (N := 4) (n := 4) ht inT7 (ht _ ls_t7)
          exact ⟨cC, iS, fun r hr => by cases hr; exact h⟩
        · obtain ⟨cC, iS, h⟩ := u_known (C := RX8) (T := TX8) (N := 11) (n := 11) ht inT8 (ht _ ls_t8)
          exact ⟨cC, iS, fun r hr => by cases hr; exact h⟩
        · obtain ⟨cC, iS, h⟩ := u_known (C := RX9) (T := TX9) (N := 4) (n := 4) ht inT9 (ht _ ls_t9)
          exact ⟨cC, iS, fun r hr => by cases hr; exact h⟩
        · obtain ⟨cC, iS, h⟩ := u_known (C := RX10) (T := TX10) (N := 10) (n := 10) ht inT10 (ht _ ls_t10)
          exact ⟨cC, iS, fun r hr => by cases hr; exact h⟩
        · obtain ⟨cC, iS, h⟩ := u_known (C := RX11) (T := TX11) (N := 20) (n := 20) ht inT11 (ht _ ls_t11)
          exact ⟨cC, iS, fun r hr => by cases hr; exact h⟩
        · obtain ⟨cC, iS, h⟩ := u_known (C := RX12) (T := TX12) (N := 79) (n := 79) ht inT12 (ht _ ls_t12)
          exact ⟨cC, iS, fun r hr => by cases hr; exact h⟩
      obtain ⟨cC, iS, h⟩ := this
      exact ⟨(cC, iS), h⟩
    · exact ⟨(0, fun _ => 0), fun r hr => by rw [List.getElem?_eq_none (by show 13 ≤ k; omega)] at hr; cases hr⟩
  obtain ⟨G, hG⟩ := Classical.axiomOfChoice hcl
  -- arrays
  obtain ⟨y13, a13⟩ := ls_arr (.inl rfl) (ht _ wa_byte)
  obtain ⟨y14, a14⟩ := ls_arr (.inr (.inl rfl)) (ht _ wa_int)
  obtain ⟨y15, a15⟩ := ls_arr (.inr (.inr (.inl rfl))) (ht _ wa_long)
  obtain ⟨y16, a16⟩ := ls_arr (.inr (.inr (.inr rfl))) (ht _ wa_boolean)
  have o9 : va_AO RX9 s := va_AO.of (hts _ ls_o9)
  have o10 : va_AO RX10 s := va_AO.of (hts _ ls_o10)
  obtain ⟨y17, a17⟩ := ls_arrO o9
  obtain ⟨y18, a18⟩ := ls_arrO o10
  -- the text
  have k0a : ∀ i : Nat, i < 1 → ([133] : List Nat).getD i 0 < 2 ^ 31 := fun i hi => by
    have : i = 0 := by omega
    subst this
    decide
  have k0b : ∀ i : Nat, i < 1 → (Cond.eq (.length (.field kT "java/lang/String" "value" "[B")) (.int (Int32.ofNat (([133] : List Nat).getD i 0)))).before #[Value.ref b] s = true := fun i hi => by
    have : i = 0 := by omega
    subst this
    exact hg 38 _ gn_le
  have k0c : ∀ i : Nat, i < 1 → ∀ j : Nat, j < ([133] : List Nat).getD i 0 → (Cond.eq (.elem (.field kT "java/lang/String" "value" "[B") (.int (Int32.ofNat j))) (.int ((([ab_kw] : List (List Int32)).getD i []).getD j 0))).before #[Value.ref b] s = true := fun i hi j hj => by
    have : i = 0 := by omega
    subst this
    exact hg _ _ (gn_el j hj)
  obtain ⟨adK, adV, v1, v2⟩ := vk_Sof (args := #[Value.ref b]) (s := s) (N := 1) (tm := fun _ => kT) (len := [133]) (byt := [ab_kw]) (A := fun q => s.heap.size ≤ q) k0a (fun i hi => hg 35 _ gn_ex) (fun i hi => hg 36 _ gn_co) (fun i hi => hg 37 _ gn_ar)
    k0b k0c (fun i j hi hj hne => absurd (by omega) hne) hA
  have e2 := v2 0 (by decide)
  have vR : vk_R RX5 96 ab_kwt (adK 0) s := vk_R.of (hts _ ls_sr) e2
  have z3 : va_Z RJ0 "COMPACT_STRINGS" "Z" (.int 1) (fun q => s.heap.size ≤ q) s s.heap := va_Zof (hts _ ls_l0) (hts _ ls_i0) (va_eqi (hg 4 _ gn_cs)) hA
  have z4 : va_Zq RJ3 "SIOOBE_FORMATTER" "Ljava/util/function/BiFunction;" (fun q => s.heap.size ≤ q) s s.heap := va_Zqof (hts _ ls_l3) (hts _ ls_i3) (hg 5 _ gn_si) hA
  refine ⟨((fun k => (G k).1, fun k => (G k).2), fun k => if k = 13 then y13 else if k = 14 then y14 else if k = 15 then y15 else if k = 16 then y16 else if k = 17 then y17 else y18, adK 0, adV 0), hx, hb, hml, hown, hts, hX, hbl, ⟨fun k q hq => hG k q hq, fun k q hq => ?_⟩, ⟨⟨fun i hi => ?_, fun i j hi hj _ => by omega⟩, vR, z3, z4, va_Nw.of rfl (hts _ ls_n1), va_Nw.of rfl (hts _ ls_n2), va_Nw.of rfl (hts _ ls_n3), va_Nw.of rfl (hts _ ls_n4), o9, o10, va_Nw.of rfl (hts _ ls_ca)⟩, hr, hlocks⟩
  · rcases Nat.lt_or_ge k 6 with z | z
    · rcases (show k = 0 ∨ k = 1 ∨ k = 2 ∨ k = 3 ∨ k = 4 ∨ k = 5 by omega) with rfl | rfl | rfl | rfl | rfl | rfl
      · cases hq; exact a13
      · cases hq; exact a14
      · cases hq; exact a15
      · cases hq; exact a16
      · cases hq; exact a17
      · cases hq; exact a18
    · rw [List.getElem?_eq_none (by show 6 ≤ k; exact z)] at hq; cases hq
  · have : i = 0 := by omega
    subst this
    exact v1.1 0 (by decide)
theorem ls_S {g : ab_G} {s : State} : lw_S g s (fun _ => 0) s.heap [] (dn []) := by
  refine ⟨⟨fun k q hk => ?_, fun a b ha => iv_no a ha, fun a ha => ?_, fun a j b ha => iv_no a ha⟩, fun a ha => iv_no a ha, va_S.rf⟩
  · have : k < (ab_ws g.2.1 (fun _ => 0) (dn [])).length := (List.getElem?_eq_some_iff.mp hk).1
    rw [ab_ws_len] at this
    exact iv_no k this
  · exfalso
    have : ah_k (dn []) a = 99 := rfl
    omega
