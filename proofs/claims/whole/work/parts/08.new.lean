/-! ===== rows of instructions: new cells, natives ===== -/
/-- a class as a constant pool names it, of which objects can be made -/
def ab_CL (own : String) (index ci : Nat) : Prop := ∃ (C : String) (T : u_T) (N : Nat), vwCl[ci]? = some (C, T, N) ∧ ci < 13 ∧ ab_N ci = N ∧ (∀ w ∈ u_ws C T N, w ∈ lw_T) ∧ (∀ k, k < N → parseFieldDescriptor (T k).2.2.1 = some (ab_ty ci k)) ∧ Cond.classLink own index C ∈ lw_T ∧ Cond.instantiable C N ∈ lw_T ∧ Cond.initialized C ∈ lw_T ∧ ∀ k, k < N → ab_ty ci k ≠ .float ∧ ab_ty ci k ≠ .double
theorem ab_E_moved {y : Nat → ClassId} {σ σ' : Nat → Nat} {h h' : ah_T} {b : Nat} (h1 : ah_k h' b = ah_k h b) (h2 : ah_n h' b = ah_n h b) (h3 : ∀ j, ah_i h' b j = ah_i h b j) (h4 : ∀ j, ah_l h' b j = ah_l h b j) (h5 : ∀ j, (ah_r h' b j).map σ' = (ah_r h b j).map σ) : ab_E y σ' h' b = ab_E y σ h b := by
  have e3 : ah_i h' b = ah_i h b := funext h3
  have e4 : ah_l h' b = ah_l h b := funext h4
  have e5 : ∀ c, ab_fs σ' h' b c = ab_fs σ h b c := fun c => by
    unfold ab_fs
    apply List.map_congr_left
    intro k _
    unfold ab_fv
    rw [h3, h4, h5]
  have e6 : (fun j => (ah_r h' b j).map σ') = (fun j => (ah_r h b j).map σ) := funext h5
  unfold ab_E
  rw [h1, h2, e3, e4, e5, e6]
section NEW
variable {M : ab_M} {Q : Option Value → ah_T → Prop} {c0 s0 pc : Nat} {L : List (Option Value)} {st : List Value} {h : ah_T} {a : Nat}
/-- behind the making of a cell -/
theorem ab_goN {p : Program} {l : Launch} {e : Env} {s : State} {m : MethodId} {args : Array Value} {below : List Frame} {meth : Method} {c : Code} {g : ab_G} {A : Nat → Prop} {σ0 : Nat → Nat} {n0 : Nat} {σ : Nat → Nat} {H H1 : Heap} {locs locs1 : List Loc} {ls : Array Slot} {pc' c1 s1 q : Nat} {st' : List Value} {h' : ah_T} {ev : va_E}
    (kk : Wp M Q c1 s1 pc' L (.ref (ah_x h) :: st') h') (C : ab_C M p s m args meth c g A) (S : ab_S M g A σ0 n0 s σ H locs ls L st h) (hst : ab_okS (ah_x h) st') (hx : ah_x h' = ah_x h + 1) (e1 : ∀ b, b ≠ ah_x h → ah_k h' b = ah_k h b) (e2 : ∀ b, b ≠ ah_x h → ah_n h' b = ah_n h b) (e3 : ∀ b j, b ≠ ah_x h → ah_i h' b j = ah_i h b j) (e4 : ∀ b j, b ≠ ah_x h → ah_l h' b j = ah_l h b j) (e5 : ∀ b j, b ≠ ah_x h → ah_r h' b j = ah_r h b j) (e6 : ∀ j, ah_r h' (ah_x h) j = none)
    (he : ∀ σ', ab_E g.2.1 σ' h' (ah_x h) = ev) (hP1 : va_P g.1 vwCl (ab_ws g.2.1 σ h ++ [(q, ev)]) H1) (hD1 : va_D A (ab_ws g.2.1 σ h ++ [(q, ev)])) (hS1 : va_S A s.heap H1 locs1) :
    W p l e (ab_rm M) s m args below meth c H1 locs1 c1 s1 (ab_P below g σ0 n0 A Q args s M.2.2.2.2.2.1 M.2.2.2.2.2.2) (F0 m pc' ls (.ref q :: st'.map (ab_v σ))) := by
  obtain ⟨s1', s2, s3, s4, s5, s6, s7, s8⟩ := S
  have hσ : ∀ b, b < ah_x h → ah_u1 σ (ah_x h) q b = σ b := fun b hb => if_neg (by omega)
  have hq : ah_u1 σ (ah_x h) q (ah_x h) = q := if_pos rfl
  have hw : ab_ws g.2.1 σ h ++ [(q, ev)] = ab_ws g.2.1 (ah_u1 σ (ah_x h) q) h' := by
    refine ab_ws_new hx q ev hq (he _) (fun b hb => ⟨hσ b hb, ?_⟩)
    have hne : b ≠ ah_x h := by omega
    refine ab_E_moved (e1 b hne) (e2 b hne) (fun j => e3 b j hne) (fun j => e4 b j hne) (fun j => ?_)
    rw [e5 b j hne]
    cases hr : ah_r h b j with
    | none => rfl
    | some z => exact congrArg some (hσ z (s3.2.2.2 b j z hb hr))
  rw [hw] at hP1 hD1
  have k2 := kk p l e s m args below meth c g A σ0 n0 C (ah_u1 σ (ah_x h) q) H1 locs1 ls ⟨fun b hb => (hσ b (Nat.lt_of_lt_of_le hb s2)).trans (s1' b hb), by rw [hx]; omega, ⟨hP1, fun b b' hb hb' hbb => ?_, fun b hb => ?_, fun b j z hb hz => ?_⟩, fun b hb => hD1.2 b _ (ab_ws_at hb), hS1, s6.moved hσ s8, ⟨by show ah_x h < ah_x h'; rw [hx]; omega, ab_okS_mono (by rw [hx]; omega) hst⟩, ab_okL_mono (by rw [hx]; omega) s8⟩
  · rw [List.map_cons, ab_v_eqS hσ hst] at k2
    have e9 : ab_v (ah_u1 σ (ah_x h) q) (.ref (ah_x h)) = .ref q := congrArg Value.ref hq
    rw [e9] at k2
    exact k2
  · exact hD1.1 b b' _ _ (ab_ws_at hb) (ab_ws_at hb') hbb
  · by_cases hbx : b = ah_x h
    · rw [hx, hbx]; omega
    · rw [e1 b hbx] at hb
      have := s3.2.2.1 b hb
      rw [hx]; omega
  · by_cases hbx : b = ah_x h
    · rw [hbx, e6] at hz
      cases hz
    · rw [e5 b j hbx] at hz
      have := s3.2.2.2 b j z (by rw [hx] at hb; omega) hz
      rw [hx]; omega
theorem ab_new {index ci : Nat} (hC : ab_CL M.1.cls index ci) (hc : c0 + 1 ≤ M.2.2.2.2.2.1) (hs : s0 + ab_N ci ≤ M.2.2.2.2.2.2) (d : decode M.2.1 pc = .ok (.new index, 3)) (kk : Wp M Q (c0 + 1) (s0 + ab_N ci) (pc + 3) L (.ref (ah_x h) :: st) (ah_nw h ci 0)) : Wp M Q c0 s0 pc L st h := by
  intro p l e s m args below meth c g A σ0 n0 C σ H locs ls S
  have s3 := S.2.2.1
  obtain ⟨CC, T, N, f1, f2, f3, f4, f5, f6, f7, f8, f9⟩ := hC
  have hts : ∀ w ∈ lw_T, w.before args s = true := fun w hw => C.2.2.2.2.2.2.1 w (List.mem_cons_of_mem _ hw)
  rw [f3] at hs kk
  have hfs : ∀ σ', ab_fs σ' (ah_nw h ci 0) (ah_x h) ci = ab_fs σ (ah_nw h ci 0) (ah_x h) ci := fun σ' => by
    unfold ab_fs
    apply List.map_congr_left
    intro k _
    unfold ab_fv
    rw [ah_r_nw, if_pos rfl]
    rfl
  refine va_new (D := g.1) (cl := vwCl) (ci := ci) (C := CC) (T := T) (N := N) (own := M.1.cls) (fs := ab_fs σ (ah_nw h ci 0) (ah_x h) ci) C.1 C.2.1 hts f4 (ab_ty ci) f5 C.2.2.2.2.2.1 (hts _ f6) (hts _ f7) (hts _ f8) C.2.2.2.2.2.2.2.1 s3.1 (s3.D S.2.2.2.1) S.2.2.2.2.1 C.2.2.2.2.2.2.2.2.1 f1 ?_ hc hs d fun q H1 hP1 hD1 hS1 => ?_
  · intro j hj
    unfold vp_V
    rw [List.getD_eq_getElem?_getD, ab_fs_at (by rw [f3]; exact hj)]
    show _ = ab_fv σ (ah_nw h ci 0) (ah_x h) j (ab_ty ci j)
    unfold ab_fv
    rw [ah_i_nw, ah_l_nw, ah_r_nw, if_pos rfl, if_pos rfl, if_pos rfl]
    have hno := f9 j hj
    cases hty : ab_ty ci j with
    | float => exact absurd hty hno.1
    | double => exact absurd hty hno.2
    | _ => rfl
  · exact ab_goN kk C S S.2.2.2.2.2.2.1 rfl (fun b hb => by rw [ah_k_nw, if_neg hb]) (fun b hb => by rw [ah_n_nw, if_neg hb]) (fun b j hb => by rw [ah_i_nw, if_neg hb]) (fun b j hb => by rw [ah_l_nw, if_neg hb]) (fun b j hb => by rw [ah_r_nw, if_neg hb]) (fun j => by rw [ah_r_nw, if_pos rfl]) (fun σ' => by rw [ab_E_obj (ci := ci) (by rw [ah_k_nw, if_pos rfl]) f2, hfs]) hP1 hD1 hS1
theorem ab_newa {atype : ArrayType} {n : Int32} {N : Nat} (ck t0 : Nat) (ty : FieldType) (hck : (ck = 13 ∧ t0 = 0 ∧ ty = .byte) ∨ (ck = 14 ∧ t0 = 1 ∧ ty = .int) ∨ (ck = 15 ∧ t0 = 2 ∧ ty = .long) ∨ (ck = 16 ∧ t0 = 3 ∧ ty = .boolean)) (hty : newarray.typeOf atype = ty) (hw : Cond.arrayClass ty ∈ lw_T) (hn : ¬ n < 0) (hN : n.toNatClampNeg = N) (hbytes : N * componentBytes ty ≤ 536870912)
    (hc : c0 + 1 ≤ M.2.2.2.2.2.1) (hs : s0 + N ≤ M.2.2.2.2.2.2) (d : decode M.2.1 pc = .ok (.newarray atype, 2)) (kk : Wp M Q (c0 + 1) (s0 + N) (pc + 2) L (.ref (ah_x h) :: st) (ah_nw h ck N)) : Wp M Q c0 s0 pc L (.int n :: st) h := by
  intro p l e s m args below meth c g A σ0 n0 C σ H locs ls S
  have s3 := S.2.2.1
  have hts : ∀ w ∈ lw_T, w.before args s = true := fun w hw => C.2.2.2.2.2.2.1 w (List.mem_cons_of_mem _ hw)
  have hK := C.2.2.2.2.2.2.2.1
  have ht0 : (ab_tys g.2.1)[t0]? = some (g.2.1 ck, ty) := by
    rcases hck with ⟨q1, q2, q3⟩ | ⟨q1, q2, q3⟩ | ⟨q1, q2, q3⟩ | ⟨q1, q2, q3⟩ <;> subst q1 <;> subst q2 <;> subst q3 <;> rfl
  have hlt : ck < 19 := by omega
  have hk0 : ah_k (ah_nw h ck N) (ah_x h) = ck := by rw [ah_k_nw, if_pos rfl]
  have hn0 : ah_n (ah_nw h ck N) (ah_x h) = N := by rw [ah_n_nw, if_pos rfl]
  have hi0 : ah_i (ah_nw h ck N) (ah_x h) = fun _ => 0 := funext fun j => by rw [ah_i_nw, if_pos rfl]
  have hl0 : ah_l (ah_nw h ck N) (ah_x h) = fun _ => 0 := funext fun j => by rw [ah_l_nw, if_pos rfl]
  have key : ∃ a0 : vp_A, a0.1 = N ∧ (∀ cA : ClassId, vp_cell cA a0 = arrV cA N (fun _ => defaultValue ty)) ∧ ∀ σ', ab_E g.2.1 σ' (ah_nw h ck N) (ah_x h) = .inl (g.2.1 ck, a0) := by
    rcases hck with ⟨q1, q2, q3⟩ | ⟨q1, q2, q3⟩ | ⟨q1, q2, q3⟩ | ⟨q1, q2, q3⟩
    · exact ⟨(N, .inl (fun _ => 0)), rfl, fun cA => by rw [q3]; rfl, fun σ' => by rw [ab_E_i hk0 (by omega), hn0, hi0]⟩
    · exact ⟨(N, .inl (fun _ => 0)), rfl, fun cA => by rw [q3]; rfl, fun σ' => by rw [ab_E_i hk0 (by omega), hn0, hi0]⟩
    · subst q1; exact ⟨(N, .inr (.inl (fun _ => 0))), rfl, fun cA => by rw [q3]; rfl, fun σ' => by rw [ab_E_l hk0, hn0, hl0]⟩
    · exact ⟨(N, .inl (fun _ => 0)), rfl, fun cA => by rw [q3]; rfl, fun σ' => by rw [ab_E_i hk0 (by omega), hn0, hi0]⟩
  obtain ⟨a0, -, k1, k2⟩ := key
  refine va_newa (D := g.1) (cl := vwCl) (atype := atype) (ty := ty) (a0 := a0) C.1 C.2.1 (by rw [hty]; exact hts _ hw) hty hK s3.1 (s3.D S.2.2.2.1) S.2.2.2.2.1 C.2.2.2.2.2.2.2.2.1 k1 hn hN hbytes hc hs d fun q cA H1 hK1 hP1 hD1 hS1 => ?_
  have hcA : cA = g.2.1 ck := by
    have h1 := (hK1.2 6 (cA, ty) (by simp [ab_tys])).2
    exact va_RA_det h1 (hK.2 t0 _ ht0).2
  subst hcA
  exact ab_goN kk C S S.2.2.2.2.2.2.1.2 rfl (fun b hb => by rw [ah_k_nw, if_neg hb]) (fun b hb => by rw [ah_n_nw, if_neg hb]) (fun b j hb => by rw [ah_i_nw, if_neg hb]) (fun b j hb => by rw [ah_l_nw, if_neg hb]) (fun b j hb => by rw [ah_r_nw, if_neg hb]) (fun j => by rw [ah_r_nw, if_pos rfl]) k2 hP1 hD1 hS1
theorem ab_newq {index : Nat} {n : Int32} {N : Nat} {CC : String} (ck t0 : Nat) (hck : (ck = 17 ∧ t0 = 4 ∧ CC = RX9) ∨ (ck = 18 ∧ t0 = 5 ∧ CC = RX10)) (hw : Cond.classLink M.1.cls index CC ∈ lw_T) (hn : ¬ n < 0) (hN : n.toNatClampNeg = N) (hbytes : N * 4 ≤ 536870912)
    (hc : c0 + 1 ≤ M.2.2.2.2.2.1) (hs : s0 + N ≤ M.2.2.2.2.2.2) (d : decode M.2.1 pc = .ok (.anewarray index, 3)) (kk : Wp M Q (c0 + 1) (s0 + N) (pc + 3) L (.ref (ah_x h) :: st) (ah_nw h ck N)) : Wp M Q c0 s0 pc L (.int n :: st) h := by
  intro p l e s m args below meth c g A σ0 n0 C σ H locs ls S
  have s3 := S.2.2.1
  have hts : ∀ w ∈ lw_T, w.before args s = true := fun w hw => C.2.2.2.2.2.2.1 w (List.mem_cons_of_mem _ hw)
  have hK := C.2.2.2.2.2.2.2.1
  have ht0 : (ab_tys g.2.1)[t0]? = some (g.2.1 ck, .object CC) := by
    rcases hck with ⟨q1, q2, q3⟩ | ⟨q1, q2, q3⟩ <;> subst q1 <;> subst q2 <;> subst q3 <;> rfl
  have hover : va_AO CC s := by
    obtain ⟨-, -, -, -, -, -, -, -, o1, o2, -⟩ := C.2.2.2.2.2.2.2.2.2.2
    rcases hck with ⟨-, -, q3⟩ | ⟨-, -, q3⟩
    · subst q3; exact o1
    · subst q3; exact o2
  have hk0 : ah_k (ah_nw h ck N) (ah_x h) = ck := by rw [ah_k_nw, if_pos rfl]
  have hn0 : ah_n (ah_nw h ck N) (ah_x h) = N := by rw [ah_n_nw, if_pos rfl]
  refine va_newq (D := g.1) (cl := vwCl) (C := CC) (own := M.1.cls) C.1 C.2.1 C.2.2.2.2.2.1 (hts _ hw) hover hK s3.1 (s3.D S.2.2.2.1) S.2.2.2.2.1 C.2.2.2.2.2.2.2.2.1 hn hN hbytes hc hs d fun q cA H1 hK1 hP1 hD1 hS1 => ?_
  have hcA : cA = g.2.1 ck := by
    have h1 := (hK1.2 6 (cA, .object CC) (by simp [ab_tys])).2
    exact va_RA_det h1 (hK.2 t0 _ ht0).2
  subst hcA
  refine ab_goN kk C S S.2.2.2.2.2.2.1.2 rfl (fun b hb => by rw [ah_k_nw, if_neg hb]) (fun b hb => by rw [ah_n_nw, if_neg hb]) (fun b j hb => by rw [ah_i_nw, if_neg hb]) (fun b j hb => by rw [ah_l_nw, if_neg hb]) (fun b j hb => by rw [ah_r_nw, if_neg hb]) (fun j => by rw [ah_r_nw, if_pos rfl]) (fun σ' => ?_) hP1 hD1 hS1
  rw [ab_E_r hk0 (by omega), hn0]
  have e9 : (fun j => (ah_r (ah_nw h ck N) (ah_x h) j).map σ') = fun _ => none := funext fun j => by rw [ah_r_nw, if_pos rfl]; rfl
  rw [e9]
/-- System.arraycopy on rows of ints -/
theorem ab_copy {index b : Nat} {sp dp n : Int32} (hw : Cond.methodLink M.1.cls index arraycopyName ∈ lw_T) (hw2 : Cond.native arraycopyName ∈ lw_T) (hw3 : Cond.static arraycopyName ∈ lw_T) (hw4 : Cond.initialized "java/lang/System" ∈ lw_T) (hka : ah_k h a = 14) (hkb : ah_k h b = 14)
    (h1 : ¬ sp < 0) (h2 : ¬ dp < 0) (h3 : ¬ n < 0) (h4 : sp.toNatClampNeg + n.toNatClampNeg ≤ ah_n h a) (h5 : dp.toNatClampNeg + n.toNatClampNeg ≤ ah_n h b) (hd : 1 ≤ M.2.2.2.2.1) (hr : (st.map fun v => v.category).sum ≤ 20) (d : decode M.2.1 pc = .ok (.invokestatic index, 3))
    (kk : Wp M Q c0 s0 (pc + 3) L st (ah_sa h b (va_cpy (ah_i h a) (ah_i h b) sp.toNatClampNeg dp.toNatClampNeg n.toNatClampNeg))) : Wp M Q c0 s0 pc L (.int n :: .int dp :: .ref b :: .int sp :: .ref a :: st) h := by
  intro p l e s m args below meth c g A σ0 n0 C σ H locs ls S
  have s3 := S.2.2.1
  have hts : ∀ w ∈ lw_T, w.before args s = true := fun w hw => C.2.2.2.2.2.2.1 w (List.mem_cons_of_mem _ hw)
  have ha : a < ah_x h := s3.2.2.1 a (by rw [hka]; omega)
  have hb : b < ah_x h := s3.2.2.1 b (by rw [hkb]; omega)
  have hcat : ((st.map (ab_v σ)).map fun v => v.category).sum = (st.map fun v => v.category).sum := by
    rw [List.map_map]
    congr 1
    apply List.map_congr_left
    intro v _
    exact ab_v_cat σ v
  refine va_copyi (D := g.1) (cl := vwCl) (own := M.1.cls) C.1 C.2.1 (C.2.2.1.trans S.2.2.2.2.2.1.1.symm) C.2.2.2.2.2.1 (hts _ hw) (hts _ hw2) (hts _ hw3) (hts _ hw4) C.2.2.2.2.2.2.2.1 s3.1 (s3.D S.2.2.2.1) S.2.2.2.2.1 a b 1 1 (a0 := σ a) (c0 := g.2.1 14) (c1 := g.2.1 14) (n0 := ah_n h a) (n1 := ah_n h b) (f := ah_i h a) (g := ah_i h b) (ty := .int)
    (by rw [ab_ws_at ha, ab_E_i hka (by omega)]) (by rw [ab_ws_at hb, ab_E_i hkb (by omega)]) rfl rfl rfl h1 h2 h3 h4 h5 (fun _ _ => rfl) hd (by
      show ((st.map (ab_v σ)).map fun v => v.category).sum + (nativeFrameWords "java/lang/System" "arraycopy" 5 + 11) ≤ 60 * M.2.2.2.2.1
      rw [hcat]
      have : nativeFrameWords "java/lang/System" "arraycopy" 5 ≤ 29 := by decide +kernel
      omega) d fun H1 locs1 hP1 _ hS1 => ?_
  refine ab_go (a := b) (h' := ah_sa h b (va_cpy (ah_i h a) (ah_i h b) sp.toNatClampNeg dp.toNatClampNeg n.toNatClampNeg)) kk C S rfl (fun _ => rfl) (fun _ => rfl) (fun b' j hb' => by rw [ah_i_sa, if_neg hb']) (fun _ _ _ => rfl) (fun _ _ _ => rfl) (fun j q hq => Or.inl hq) S.2.2.2.2.2.2.1.2.2.2.2.2 ?_ hP1 hS1
  rw [ab_E_i (h := ah_sa h b _) (c := 14) hkb (by omega)]
  have e9 : ah_i (ah_sa h b (va_cpy (ah_i h a) (ah_i h b) sp.toNatClampNeg dp.toNatClampNeg n.toNatClampNeg)) b = va_cpy (ah_i h a) (ah_i h b) sp.toNatClampNeg dp.toNatClampNeg n.toNatClampNeg := funext fun j => by rw [ah_i_sa, if_pos rfl]
  rw [e9]
  rfl
/-- clone() of a row of ints -/
theorem ab_clone {index : Nat} (hw : Cond.methodLink M.1.cls index ⟨"[I", "clone", "()Ljava/lang/Object;"⟩ ∈ lw_T) (hw2 : Cond.sameMethod "[I" "java/lang/Object" "clone" "()Ljava/lang/Object;" ∈ lw_T) (hw3 : Cond.native ⟨"java/lang/Object", "clone", "()Ljava/lang/Object;"⟩ ∈ lw_T) (hw4 : Cond.instanceMethod ⟨"java/lang/Object", "clone", "()Ljava/lang/Object;"⟩ ∈ lw_T)
    (hw5 : Cond.selects "[I" ⟨"[I", "clone", "()Ljava/lang/Object;"⟩ ⟨"java/lang/Object", "clone", "()Ljava/lang/Object;"⟩ ∈ lw_T) (hka : ah_k h a = 14) (hd : 1 ≤ M.2.2.2.2.1) (hr : (st.map fun v => v.category).sum ≤ 20) (hc : c0 + 1 ≤ M.2.2.2.2.2.1) (hs : s0 + ah_n h a ≤ M.2.2.2.2.2.2) (d : decode M.2.1 pc = .ok (.invokevirtual index, 3))
    (kk : Wp M Q (c0 + 1) (s0 + ah_n h a) (pc + 3) L (.ref (ah_x h) :: st) (ah_sa (ah_nw h 14 (ah_n h a)) (ah_x h) (ah_i h a))) : Wp M Q c0 s0 pc L (.ref a :: st) h := by
  intro p l e s m args below meth c g A σ0 n0 C σ H locs ls S
  have s3 := S.2.2.1
  have hts : ∀ w ∈ lw_T, w.before args s = true := fun w hw => C.2.2.2.2.2.2.1 w (List.mem_cons_of_mem _ hw)
  have hK := C.2.2.2.2.2.2.2.1
  have ha : a < ah_x h := s3.2.2.1 a (by rw [hka]; omega)
  have hcat : ((st.map (ab_v σ)).map fun v => v.category).sum = (st.map fun v => v.category).sum := by
    rw [List.map_map]
    congr 1
    apply List.map_congr_left
    intro v _
    exact ab_v_cat σ v
  refine va_clone (D := g.1) (cl := vwCl) (own := M.1.cls) (ad := "[I") C.1 C.2.1 (C.2.2.1.trans S.2.2.2.2.2.1.1.symm) C.2.2.2.2.2.1 (hts _ hw) (hts _ hw2) (hts _ hw3) (hts _ hw4) (hts _ hw5) C.2.2.2.2.2.2.2.2.2.2.2.2.2.2.2.2.2.2.2.2 hK s3.1 (s3.D S.2.2.2.1) S.2.2.2.2.1 C.2.2.2.2.2.2.2.2.1 a 1 (cA := g.2.1 14) (x := (ah_n h a, .inl (ah_i h a))) (ty := .int) (by rw [ab_ws_at ha, ab_E_i hka (by omega)]) rfl
    (hK.2 1 _ rfl).2 (fun i v hv => ?_) hd (by
      show ((st.map (ab_v σ)).map fun v => v.category).sum + 14 ≤ 60 * M.2.2.2.2.1
      rw [hcat]; omega) hc hs d fun q H1 hK1 hP1 hD1 hS1 => ?_
  · have hl : i < ah_n h a := by
      have := (Array.getElem?_eq_some_iff.mp hv).1
      rw [vp_cell_i, arrV_size] at this
      exact this
    rw [vp_cell_i, arrV_read _ _ hl] at hv
    cases hv
    rfl
  · refine ab_goN kk C S S.2.2.2.2.2.2.1.2 rfl (fun b hb => by rw [ah_k_sa, ah_k_nw, if_neg hb]) (fun b hb => by rw [ah_n_sa, ah_n_nw, if_neg hb]) (fun b j hb => by rw [ah_i_sa, if_neg hb, ah_i_nw, if_neg hb]) (fun b j hb => by rw [ah_l_sa, ah_l_nw, if_neg hb]) (fun b j hb => by rw [ah_r_sa, ah_r_nw, if_neg hb]) (fun j => by rw [ah_r_sa, ah_r_nw, if_pos rfl]) (fun σ' => ?_) hP1 hD1 hS1
    rw [ab_E_i (h := ah_sa _ _ _) (c := 14) (by rw [ah_k_sa, ah_k_nw, if_pos rfl]) (by omega), ah_n_sa, ah_n_nw, if_pos rfl]
    have e9 : ah_i (ah_sa (ah_nw h 14 (ah_n h a)) (ah_x h) (ah_i h a)) (ah_x h) = ah_i h a := funext fun j => by rw [ah_i_sa, if_pos rfl]
    rw [e9]
end NEW
