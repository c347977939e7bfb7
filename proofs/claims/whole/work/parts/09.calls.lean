/-! ===== calls ===== -/
theorem ab_goodT (M M' : ab_M) (hc : Cond.code M'.1 M'.2.1 M'.2.2.1 M'.2.2.2.1 ∈ lw_T) : GoodIn (ab_wm M) (ab_wm M') := by
  intro w hw
  rcases List.mem_cons.mp hw with rfl | hw
  · exact ⟨List.mem_cons_of_mem _ hc, good_of_word (List.mem_filter.mp hc).2⟩
  · exact ⟨List.mem_cons_of_mem _ hw, good_of_word (List.mem_filter.mp hw).2⟩
/-- what the tables say of a method that is called: its code, its class is initialised, its name is plain, it has n parameters -/
def ab_Y (M' : ab_M) (n : Nat) : Prop := Cond.code M'.1 M'.2.1 M'.2.2.1 M'.2.2.2.1 ∈ lw_T ∧ Cond.initialized M'.1.cls ∈ lw_T ∧ (M'.1.cls ≠ "java/lang/invoke/MethodHandle" ∧ M'.1.cls ≠ "java/lang/invoke/VarHandle") ∧ (parseMethodDescriptor M'.1.desc).map (fun d => d.parameters.length) = some n ∧ M'.2.2.1 ≤ 40
/-- room for a call -/
def ab_room (M M' : ab_M) (c0 s0 : Nat) (st : List Value) : Prop := M'.2.2.2.2.1 + 1 ≤ M.2.2.2.2.1 ∧ c0 + M'.2.2.2.2.2.1 ≤ M.2.2.2.2.2.1 ∧ s0 + M'.2.2.2.2.2.2 ≤ M.2.2.2.2.2.2 ∧ (st.map fun v => v.category).sum ≤ 8
section CALL
variable {M M' : ab_M} {Q Q' : Option Value → ah_T → Prop} {c0 s0 pc : Nat} {L : List (Option Value)} {st As : List Value} {h : ah_T} {b index : Nat}
theorem ab_cat_map (σ : Nat → Nat) (st : List Value) : ((st.map (ab_v σ)).map fun v => v.category).sum = (st.map fun v => v.category).sum := by
  rw [List.map_map]
  congr 1
  apply List.map_congr_left
  intro v _
  exact ab_v_cat σ v
/-- behind a call -/
theorem ab_back {p : Program} {l : Launch} {e : Env} {s : State} {m : MethodId} {args : Array Value} {below : List Frame} {meth : Method} {c : Code} {g : ab_G} {A : Nat → Prop} {σ0 : Nat → Nat} {n0 : Nat} {σ : Nat → Nat} {H : Heap} {locs : List Loc} {ls : Array Slot} {gst : List Value} {stF : List Value}
    (kk : ∀ r h', Q' r h' → Wp M Q (c0 + M'.2.2.2.2.2.1) (s0 + M'.2.2.2.2.2.2) (pc + 3) L (r.toList ++ st) h') (C : ab_C M p s m args meth c g A) (S : ab_S M g A σ0 n0 s σ H locs ls L stF h) (hst : ab_okS (ah_x h) st)
    (hr : va_Run p l e (ab_rm M) s m args below meth c H locs c0 s0 M'.2.2.2.2.2.1 M'.2.2.2.2.2.2 (F0 m pc ls gst) (st.map (ab_v σ)) (fun st oc t => ab_O g σ (ah_x h) (ab_A σ h H.size) Q' oc t ∧ va_F (ab_A σ h H.size) st t) (ab_A σ h H.size)) :
    W p l e (ab_rm M) s m args below meth c H locs c0 s0 (ab_P below g σ0 n0 A Q args s M.2.2.2.2.2.1 M.2.2.2.2.2.2) (F0 m pc ls gst) := by
  obtain ⟨s1, s2, s3, s4, s5, s6, s7, s8⟩ := S
  intro T hT X
  obtain ⟨v, st₀, t, T', L', h0, X', hL', e1, e2, ⟨⟨r, h', σ', o1, o2, o3, o4, o5, o6, o7⟩, hz, hk⟩, stp⟩ := hr T hT X
  cases o1
  rw [h0] at hz hk
  have hAA : ∀ q, ab_A σ h H.size q → A q := by
    intro q hq
    rcases hq with ⟨a, ha, rfl⟩ | hq
    · exact s4 a ha
    · exact C.2.2.2.2.2.2.2.2.1 q (Nat.le_trans s5.1 hq)
  have hS1 : va_S A s.heap T'.heap (locs ++ L') := by
    refine ⟨Nat.le_trans s5.1 (by rw [e1]; exact hz), fun q g1 g2 => ?_, fun q hq => ?_⟩
    · rw [e1, hk q (Nat.lt_of_lt_of_le g1 s5.1) (fun z => g2 (hAA q z))]
      exact s5.2.1 q g1 g2
    · rcases List.mem_append.mp hq with z | z
      · exact s5.2.2 q z
      · exact hAA _ (hL' q z)
  have hok : ∀ (r : Option Value), ab_okS (ah_x h') r.toList → ab_okS (ah_x h') (r.toList ++ st) := by
    intro r hr'
    cases r with
    | none => exact ab_okS_mono o4 hst
    | some w => exact ⟨hr'.1, ab_okS_mono o4 hst⟩
  have k2 := kk r h' o2 p l e s m args below meth c g A σ0 n0 C σ' T'.heap (locs ++ L') ls ⟨fun a ha => (o3 a (Nat.lt_of_lt_of_le ha s2)).trans (s1 a ha), Nat.le_trans s2 o4, by rw [e1]; exact o5, fun a ha => hAA _ (o6 a ha), hS1, s6.moved o3 s8, hok r o7, ab_okL_mono o4 s8⟩
  obtain ⟨t2, a1, b1⟩ := k2 T' rfl X'
  have e9 : (r.toList ++ st).map (ab_v σ') = (r.map (ab_v σ')).toList ++ st.map (ab_v σ) := by
    rw [List.map_append, ab_v_eqS o3 hst]
    cases r <;> rfl
  rw [e9] at a1
  exact ⟨t2, stp t2 a1, b1⟩
theorem ab_okS_rev {n : Nat} : ∀ {As st : List Value}, ab_okS n (As.reverse ++ st) → ab_okS n As ∧ ab_okS n st := by
  intro As
  have app : ∀ (x y : List Value), ab_okS n (x ++ y) ↔ ab_okS n x ∧ ab_okS n y := by
    intro x
    induction x with
    | nil => intro y; exact ⟨fun q => ⟨trivial, q⟩, fun q => q.2⟩
    | cons v t ih => intro y; exact ⟨fun q => ⟨⟨q.1, ((ih y).mp q.2).1⟩, ((ih y).mp q.2).2⟩, fun q => ⟨q.1.1, (ih y).mpr ⟨q.1.2, q.2⟩⟩⟩
  have rev : ∀ (x : List Value), ab_okS n x.reverse → ab_okS n x := by
    intro x
    induction x with
    | nil => exact fun q => q
    | cons v t ih =>
      intro q
      rw [List.reverse_cons] at q
      obtain ⟨q1, q2⟩ := (app _ _).mp q
      exact ⟨q2.1, ih q1⟩
  intro st q
  obtain ⟨q1, q2⟩ := (app _ _).mp q
  exact ⟨rev As q1, q2⟩
theorem ab_callB {n : Nat} {s : State} {args : Array Value} (hY : ab_Y M' n) (hts : ∀ w ∈ ab_wm M, w.before args s = true) (hl : Cond.methodLink M.1.cls index M'.1 ∈ lw_T) (hroom : M'.2.2.2.2.1 + 1 ≤ M.2.2.2.2.1) :
    CallB (ab_rm M) s args M.1.cls index M'.1 M'.2.1 M'.2.2.1 M'.2.2.2.1 (ab_wm M') (ab_rm M') M'.2.2.2.2.2.1 M'.2.2.2.2.2.2 n :=
  callB_of n hts (ab_goodT M M' hY.1) rfl rfl rfl (hts _ (List.mem_cons_of_mem _ hY.2.1)) (hts _ (List.mem_cons_of_mem _ hl)) ⟨hY.2.2.1.1, hY.2.2.1.2, hY.2.2.2.1⟩ ⟨hroom, by
    show 8 + (M'.2.2.1 + 11) + 60 * M'.2.2.2.2.1 ≤ 60 * M.2.2.2.2.1
    have := hY.2.2.2.2
    omega⟩
/-- a callee's start -/
theorem ab_pre {p : Program} {s : State} {m : MethodId} {args : Array Value} {meth : Method} {c : Code} {g : ab_G} {A : Nat → Prop} {σ0 : Nat → Nat} {n0 : Nat} {σ : Nat → Nat} {H : Heap} {locs : List Loc} {ls : Array Slot} {stF : List Value} (C : ab_C M p s m args meth c g A) (S : ab_S M g A σ0 n0 s σ H locs ls L stF h) (As : List Value) :
    FrameBlind (va_Pc (As.map (ab_v σ)) (fun U => U.heap.size = H.size ∧ ab_R g σ h U.heap ∧ va_K g.1 vwCl (ab_tys g.2.1) U ∧ ab_Z g (ab_A σ h H.size) U U.heap)) ∧
    ∀ U : State, U.heap = H → s.WarmedH U.vm → va_Pc (As.map (ab_v σ)) (fun U => U.heap.size = H.size ∧ ab_R g σ h U.heap ∧ va_K g.1 vwCl (ab_tys g.2.1) U ∧ ab_Z g (ab_A σ h H.size) U U.heap) (As.map (ab_v σ)).toArray U := by
  refine ⟨fun a U f mk q => ?_, fun U hU hW => ⟨rfl, by rw [hU], by rw [hU]; exact S.2.2.1, va_K.moved hW.alike C.2.2.2.2.2.2.2.1, ?_⟩⟩
  · obtain ⟨q0, q1, q2, q3, q4⟩ := q
    exact ⟨q0, q1, q2, va_K.moved (u := U) (U := U.calling f mk a) (Vm.Alike.refl U.vm) q3, ab_Z.calling q4⟩
  · refine ab_Z.to C.2.2.2.2.2.2.2.2.2.2 hW hU S.2.2.2.2.1.2.1 (fun q hq => ?_)
    rcases hq with ⟨a, ha, rfl⟩ | hq
    · exact S.2.2.2.1 a ha
    · exact C.2.2.2.2.2.2.2.2.1 q (Nat.le_trans S.2.2.2.2.1.1 hq)
theorem ab_recv {ci : Nat} {CC : String} {p : Program} {s : State} {m : MethodId} {args : Array Value} {meth : Method} {c : Code} {g : ab_G} {A : Nat → Prop} {σ0 : Nat → Nat} {n0 : Nat} {σ : Nat → Nat} {H : Heap} {locs : List Loc} {ls : Array Slot} {stF : List Value} (C : ab_C M p s m args meth c g A) (S : ab_S M g A σ0 n0 s σ H locs ls L stF h) (hk : ah_k h b = ci) (hci : ci < 13) (hcl : vwCl[ci]?.map (fun q => q.1) = some CC) :
    ∃ cellB : Cell, H[σ b]? = some cellB ∧ cellB.vm.isStatics = false ∧ s.vm.findClass CC = some cellB.cls := by
  have s3 := S.2.2.1
  have hb : b < ah_x h := s3.2.2.1 b (by rw [hk]; omega)
  cases hq : vwCl[ci]? with
  | none => rw [hq] at hcl; cases hcl
  | some r =>
    rw [hq] at hcl
    have hr : r.1 = CC := Option.some.inj hcl
    have he : (ab_ws g.2.1 σ h)[b]? = some (σ b, .inr (ci, ab_fs σ h b ci)) := by rw [ab_ws_at hb, ab_E_obj hk hci]
    obtain ⟨r', h1, cell, q1, q2, q3, -⟩ := s3.1 b _ he
    have : r' = r := Option.some.inj (h1.symm.trans hq)
    subst this
    refine ⟨cell, q1, by rw [q3]; rfl, ?_⟩
    rw [q2, ← hr]
    exact (C.2.2.2.2.2.2.2.1.1 ci r' hq).2.1
theorem ab_callV {n ci : Nat} (hM : Mt M' (.ref b :: As) h Q') (hY : ab_Y M' n) (hl : Cond.methodLink M.1.cls index M'.1 ∈ lw_T) (hin : Cond.instanceMethod M'.1 ∈ lw_T) (hse : Cond.selects M'.1.cls M'.1 M'.1 ∈ lw_T) (hk : ah_k h b = ci) (hci : ci < 13) (hcl : vwCl[ci]?.map (fun q => q.1) = some M'.1.cls) (hn : As.length = n) (hroom : ab_room M M' c0 s0 st)
    (d : decode M.2.1 pc = .ok (.invokevirtual index, 3)) (kk : ∀ r h', Q' r h' → Wp M Q (c0 + M'.2.2.2.2.2.1) (s0 + M'.2.2.2.2.2.2) (pc + 3) L (r.toList ++ st) h') : Wp M Q c0 s0 pc L (As.reverse ++ .ref b :: st) h := by
  intro p l e s m args below meth c g A σ0 n0 C σ H locs ls S
  obtain ⟨ok1, ok2⟩ := ab_okS_rev S.2.2.2.2.2.2.1
  have hts := C.2.2.2.2.2.2.1
  have hpre := ab_pre C S (.ref b :: As)
  have hrun := va_runV (b := σ b) (As := As.map (ab_v σ)) (rest := st.map (ab_v σ)) (g := F0 m pc ls ((As.reverse ++ .ref b :: st).map (ab_v σ))) (below := below) (meth := meth) (locs := locs) (cells := c0) (slots := s0) (e := e) (H := H) (C := M'.1.cls) (n := n) ⟨C.1, C.2.1, C.2.2.1, C.2.2.2.2.2.1, hts⟩ (hM l g σ H.size ⟨ok2.1, ok1⟩) ⟨ab_callB hY hts hl hroom.1, hts _ (List.mem_cons_of_mem _ hin), hts _ (List.mem_cons_of_mem _ hse)⟩ ⟨hpre.1, ab_recv C S hk hci hcl, hpre.2⟩ rfl (by rw [List.length_map]; exact hn) S.2.2.2.2.2.1.1 (by show (As.reverse ++ Value.ref b :: st).map (ab_v σ) = _; rw [List.map_append, List.map_reverse]; rfl) (lv_room (by rw [ab_cat_map]; exact hroom.2.2.2)) d ⟨hroom.2.1, hroom.2.2.1⟩
  exact ab_back kk C S ok2.2 hrun
theorem ab_callS {n : Nat} (hM : Mt M' As h Q') (hY : ab_Y M' n) (hl : Cond.methodLink M.1.cls index M'.1 ∈ lw_T) (hst : Cond.static M'.1 ∈ lw_T) (hn : As.length = n) (hroom : ab_room M M' c0 s0 st)
    (d : decode M.2.1 pc = .ok (.invokestatic index, 3)) (kk : ∀ r h', Q' r h' → Wp M Q (c0 + M'.2.2.2.2.2.1) (s0 + M'.2.2.2.2.2.2) (pc + 3) L (r.toList ++ st) h') : Wp M Q c0 s0 pc L (As.reverse ++ st) h := by
  intro p l e s m args below meth c g A σ0 n0 C σ H locs ls S
  obtain ⟨ok1, ok2⟩ := ab_okS_rev S.2.2.2.2.2.2.1
  have hts := C.2.2.2.2.2.2.1
  have hpre := ab_pre C S As
  have hrun := va_runS (As := As.map (ab_v σ)) (rest := st.map (ab_v σ)) (g := F0 m pc ls ((As.reverse ++ st).map (ab_v σ))) (below := below) (meth := meth) (locs := locs) (cells := c0) (slots := s0) (e := e) (H := H) (n := n) ⟨C.1, C.2.1, C.2.2.1, C.2.2.2.2.2.1, hts⟩ (hM l g σ H.size ok1) ⟨ab_callB hY hts hl hroom.1, hts _ (List.mem_cons_of_mem _ hst)⟩ ⟨hpre.1, hpre.2⟩ rfl (by rw [List.length_map]; exact hn) S.2.2.2.2.2.1.1 (by show (As.reverse ++ st).map (ab_v σ) = _; rw [List.map_append, List.map_reverse]) (lv_room (by rw [ab_cat_map]; exact hroom.2.2.2)) d ⟨hroom.2.1, hroom.2.2.1⟩
  exact ab_back kk C S ok2 hrun
theorem ab_callI {n : Nat} (hM : Mt M' (.ref b :: As) h Q') (hY : ab_Y M' n) (hret : M'.2.2.2.1 = none) (hni : M'.1.name = "<init>") (hl : Cond.methodLink M.1.cls index M'.1 ∈ lw_T) (hin : Cond.instanceMethod M'.1 ∈ lw_T) (hn : As.length = n) (hroom : ab_room M M' c0 s0 st)
    (d : decode M.2.1 pc = .ok (.invokespecial index, 3)) (kk : ∀ r h', Q' r h' → Wp M Q (c0 + M'.2.2.2.2.2.1) (s0 + M'.2.2.2.2.2.2) (pc + 3) L (r.toList ++ st) h') : Wp M Q c0 s0 pc L (As.reverse ++ .ref b :: st) h := by
  intro p l e s m args below meth c g A σ0 n0 C σ H locs ls S
  obtain ⟨ok1, ok2⟩ := ab_okS_rev S.2.2.2.2.2.2.1
  have hts := C.2.2.2.2.2.2.1
  have hpre := ab_pre C S (.ref b :: As)
  have cb := ab_callB hY hts hl hroom.1
  rw [hret] at cb
  have hrun := va_runI (b := σ b) (As := As.map (ab_v σ)) (rest := st.map (ab_v σ)) (g := F0 m pc ls ((As.reverse ++ .ref b :: st).map (ab_v σ))) (below := below) (meth := meth) (locs := locs) (cells := c0) (slots := s0) (e := e) (H := H) (n := n) ⟨C.1, C.2.1, C.2.2.1, C.2.2.2.2.2.1, hts⟩ (hM l g σ H.size ⟨ok2.1, ok1⟩) ⟨cb, hni, hts _ (List.mem_cons_of_mem _ hin)⟩ ⟨hpre.1, hpre.2⟩ rfl (by rw [List.length_map]; exact hn) S.2.2.2.2.2.1.1 (by show (As.reverse ++ Value.ref b :: st).map (ab_v σ) = _; rw [List.map_append, List.map_reverse]; rfl) (lv_room (by rw [ab_cat_map]; exact hroom.2.2.2)) d ⟨hroom.2.1, hroom.2.2.1⟩
  exact ab_back kk C S ok2.2 hrun
theorem ab_nest {n : Nat} {host : String} {s : State} {args : Array Value} (hY : ab_Y M' n) (hts : ∀ w ∈ ab_wm M, w.before args s = true) (hl : va_Nw (.methodLinkNest M.1.cls index M'.1 host) s) (hroom : M'.2.2.2.2.1 + 1 ≤ M.2.2.2.2.1) :
    va_CN (ab_rm M) s args M.1.cls index M'.1 host M'.2.1 M'.2.2.1 M'.2.2.2.1 (ab_wm M') (ab_rm M') M'.2.2.2.2.2.1 M'.2.2.2.2.2.2 n :=
  va_cnB n hts (ab_goodT M M' hY.1) rfl rfl rfl hl (hts _ (List.mem_cons_of_mem _ hY.2.1)) ⟨hY.2.2.1.1, hY.2.2.1.2, hY.2.2.2.1⟩ ⟨hroom, by
    show 8 + (M'.2.2.1 + 11) + 60 * M'.2.2.2.2.1 ≤ 60 * M.2.2.2.2.1
    have := hY.2.2.2.2
    omega⟩
theorem ab_callSN {n : Nat} {host : String} (hM : Mt M' As h Q') (hY : ab_Y M' n) (hl : ∀ g A s, ab_Z g A s s.heap → va_Nw (.methodLinkNest M.1.cls index M'.1 host) s) (hst : Cond.static M'.1 ∈ lw_T) (hn : As.length = n) (hroom : ab_room M M' c0 s0 st)
    (d : decode M.2.1 pc = .ok (.invokestatic index, 3)) (kk : ∀ r h', Q' r h' → Wp M Q (c0 + M'.2.2.2.2.2.1) (s0 + M'.2.2.2.2.2.2) (pc + 3) L (r.toList ++ st) h') : Wp M Q c0 s0 pc L (As.reverse ++ st) h := by
  intro p l e s m args below meth c g A σ0 n0 C σ H locs ls S
  obtain ⟨ok1, ok2⟩ := ab_okS_rev S.2.2.2.2.2.2.1
  have hts := C.2.2.2.2.2.2.1
  have hpre := ab_pre C S As
  have hrun := va_runSN (As := As.map (ab_v σ)) (rest := st.map (ab_v σ)) (g := F0 m pc ls ((As.reverse ++ st).map (ab_v σ))) (below := below) (meth := meth) (locs := locs) (cells := c0) (slots := s0) (e := e) (H := H) (n := n) ⟨C.1, C.2.1, C.2.2.1, C.2.2.2.2.2.1, hts⟩ (hM l g σ H.size ok1) ⟨ab_nest hY hts (hl g A s C.2.2.2.2.2.2.2.2.2.2) hroom.1, hts _ (List.mem_cons_of_mem _ hst), trivial⟩ ⟨hpre.1, hpre.2⟩ rfl (by rw [List.length_map]; exact hn) S.2.2.2.2.2.1.1 (by show (As.reverse ++ st).map (ab_v σ) = _; rw [List.map_append, List.map_reverse]) (lv_room (by rw [ab_cat_map]; exact hroom.2.2.2)) d ⟨hroom.2.1, hroom.2.2.1⟩
  exact ab_back kk C S ok2 hrun
theorem ab_callIN {n : Nat} {host : String} (hM : Mt M' (.ref b :: As) h Q') (hY : ab_Y M' n) (hret : M'.2.2.2.1 = none) (hni : M'.1.name = "<init>") (hl : ∀ g A s, ab_Z g A s s.heap → va_Nw (.methodLinkNest M.1.cls index M'.1 host) s) (hin : Cond.instanceMethod M'.1 ∈ lw_T) (hn : As.length = n) (hroom : ab_room M M' c0 s0 st)
    (d : decode M.2.1 pc = .ok (.invokespecial index, 3)) (kk : ∀ r h', Q' r h' → Wp M Q (c0 + M'.2.2.2.2.2.1) (s0 + M'.2.2.2.2.2.2) (pc + 3) L (r.toList ++ st) h') : Wp M Q c0 s0 pc L (As.reverse ++ .ref b :: st) h := by
  intro p l e s m args below meth c g A σ0 n0 C σ H locs ls S
  obtain ⟨ok1, ok2⟩ := ab_okS_rev S.2.2.2.2.2.2.1
  have hts := C.2.2.2.2.2.2.1
  have hpre := ab_pre C S (.ref b :: As)
  have cb := ab_nest hY hts (hl g A s C.2.2.2.2.2.2.2.2.2.2) hroom.1
  rw [hret] at cb
  have hrun := va_runIN (b := σ b) (As := As.map (ab_v σ)) (rest := st.map (ab_v σ)) (g := F0 m pc ls ((As.reverse ++ .ref b :: st).map (ab_v σ))) (below := below) (meth := meth) (locs := locs) (cells := c0) (slots := s0) (e := e) (H := H) (n := n) ⟨C.1, C.2.1, C.2.2.1, C.2.2.2.2.2.1, hts⟩ (hM l g σ H.size ⟨ok2.1, ok1⟩) ⟨cb, hni, hts _ (List.mem_cons_of_mem _ hin)⟩ ⟨hpre.1, hpre.2⟩ rfl (by rw [List.length_map]; exact hn) S.2.2.2.2.2.1.1 (by show (As.reverse ++ Value.ref b :: st).map (ab_v σ) = _; rw [List.map_append, List.map_reverse]; rfl) (lv_room (by rw [ab_cat_map]; exact hroom.2.2.2)) d ⟨hroom.2.1, hroom.2.2.1⟩
  exact ab_back kk C S ok2.2 hrun
/-- Object.<init> -/
theorem ab_obj {a : Nat} (hl : Cond.methodLink M.1.cls index objectInit ∈ lw_T) (hin : Cond.instanceMethod objectInit ∈ lw_T) (hco : Cond.code objectInit ⟨#[0xb1]⟩ 1 none ∈ lw_T) (hd : 1 ≤ M.2.2.2.2.1) (hr : (st.map fun v => v.category).sum ≤ 20) (d : decode M.2.1 pc = .ok (.invokespecial index, 3)) (kk : Wp M Q c0 s0 (pc + 3) L st h) : Wp M Q c0 s0 pc L (.ref a :: st) h := by
  intro p l e s m args below meth c g A σ0 n0 C σ H locs ls S
  obtain ⟨s1, s2, s3, s4, s5, s6, s7, s8⟩ := S
  have hts : ∀ w ∈ lw_T, w.before args s = true := fun w hw => C.2.2.2.2.2.2.1 w (List.mem_cons_of_mem _ hw)
  refine W.objInit (own := M.1.cls) (g := F0 m pc ls ((.ref a :: st).map (ab_v σ))) C.1 C.2.1 C.2.2.2.2.2.1 (hts _ hl) (hts _ hin) (hts _ hco) rfl (s6.1.trans C.2.2.1.symm) (rest := st.map (ab_v σ)) rfl d hd (by
    show 2 * 0 + ((st.map (ab_v σ)).map fun v => v.category).sum + 12 ≤ 60 * M.2.2.2.2.1
    rw [ab_cat_map]; omega) (kk p l e s m args below meth c g A σ0 n0 C σ H locs ls ⟨s1, s2, s3, s4, s5, s6, s7.2, s8⟩)
end CALL
theorem Mt.mono {M : ab_M} {as : List Value} {h : ah_T} {Q Q' : Option Value → ah_T → Prop} (hQ : ∀ r h, Q r h → Q' r h) (k : Mt M as h Q) : Mt M as h Q' := by
  intro l g σ sz hok p e ha hc hk s m args below hf happ hP hK
  obtain ⟨k', o, h1, h2, h3, ⟨h4, h5⟩, h6⟩ := k l g σ sz hok p e ha hc hk s m args below hf happ hP hK
  exact ⟨k', o, h1, h2, h3, ⟨ab_O.mono hQ h4, h5⟩, h6⟩
