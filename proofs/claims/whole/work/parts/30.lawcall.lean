/-! THE CLAIM OUT OF ONE WALK OF THE LAW'S BODY. Your part is whole_start (and what it stands on); all else here is the same for every law, but numbers. -/
def R_law : String := "LampTempersLaw"
def lw_P (b : Addr) (xs : List Int32) (args : Array Value) (s : State) : Prop := args = #[.ref b] ∧ s.IntsAt b xs ∧ xs.length ≤ 3072 ∧ (Jvm.Cond.and given_1 narrow_1).before args s = true
def lw_Q (_ : Array Value) (s : State) (o : Outcome) (t : State) : Prop := o = .returned (some (.int 1)) ∧ Framed s o t [] 600000 7302250
def lw_Z (below : List Frame) (a : Array Value) (s : State) : State → Prop := fun t => ∃ o, t.status = .running ∧ Ended t below o ∧ lw_Q a s o t
/-- the law's own end, with 1 on the stack, nothing written that was there before, its room as the claim has it -/
theorem lw_ret {p : Program} {l : Launch} {e : Env} {s : State} {m : MethodId} {below : List Frame} {meth : Method} {c : Code} {b : Nat} (hx : p.tables.exec = Jvm.exec) (hb : c.code = code) (hr : meth.sig.returnType = ret) (hlocks : meth.locks = false) {pc : Nat} {H : Heap} {ls : Array Slot} (hdg : decode code pc = .ok (.ireturn, 1)) : W p l e room_1 s m #[Value.ref b] below meth c H [] 600000 7302250 (lw_Z below #[Value.ref b] s) (F0 m pc ls [.int 1]) := by
  intro T hT X
  obtain ⟨fs, hret, hrun, hended, hW, hframe⟩ := X.leave (v := some (.int 1)) (hlocks := hlocks) (fun h => by rw [hr] at h; cases h)
  have hmeth' : T.vm.method? m = some meth := X.method'
  refine ⟨T.setFrames fs, ?_, .returned (some (.int 1)), hrun, hended, rfl, ⟨_, rfl⟩, hW, hframe⟩
  jvm_step X.here [X.here.top, hx, hb, hdg, hmeth', hr, ret, narrow_b1]
  (try refine ⟨rfl, ?_⟩); (try refine ⟨rfl, ?_⟩)
  first | (intro acts; rw [hret _ acts rfl rfl rfl]) | rw [hret _ _ rfl rfl rfl]
  exact Steps.refl _
/-- what holds at the law's entry: the machine, the code, the tables' words (any of lw_tbl by 'hts w (by decide +kernel)'), the script of L ints xs at the cell b, what the Statement gives of the start (any of its parts by flat_of_before) -/
def lw_At (p : Program) (s : State) (m : MethodId) (meth : Method) (c : Code) (b L : Nat) (xs : Nat → Int32) : Prop :=
  p.tables.exec = Jvm.exec ∧ c.code = code ∧ meth.sig.returnType = ret ∧ c.maxLocals = 4 ∧ s.vm.findClass R_law = some m.cls ∧ (∀ w ∈ lw_tbl, w.before #[Value.ref b] s = true) ∧ va_X b L xs s s.heap ∧ b < s.heap.size ∧ meth.locks = false ∧ (Jvm.Cond.and given_1 narrow_1).before #[Value.ref b] s = true

/-! ===== the law's own walk: what is fixed, what changes, a call ===== -/
def lw_C (p : Program) (s : State) (m : MethodId) (meth : Method) (c : Code) (g : ab_G) (b L : Nat) (xs : Nat → Int32) : Prop :=
  p.tables.exec = Jvm.exec ∧ c.code = code ∧ c.maxLocals = 4 ∧ s.vm.findClass RL = some m.cls ∧ (∀ w ∈ lw_tbl, w.before #[Value.ref b] s = true) ∧ va_X b L xs s s.heap ∧ b < s.heap.size ∧ va_K g.1 vwCl (ab_tys g.2.1) s ∧ ab_Z g (fun q => s.heap.size ≤ q) s s.heap ∧ meth.sig.returnType = ret ∧ meth.locks = false
def lw_S (g : ab_G) (s : State) (σ : Nat → Nat) (H : Heap) (locs : List Loc) (h : ah_T) : Prop := ab_R g σ h H ∧ (∀ a, a < ah_x h → s.heap.size ≤ σ a) ∧ va_S (fun q => s.heap.size ≤ q) s.heap H locs
theorem lw_inT {w : Cond} (h : w ∈ lw_T) : w ∈ lw_tbl := (List.mem_filter.mp h).1
theorem lw_goodT (M' : ab_M) (hc : Cond.code M'.1 M'.2.1 M'.2.2.1 M'.2.2.2.1 ∈ lw_T) : GoodIn lw_tbl (ab_wm M') := by
  intro w hw
  rcases List.mem_cons.mp hw with rfl | hw
  · exact ⟨lw_inT hc, good_of_word (List.mem_filter.mp hc).2⟩
  · exact ⟨lw_inT hw, good_of_word (List.mem_filter.mp hw).2⟩
section LAWW
variable {p : Program} {l : Launch} {e : Env} {s : State} {m : MethodId} {below : List Frame} {meth : Method} {c : Code} {g : ab_G} {b L : Nat} {xs : Nat → Int32} {σ : Nat → Nat} {H : Heap} {locs : List Loc} {h : ah_T} {M' : ab_M} {Q' : Option Value → ah_T → Prop} {As rest : List Value} {b0 index n ci cells slots pc : Nat} {ls : Array Slot} {Qz : State → Prop}
theorem lw_pre (C : lw_C p s m meth c g b L xs) (S : lw_S g s σ H locs h) (As : List Value) :
    FrameBlind (va_Pc (As.map (ab_v σ)) (fun U => U.heap.size = H.size ∧ ab_R g σ h U.heap ∧ va_K g.1 vwCl (ab_tys g.2.1) U ∧ ab_Z g (ab_A σ h H.size) U U.heap)) ∧
    ∀ U : State, U.heap = H → s.WarmedH U.vm → va_Pc (As.map (ab_v σ)) (fun U => U.heap.size = H.size ∧ ab_R g σ h U.heap ∧ va_K g.1 vwCl (ab_tys g.2.1) U ∧ ab_Z g (ab_A σ h H.size) U U.heap) (As.map (ab_v σ)).toArray U := by
  refine ⟨fun a U f mk q => ?_, fun U hU hW => ⟨rfl, by rw [hU], by rw [hU]; exact S.1, va_K.moved hW.alike C.2.2.2.2.2.2.2.1, ?_⟩⟩
  · obtain ⟨q0, q1, q2, q3, q4⟩ := q
    exact ⟨q0, q1, q2, va_K.moved (u := U) (U := U.calling f mk a) (Vm.Alike.refl U.vm) q3, ab_Z.calling q4⟩
  · refine ab_Z.to C.2.2.2.2.2.2.2.2.1 hW hU S.2.2.2.1 (fun q hq => ?_)
    rcases hq with ⟨a, ha, rfl⟩ | hq
    · exact S.2.1 a ha
    · exact Nat.le_trans S.2.2.1 hq
theorem lw_back (C : lw_C p s m meth c g b L xs) (S : lw_S g s σ H locs h) {gst : List Value}
    (kk : ∀ (r : Option Value) (h' : ah_T) (σ' : Nat → Nat) (H' : Heap) (locs' : List Loc), Q' r h' → lw_S g s σ' H' locs' h' → (∀ a, a < ah_x h → σ' a = σ a) → ah_x h ≤ ah_x h' → W p l e room_1 s m #[Value.ref b] below meth c H' locs' (cells + M'.2.2.2.2.2.1) (slots + M'.2.2.2.2.2.2) Qz (F0 m (pc + 3) ls ((r.map (ab_v σ')).toList ++ rest)))
    (hr : va_Run p l e room_1 s m #[Value.ref b] below meth c H locs cells slots M'.2.2.2.2.2.1 M'.2.2.2.2.2.2 (F0 m pc ls gst) rest (fun st oc t => ab_O g σ (ah_x h) (ab_A σ h H.size) Q' oc t ∧ va_F (ab_A σ h H.size) st t) (ab_A σ h H.size)) :
    W p l e room_1 s m #[Value.ref b] below meth c H locs cells slots Qz (F0 m pc ls gst) := by
  obtain ⟨s3, s4, s5⟩ := S
  intro T hT X
  obtain ⟨v, st₀, t, T', L', h0, X', hL', e1, e2, ⟨⟨r, h', σ', o1, o2, o3, o4, o5, o6, o7⟩, hz, hk⟩, stp⟩ := hr T hT X
  cases o1
  rw [h0] at hz hk
  have hAA : ∀ q, ab_A σ h H.size q → s.heap.size ≤ q := by
    intro q hq
    rcases hq with ⟨a, ha, rfl⟩ | hq
    · exact s4 a ha
    · exact Nat.le_trans s5.1 hq
  have hS1 : va_S (fun q => s.heap.size ≤ q) s.heap T'.heap (locs ++ L') := by
    refine ⟨Nat.le_trans s5.1 (by rw [e1]; exact hz), fun q g1 g2 => ?_, fun q hq => ?_⟩
    · rw [e1, hk q (Nat.lt_of_lt_of_le g1 s5.1) (fun z => g2 (hAA q z))]
      exact s5.2.1 q g1 g2
    · rcases List.mem_append.mp hq with z | z
      · exact s5.2.2 q z
      · exact hAA _ (hL' q z)
  obtain ⟨t2, a1, b1⟩ := kk r h' σ' T'.heap (locs ++ L') o2 ⟨by rw [e1]; exact o5, fun a ha => hAA _ (o6 a ha), hS1⟩ o3 o4 T' rfl X'
  exact ⟨t2, stp t2 a1, b1⟩
theorem lw_callB (C : lw_C p s m meth c g b L xs) (hY : ab_Y M' n) (hl : Cond.methodLink RL index M'.1 ∈ lw_tbl) (hdp : M'.2.2.2.2.1 ≤ 1000) :
    CallB room_1 s #[Value.ref b] RL index M'.1 M'.2.1 M'.2.2.1 M'.2.2.2.1 (ab_wm M') (ab_rm M') M'.2.2.2.2.2.1 M'.2.2.2.2.2.2 n :=
  callB_of n C.2.2.2.2.1 (lw_goodT M' hY.1) rfl rfl rfl (C.2.2.2.2.1 _ (lw_inT hY.2.1)) (C.2.2.2.2.1 _ hl) ⟨hY.2.2.1.1, hY.2.2.1.2, hY.2.2.2.1⟩ ⟨by
    show M'.2.2.2.2.1 + 1 ≤ 2048
    omega, by
    show 8 + (M'.2.2.1 + 11) + 60 * M'.2.2.2.2.1 ≤ 84000
    have := hY.2.2.2.2
    omega⟩
theorem lw_recv {CC : String} (C : lw_C p s m meth c g b L xs) (S : lw_S g s σ H locs h) (hk : ah_k h b0 = ci) (hci : ci < 13) (hcl : vwCl[ci]?.map (fun q => q.1) = some CC) :
    ∃ cellB : Cell, H[σ b0]? = some cellB ∧ cellB.vm.isStatics = false ∧ s.vm.findClass CC = some cellB.cls := by
  have s3 := S.1
  have hb : b0 < ah_x h := s3.2.2.1 b0 (by rw [hk]; omega)
  cases hq : vwCl[ci]? with
  | none => rw [hq] at hcl; cases hcl
  | some r =>
    rw [hq] at hcl
    have hr : r.1 = CC := Option.some.inj hcl
    have he : (ab_ws g.2.1 σ h)[b0]? = some (σ b0, .inr (ci, ab_fs σ h b0 ci)) := by rw [ab_ws_at hb, ab_E_obj hk hci]
    obtain ⟨r', h1, cell, q1, q2, q3, -⟩ := s3.1 b0 _ he
    have : r' = r := Option.some.inj (h1.symm.trans hq)
    subst this
    refine ⟨cell, q1, by rw [q3]; rfl, ?_⟩
    rw [q2, ← hr]
    exact (C.2.2.2.2.2.2.2.1.1 ci r' hq).2.1
theorem lw_callV (C : lw_C p s m meth c g b L xs) (S : lw_S g s σ H locs h) (hM : Mt M' (.ref b0 :: As) h Q') (hok : ab_okS (ah_x h) As) (hint : As.map (ab_v σ) = As) (hY : ab_Y M' n) (hl : Cond.methodLink RL index M'.1 ∈ lw_tbl) (hin : Cond.instanceMethod M'.1 ∈ lw_T) (hse : Cond.selects M'.1.cls M'.1 M'.1 ∈ lw_T) (hk : ah_k h b0 = ci) (hci : ci < 13) (hcl : vwCl[ci]?.map (fun q => q.1) = some M'.1.cls) (hn : As.length = n) (hdp : M'.2.2.2.2.1 ≤ 1000) (hsz : ls.size = 4)
    (hc : cells + M'.2.2.2.2.2.1 ≤ 600000) (hs : slots + M'.2.2.2.2.2.2 ≤ 7302250) (hr : (rest.map fun v => v.category).sum ≤ 8) (d : decode code pc = .ok (.invokevirtual index, 3))
    (kk : ∀ (r : Option Value) (h' : ah_T) (σ' : Nat → Nat) (H' : Heap) (locs' : List Loc), Q' r h' → lw_S g s σ' H' locs' h' → (∀ a, a < ah_x h → σ' a = σ a) → ah_x h ≤ ah_x h' → W p l e room_1 s m #[Value.ref b] below meth c H' locs' (cells + M'.2.2.2.2.2.1) (slots + M'.2.2.2.2.2.2) Qz (F0 m (pc + 3) ls ((r.map (ab_v σ')).toList ++ rest))) :
    W p l e room_1 s m #[Value.ref b] below meth c H locs cells slots Qz (F0 m pc ls (As.reverse ++ .ref (σ b0) :: rest)) := by
  have hb : b0 < ah_x h := S.1.2.2.1 b0 (by rw [hk]; omega)
  have hpre := lw_pre C S (.ref b0 :: As)
  have hrun := va_runV (b := σ b0) (As := As.map (ab_v σ)) (rest := rest) (g := F0 m pc ls (As.reverse ++ .ref (σ b0) :: rest)) (below := below) (meth := meth) (locs := locs) (cells := cells) (slots := slots) (e := e) (H := H) (R := room_1) (C := M'.1.cls) (n := n) (l := l) ⟨C.1, C.2.1, C.2.2.1, C.2.2.2.1, C.2.2.2.2.1⟩ (hM l g σ H.size ⟨hb, hok⟩) ⟨lw_callB C hY hl hdp, C.2.2.2.2.1 _ (lw_inT hin), C.2.2.2.2.1 _ (lw_inT hse)⟩ ⟨hpre.1, lw_recv C S hk hci hcl, hpre.2⟩ rfl (by rw [List.length_map]; exact hn) hsz (by rw [hint]) (lv_room hr) d ⟨hc, hs⟩
  exact lw_back C S kk hrun
/-- a law's int out of the script -/
theorem lw_sld (C : lw_C p s m meth c g b L xs) (S : lw_S g s σ H locs h) {i : Int32} {R : Room} (hin : vp_in i L) (d : decode code pc = .ok (.iaload, 1))
    (kk : W p l e R s m #[Value.ref b] below meth c H locs cells slots Qz (F0 m (pc + 1) ls (.int (xs i.toNatClampNeg) :: rest))) : W p l e R s m #[Value.ref b] below meth c H locs cells slots Qz (F0 m pc ls (.int i :: .ref b :: rest)) :=
  va_sld C.1 C.2.1 C.2.2.2.2.2.1 C.2.2.2.2.2.2.1 (Nat.not_le.mpr C.2.2.2.2.2.2.1) S.2.2 hin d kk
end LAWW
/-- a call of the class beside the model's: the answers are one, and what holds between them holds again -/
def lw_RC (Inv J : ah_T → Prop) (X M : ab_M) (as : List Value) : Prop := ∀ h, Inv h → Mt X (.ref 0 :: as) h (ab_qi fun v h1 => Sh h1 ∧ Mt M (.ref 82 :: as) h1 (ab_qi fun w h2 => v = w ∧ J h2))
