/-! ===== the judgement Wp: from a place in a method, over an abstract heap, it returns, and the answer and the heap are Q ===== -/
def ab_kw : List Int32 := [108, 97, 109, 112, 32, 107, 105, 110, 100, 32, 111, 116, 104, 101, 114, 32, 110, 101, 97, 114, 32, 108, 97, 116, 101, 114, 32, 109, 105, 110, 117, 116, 101, 32, 119, 105, 110, 100, 32, 109, 111, 111, 100, 32, 108, 97, 109, 112, 115, 32, 115, 119, 105, 116, 99, 104, 101, 115, 32, 108, 97, 115, 116, 32, 100, 111, 110, 101, 32, 114, 117, 110, 32, 115, 104, 117, 110, 115, 32, 114, 101, 97, 99, 104, 101, 115, 32, 100, 114, 105, 110, 107, 115, 32, 108, 105, 103, 104, 116, 32, 115, 110, 117, 102, 102, 32, 97, 116, 32, 101, 97, 99, 104, 32, 116, 105, 109, 101, 115, 32, 105, 102, 32, 111, 114, 32, 97, 110, 100, 32, 110, 111, 116]
def ab_kwt : String := "lamp kind other near later minute wind mood lamps switches last done run shuns reaches drinks light snuff at each times if or and not"
/-- a method: its name, code, most locals, type of its answer; how deep its calls go, what cells and slots it may make -/
abbrev ab_M : Type := MethodName × ByteArray × Nat × Option FieldType × Nat × Nat × Nat
/-- the machine's numbers: classes and slots, array classes by kinds, the text of words and its bytes -/
abbrev ab_G : Type := va_G × (Nat → ClassId) × Nat × Nat
def ab_rm (M : ab_M) : Room := { frames := M.2.2.2.2.1, cells := M.2.2.2.2.2.1, slots := M.2.2.2.2.2.2, locals := 60 * M.2.2.2.2.1 }
def ab_wm (M : ab_M) : List Cond := Cond.code M.1 M.2.1 M.2.2.1 M.2.2.2.1 :: lw_T
def ab_tys (y : Nat → ClassId) : List (ClassId × FieldType) := [(y 13, .byte), (y 14, .int), (y 15, .long), (y 16, .boolean), (y 17, .object RX9), (y 18, .object RX10)]
/-- what lies outside the heap of the run: the text of words, two statics, words of nest mates and of arrays -/
def ab_Z (g : ab_G) (A : Nat → Prop) (U : State) (H : Heap) : Prop :=
  vk_S 1 [133] [ab_kw] (fun _ => g.2.2.1) (fun _ => g.2.2.2) A U H ∧ vk_R RX5 96 ab_kwt g.2.2.1 U ∧ va_Z RJ0 "COMPACT_STRINGS" "Z" (.int 1) A U H ∧ va_Zq RJ3 "SIOOBE_FORMATTER" "Ljava/util/function/BiFunction;" A U H ∧
  va_Nw (.methodLinkNest RX11 32 yX5_init RX11) U ∧ va_Nw (.methodLinkNest RX11 39 yX2_init RX11) U ∧ va_Nw (.methodLinkNest RX10 67 yX11_isIn RX11) U ∧ va_Nw (.methodLinkNest RX6 85 yX11_isIn RX11) U ∧ va_AO RX9 U ∧ va_AO RX10 U ∧ va_Nw (.castable "[I" "java/lang/Cloneable") U
theorem ab_Z.to {g : ab_G} {A B : Nat → Prop} {s U : State} {H : Heap} (h : ab_Z g A s s.heap) (hW : s.WarmedH U.vm) (hU : U.heap = H) (hk : ∀ a : Nat, a < s.heap.size → ¬ A a → H[a]? = s.heap[a]?) (hAB : ∀ q, B q → A q) : ab_Z g B U U.heap := by
  obtain ⟨h1, h2, h3, h4, n1, n2, n3, n4, o1, o2, o3⟩ := h
  rw [hU]
  exact ⟨(vk_S.moved hW.alike (h1.kept hk)).narrow hAB, vk_R.warm hW h2, (va_Z.moved hW.alike (h3.kept hk)).narrow hAB, (va_Zq.moved hW.alike (h4.kept hk)).narrow hAB,
    va_Nw.warmM hW n1, va_Nw.warmM hW n2, va_Nw.warmM hW n3, va_Nw.warmM hW n4, va_AO.moved hW.alike o1, va_AO.moved hW.alike o2, va_Nw.warmC hW o3⟩
theorem ab_Z.calling {g : ab_G} {A : Nat → Prop} {U : State} {f : JFrame} {mk : MethodId} {a : Array Value} (h : ab_Z g A U U.heap) : ab_Z g A (U.calling f mk a) (U.calling f mk a).heap := by
  obtain ⟨h1, h2, h3, h4, n1, n2, n3, n4, o1, o2, o3⟩ := h
  have hv : (U.calling f mk a).vm = U.vm := rfl
  have al : U.vm.Alike (U.calling f mk a).vm := Vm.Alike.refl U.vm
  exact ⟨vk_S.moved al h1, vk_R.same hv h2, va_Z.moved al h3, va_Zq.moved al h4, va_Nw.same rfl hv.symm n1, va_Nw.same rfl hv.symm n2, va_Nw.same rfl hv.symm n3, va_Nw.same rfl hv.symm n4, va_AO.moved al o1, va_AO.moved al o2, va_Nw.same rfl hv.symm o3⟩
/-- the machine's heap holds the abstract one -/
def ab_R (g : ab_G) (σ : Nat → Nat) (h : ah_T) (H : Heap) : Prop :=
  va_P g.1 vwCl (ab_ws g.2.1 σ h) H ∧ (∀ a b, a < ah_x h → b < ah_x h → σ a = σ b → a = b) ∧ (∀ a, ah_k h a < 19 → a < ah_x h) ∧ ∀ a j b, a < ah_x h → ah_r h a j = some b → b < ah_x h
theorem ab_R.D {g : ab_G} {σ : Nat → Nat} {h : ah_T} {H : Heap} {A : Nat → Prop} (hR : ab_R g σ h H) (hA : ∀ a, a < ah_x h → A (σ a)) : va_D A (ab_ws g.2.1 σ h) := by
  have key : ∀ (k : Nat) (q : Nat × va_E), (ab_ws g.2.1 σ h)[k]? = some q → k < ah_x h ∧ q.1 = σ k := by
    intro k q hk
    have hl : k < ah_x h := by
      have := (List.getElem?_eq_some_iff.mp hk).1
      rwa [ab_ws_len] at this
    rw [ab_ws_at hl] at hk
    cases hk
    exact ⟨hl, rfl⟩
  refine ⟨fun i j p q hi hj e => ?_, fun k q hk => ?_⟩
  · obtain ⟨a1, a2⟩ := key i p hi
    obtain ⟨b1, b2⟩ := key j q hj
    exact hR.2.1 i j a1 b1 (by rw [← a2, ← b2]; exact e)
  · obtain ⟨a1, a2⟩ := key k q hk
    rw [a2]
    exact hA k a1
/-- the cells that a method may change: those of the run, and new ones -/
def ab_A (σ : Nat → Nat) (h : ah_T) (sz : Nat) : Nat → Prop := fun q => (∃ a, a < ah_x h ∧ q = σ a) ∨ sz ≤ q
/-- a method's end -/
def ab_O (g : ab_G) (σ0 : Nat → Nat) (n0 : Nat) (A : Nat → Prop) (Q : Option Value → ah_T → Prop) (oc : Outcome) (t : State) : Prop :=
  ∃ (r : Option Value) (h' : ah_T) (σ' : Nat → Nat), oc = .returned (r.map (ab_v σ')) ∧ Q r h' ∧ (∀ a, a < n0 → σ' a = σ0 a) ∧ n0 ≤ ah_x h' ∧ ab_R g σ' h' t.heap ∧ (∀ a, a < ah_x h' → A (σ' a)) ∧ ab_okS (ah_x h') r.toList
/-- what is fixed while a method runs -/
def ab_C (M : ab_M) (p : Program) (s : State) (m : MethodId) (args : Array Value) (meth : Method) (c : Code) (g : ab_G) (A : Nat → Prop) : Prop :=
  p.tables.exec = Jvm.exec ∧ c.code = M.2.1 ∧ c.maxLocals = M.2.2.1 ∧ meth.sig.returnType = M.2.2.2.1 ∧ meth.locks = false ∧ s.vm.findClass M.1.cls = some m.cls ∧ (∀ w ∈ ab_wm M, w.before args s = true) ∧ va_K g.1 vwCl (ab_tys g.2.1) s ∧ (∀ q, s.heap.size ≤ q → A q) ∧ meth.name = M.1.name ∧ ab_Z g A s s.heap
/-- what changes -/
def ab_S (M : ab_M) (g : ab_G) (A : Nat → Prop) (σ0 : Nat → Nat) (n0 : Nat) (s : State) (σ : Nat → Nat) (H : Heap) (locs : List Loc) (ls : Array Slot) (L : List (Option Value)) (st : List Value) (h : ah_T) : Prop :=
  (∀ a, a < n0 → σ a = σ0 a) ∧ n0 ≤ ah_x h ∧ ab_R g σ h H ∧ (∀ a, a < ah_x h → A (σ a)) ∧ va_S A s.heap H locs ∧ ab_lv ls M.2.2.1 σ L ∧ ab_okS (ah_x h) st ∧ ab_okL (ah_x h) L
def ab_P (below : List Frame) (g : ab_G) (σ0 : Nat → Nat) (n0 : Nat) (A : Nat → Prop) (Q : Option Value → ah_T → Prop) (args : Array Value) (s : State) (mc ms : Nat) : State → Prop :=
  MQ below (fun _ st oc t => ab_O g σ0 n0 A Q oc t ∧ va_F A st t) args s mc ms A
def Wp (M : ab_M) (Q : Option Value → ah_T → Prop) (c0 s0 pc : Nat) (L : List (Option Value)) (st : List Value) (h : ah_T) : Prop :=
  ∀ (p : Program) (l : Launch) (e : Env) (s : State) (m : MethodId) (args : Array Value) (below : List Frame) (meth : Method) (c : Code) (g : ab_G) (A : Nat → Prop) (σ0 : Nat → Nat) (n0 : Nat),
    ab_C M p s m args meth c g A → ∀ (σ : Nat → Nat) (H : Heap) (locs : List Loc) (ls : Array Slot), ab_S M g A σ0 n0 s σ H locs ls L st h →
      W p l e (ab_rm M) s m args below meth c H locs c0 s0 (ab_P below g σ0 n0 A Q args s M.2.2.2.2.2.1 M.2.2.2.2.2.2) (F0 m pc ls (st.map (ab_v σ)))
/-- a method's contract, by its answer and the heap behind it -/
def Mt (M : ab_M) (as : List Value) (h : ah_T) (Q : Option Value → ah_T → Prop) : Prop :=
  ∀ (l : Launch) (g : ab_G) (σ : Nat → Nat) (sz : Nat), ab_okS (ah_x h) as →
    Met l M.1 (ab_wm M) (ab_rm M) (va_Pc (as.map (ab_v σ)) (fun U => U.heap.size = sz ∧ ab_R g σ h U.heap ∧ va_K g.1 vwCl (ab_tys g.2.1) U ∧ ab_Z g (ab_A σ h sz) U U.heap))
      (fun _ st oc t => ab_O g σ (ah_x h) (ab_A σ h sz) Q oc t ∧ va_F (ab_A σ h sz) st t) M.2.2.2.2.2.1 M.2.2.2.2.2.2 (ab_A σ h sz)
theorem ab_O.mono {g : ab_G} {σ0 : Nat → Nat} {n0 : Nat} {A : Nat → Prop} {Q Q' : Option Value → ah_T → Prop} {oc : Outcome} {t : State} (hQ : ∀ r h, Q r h → Q' r h) (h : ab_O g σ0 n0 A Q oc t) : ab_O g σ0 n0 A Q' oc t := by
  obtain ⟨r, h', σ', h1, h2, h3⟩ := h
  exact ⟨r, h', σ', h1, hQ _ _ h2, h3⟩
theorem Wp.mono {M : ab_M} {Q Q' : Option Value → ah_T → Prop} {c0 s0 pc : Nat} {L : List (Option Value)} {st : List Value} {h : ah_T} (hQ : ∀ r h, Q r h → Q' r h) (k : Wp M Q c0 s0 pc L st h) : Wp M Q' c0 s0 pc L st h := by
  intro p l e s m args below meth c g A σ0 n0 C σ H locs ls S T hT X
  obtain ⟨t, a1, o, b1, b2, b3, b4⟩ := k p l e s m args below meth c g A σ0 n0 C σ H locs ls S T hT X
  exact ⟨t, a1, o, b1, b2, ⟨ab_O.mono hQ b3.1, b3.2⟩, b4⟩
/-- how the arguments lie in the locals -/
def ab_ent : List Value → List (Option Value)
  | [] => []
  | v :: t => if v.category = 2 then some v :: none :: ab_ent t else some v :: ab_ent t
theorem ab_ent_ok {n : Nat} : ∀ {vs : List Value}, ab_okS n vs → ab_okL n (ab_ent vs)
  | [], _ => trivial
  | v :: t, h => by
    unfold ab_ent
    split
    · exact ⟨h.1, ab_ent_ok (vs := t) h.2⟩
    · exact ⟨h.1, ab_ent_ok (vs := t) h.2⟩
theorem ab_ent_args (σ : Nat → Nat) : ∀ (vs : List Value) (b i : Nat) (v : Value), (ab_ent vs)[i]? = some (some v) → (b + i, ab_v σ v) ∈ lv_args b (vs.map (ab_v σ))
  | [], b, i, v, h => by simp [ab_ent] at h
  | w :: t, b, i, v, h => by
    by_cases hc : w.category = 2
    · have e : ab_ent (w :: t) = some w :: none :: ab_ent t := by simp [ab_ent, hc]
      have e2 : lv_args b ((w :: t).map (ab_v σ)) = (b, ab_v σ w) :: lv_args (b + 2) (t.map (ab_v σ)) := by simp [lv_args, ab_v_cat, hc]
      rw [e] at h
      rw [e2]
      match i, h with
      | 0, h =>
        have : w = v := by simpa using h
        rw [this]; exact List.mem_cons_self
      | 1, h => simp at h
      | j + 2, h =>
        have h1 : (ab_ent t)[j]? = some (some v) := by simpa using h
        have := ab_ent_args σ t (b + 2) j v h1
        rw [show b + (j + 2) = b + 2 + j by omega]
        exact List.mem_cons_of_mem _ this
    · have e : ab_ent (w :: t) = some w :: ab_ent t := by simp [ab_ent, hc]
      have e2 : lv_args b ((w :: t).map (ab_v σ)) = (b, ab_v σ w) :: lv_args (b + 1) (t.map (ab_v σ)) := by
        have : w.category = 1 := by rcases lv_cat w with q | q <;> omega
        simp [lv_args, ab_v_cat, this]
      rw [e] at h
      rw [e2]
      match i, h with
      | 0, h =>
        have : w = v := by simpa using h
        rw [this]; exact List.mem_cons_self
      | j + 1, h =>
        have h1 : (ab_ent t)[j]? = some (some v) := by simpa using h
        have := ab_ent_args σ t (b + 1) j v h1
        rw [show b + (j + 1) = b + 1 + j by omega]
        exact List.mem_cons_of_mem _ this
/-- fewer listed locals -/
theorem Wp.fewer {M : ab_M} {Q : Option Value → ah_T → Prop} {c0 s0 pc : Nat} {L L' : List (Option Value)} {st : List Value} {h : ah_T} (hl : ab_leL L' L) (k : Wp M Q c0 s0 pc L' st h) : Wp M Q c0 s0 pc L st h := by
  intro p l e s m args below meth c g A σ0 n0 C σ H locs ls S
  obtain ⟨s1, s2, s3, s4, s5, s6, s7, s8⟩ := S
  exact k p l e s m args below meth c g A σ0 n0 C σ H locs ls ⟨s1, s2, s3, s4, s5, ⟨s6.1, s6.2.1, fun i v hi => s6.2.2 i v (ab_leL_at hl hi)⟩, s7, ab_okL_of fun i v hi => ab_okL_at s8 (ab_leL_at hl hi)⟩
theorem Wp.to {M : ab_M} {Q : Option Value → ah_T → Prop} {c0 s0 pc pc' : Nat} {L L' : List (Option Value)} {st st' : List Value} {h h' : ah_T} (h1 : pc' = pc) (h2 : L' = L) (h3 : st' = st) (h4 : h' = h) (k : Wp M Q c0 s0 pc' L' st' h') : Wp M Q c0 s0 pc L st h := by
  subst h1; subst h2; subst h3; subst h4; exact k
theorem ab_lenL (σ : Nat → Nat) : ∀ vs : List Value, (lg_sl (vs.map (ab_v σ))).length = (ab_ent vs).length
  | [] => rfl
  | v :: t => by
    have ih := ab_lenL σ t
    unfold lg_sl at ih ⊢
    by_cases hc : v.category = 2
    · simp [ab_ent, hc, ab_v_cat, ih]
    · simp [ab_ent, hc, ab_v_cat, ih]
/-- a contract out of the walk of the body -/
theorem Mt.ofWp {M : ab_M} {as : List Value} {h : ah_T} {Q : Option Value → ah_T → Prop} (hy : plainName M.1.cls = true) (hlen : (ab_ent as).length ≤ M.2.2.1) (k : Wp M Q 0 0 0 (ab_ent as) [] h) : Mt M as h Q := by
  intro l g σ sz hok
  refine Met.ofW (cc := M.2.1) (maxL := M.2.2.1) (ret := M.2.2.2.1) hy rfl ?_
  intro p e s m args below meth c s₁ B hml hv
  obtain ⟨rfl, hsz, hR, hK, hZ⟩ := hv
  subst hsz
  have hl := lv_entry (as.map (ab_v σ)) (n := M.2.2.1) (by rw [ab_lenL]; exact hlen)
  rw [lg_entry_eq]
  generalize (lg_sl (as.map (ab_v σ)) ++ List.replicate (M.2.2.1 - (lg_sl (as.map (ab_v σ))).length) Slot.unset).toArray = ls at hl ⊢
  have hA : ∀ a, a < ah_x h → ab_A σ h s.heap.size (σ a) := fun a ha => Or.inl ⟨a, ha, rfl⟩
  exact k p l e s m _ below meth c g (ab_A σ h s.heap.size) σ (ah_x h)
    ⟨B.exec, B.bytes, hml, B.returns, B.notSynchronized, findClass_of_methodNamed B.named, atoms_spec (ws := ab_wm M) B.pre, hK, fun q hq => Or.inr hq, (name_of_methodNamed B.named B.method).1, hZ⟩
    σ s.heap [] ls ⟨fun _ _ => rfl, Nat.le_refl _, hR, hA, va_S.rf, ⟨hl.1, hl.2.1, fun i v hi => hl.2.2 (i, ab_v σ v) (by have := ab_ent_args σ as 0 i v hi; rwa [Nat.zero_add] at this)⟩, trivial, ab_ent_ok hok⟩
