/-! ===== rows of instructions: the heap stays ===== -/
theorem Wp.st {M : ab_M} {Q : Option Value → ah_T → Prop} {c0 s0 pc pc' : Nat} {L : List (Option Value)} {st st' : List Value} {h : ah_T} (ok : ∀ n, ab_okL n L → ab_okS n st → ab_okS n st')
    (f : ∀ {p : Program} {l : Launch} {e : Env} {R : Room} {s : State} {m : MethodId} {args : Array Value} {below : List Frame} {meth : Method} {c : Code} {H : Heap} {locs : List Loc} {cells slots : Nat} {Q' : State → Prop} {ls : Array Slot} (σ : Nat → Nat), p.tables.exec = Jvm.exec → c.code = M.2.1 → s.vm.findClass M.1.cls = some m.cls → (∀ w ∈ lw_T, w.before args s = true) → ab_lv ls M.2.2.1 σ L →
      W p l e R s m args below meth c H locs cells slots Q' (F0 m pc' ls (st'.map (ab_v σ))) → W p l e R s m args below meth c H locs cells slots Q' (F0 m pc ls (st.map (ab_v σ))))
    (k : Wp M Q c0 s0 pc' L st' h) : Wp M Q c0 s0 pc L st h := by
  intro p l e s m args below meth c g A σ0 n0 C σ H locs ls S
  obtain ⟨s1, s2, s3, s4, s5, s6, s7, s8⟩ := S
  exact f σ C.1 C.2.1 C.2.2.2.2.2.1 (fun w hw => C.2.2.2.2.2.2.1 w (List.mem_cons_of_mem _ hw)) s6 (k p l e s m args below meth c g A σ0 n0 C σ H locs ls ⟨s1, s2, s3, s4, s5, s6, ok _ s8 s7, s8⟩)
theorem ab_iconst {M : ab_M} {Q : Option Value → ah_T → Prop} {c0 s0 pc : Nat} {L : List (Option Value)} {st : List Value} {h : ah_T} {n : Int} {v : Int32} (d : decode M.2.1 pc = .ok (.iconst n, 1)) (hv : Int32.ofInt n = v) (k : Wp M Q c0 s0 (pc + 1) L (.int v :: st) h) : Wp M Q c0 s0 pc L (st) h :=
  Wp.st (pc' := pc + 1) (st' := .int v :: st) (fun n hL hs => ⟨trivial, hs⟩) (fun σ hx hb ho ht hl k => lv_iconst hx hb d hv k) k
theorem ab_bipush {M : ab_M} {Q : Option Value → ah_T → Prop} {c0 s0 pc : Nat} {L : List (Option Value)} {st : List Value} {h : ah_T} {n : Int} {v : Int32} (d : decode M.2.1 pc = .ok (.bipush n, 2)) (hv : (Int8.ofInt n).toInt32 = v) (k : Wp M Q c0 s0 (pc + 2) L (.int v :: st) h) : Wp M Q c0 s0 pc L (st) h :=
  Wp.st (pc' := pc + 2) (st' := .int v :: st) (fun n hL hs => ⟨trivial, hs⟩) (fun σ hx hb ho ht hl k => lv_bipush hx hb d hv k) k
theorem ab_sipush {M : ab_M} {Q : Option Value → ah_T → Prop} {c0 s0 pc : Nat} {L : List (Option Value)} {st : List Value} {h : ah_T} {n : Int} {v : Int32} (d : decode M.2.1 pc = .ok (.sipush n, 3)) (hv : (Int16.ofInt n).toInt32 = v) (k : Wp M Q c0 s0 (pc + 3) L (.int v :: st) h) : Wp M Q c0 s0 pc L (st) h :=
  Wp.st (pc' := pc + 3) (st' := .int v :: st) (fun n hL hs => ⟨trivial, hs⟩) (fun σ hx hb ho ht hl k => lv_sipush hx hb d hv k) k
theorem ab_lconst {M : ab_M} {Q : Option Value → ah_T → Prop} {c0 s0 pc : Nat} {L : List (Option Value)} {st : List Value} {h : ah_T} {n : Fin 2} {v : Int64} (d : decode M.2.1 pc = .ok (.lconst n, 1)) (hv : Int64.ofNat (n : Nat) = v) (k : Wp M Q c0 s0 (pc + 1) L (.long v :: st) h) : Wp M Q c0 s0 pc L (st) h :=
  Wp.st (pc' := pc + 1) (st' := .long v :: st) (fun n hL hs => ⟨trivial, hs⟩) (fun σ hx hb ho ht hl k => lv_lconst hx hb d hv k) k
theorem ab_null {M : ab_M} {Q : Option Value → ah_T → Prop} {c0 s0 pc : Nat} {L : List (Option Value)} {st : List Value} {h : ah_T}  (d : decode M.2.1 pc = .ok (.aconst_null, 1)) (k : Wp M Q c0 s0 (pc + 1) L (.null :: st) h) : Wp M Q c0 s0 pc L (st) h :=
  Wp.st (pc' := pc + 1) (st' := .null :: st) (fun n hL hs => ⟨trivial, hs⟩) (fun σ hx hb ho ht hl k => lv_null hx hb d k) k
theorem ab_ldc {M : ab_M} {Q : Option Value → ah_T → Prop} {c0 s0 pc : Nat} {L : List (Option Value)} {st : List Value} {h : ah_T} {index : Nat} {v : Int32} (hw : Cond.constant M.1.cls index v ∈ lw_T) (d : decode M.2.1 pc = .ok (.ldc index, 2)) (k : Wp M Q c0 s0 (pc + 2) L (.int v :: st) h) : Wp M Q c0 s0 pc L (st) h :=
  Wp.st (pc' := pc + 2) (st' := .int v :: st) (fun n hL hs => ⟨trivial, hs⟩) (fun σ hx hb ho ht hl k => lv_ldc hx hb ho (ht _ hw) d k) k
theorem ab_ldcw {M : ab_M} {Q : Option Value → ah_T → Prop} {c0 s0 pc : Nat} {L : List (Option Value)} {st : List Value} {h : ah_T} {index : Nat} {v : Int32} (hw : Cond.constant M.1.cls index v ∈ lw_T) (d : decode M.2.1 pc = .ok (.ldc_w index, 3)) (k : Wp M Q c0 s0 (pc + 3) L (.int v :: st) h) : Wp M Q c0 s0 pc L (st) h :=
  Wp.st (pc' := pc + 3) (st' := .int v :: st) (fun n hL hs => ⟨trivial, hs⟩) (fun σ hx hb ho ht hl k => lv_ldcw hx hb ho (ht _ hw) d k) k
theorem ab_ldc2 {M : ab_M} {Q : Option Value → ah_T → Prop} {c0 s0 pc : Nat} {L : List (Option Value)} {st : List Value} {h : ah_T} {index : Nat} {v : Int64} (hw : Cond.constantLong M.1.cls index v ∈ lw_T) (d : decode M.2.1 pc = .ok (.ldc2_w index, 3)) (k : Wp M Q c0 s0 (pc + 3) L (.long v :: st) h) : Wp M Q c0 s0 pc L (st) h :=
  Wp.st (pc' := pc + 3) (st' := .long v :: st) (fun n hL hs => ⟨trivial, hs⟩) (fun σ hx hb ho ht hl k => lv_ldc2 hx hb ho (ht _ hw) d k) k
theorem ab_iload_n {M : ab_M} {Q : Option Value → ah_T → Prop} {c0 s0 pc : Nat} {L : List (Option Value)} {st : List Value} {h : ah_T} {j : Fin 4} {i : Nat} {x : Int32} (d : decode M.2.1 pc = .ok (.iload_n j, 1)) (hi : (j : Nat) = i) (hL0 : L[i]? = some (some (.int x))) (k : Wp M Q c0 s0 (pc + 1) L (.int x :: st) h) : Wp M Q c0 s0 pc L (st) h :=
  Wp.st (pc' := pc + 1) (st' := .int x :: st) (fun n hL hs => ⟨trivial, hs⟩) (fun σ hx hb ho ht hl k => lv_iload_n hx hb d hi (hl.at hL0) k) k
theorem ab_iload {M : ab_M} {Q : Option Value → ah_T → Prop} {c0 s0 pc : Nat} {L : List (Option Value)} {st : List Value} {h : ah_T} {i : Nat} {x : Int32} (d : decode M.2.1 pc = .ok (.iload i, 2)) (hL0 : L[i]? = some (some (.int x))) (k : Wp M Q c0 s0 (pc + 2) L (.int x :: st) h) : Wp M Q c0 s0 pc L (st) h :=
  Wp.st (pc' := pc + 2) (st' := .int x :: st) (fun n hL hs => ⟨trivial, hs⟩) (fun σ hx hb ho ht hl k => lv_iload hx hb d (hl.at hL0) k) k
theorem ab_lload_n {M : ab_M} {Q : Option Value → ah_T → Prop} {c0 s0 pc : Nat} {L : List (Option Value)} {st : List Value} {h : ah_T} {j : Fin 4} {i : Nat} {x : Int64} (d : decode M.2.1 pc = .ok (.lload_n j, 1)) (hi : (j : Nat) = i) (hL0 : L[i]? = some (some (.long x))) (k : Wp M Q c0 s0 (pc + 1) L (.long x :: st) h) : Wp M Q c0 s0 pc L (st) h :=
  Wp.st (pc' := pc + 1) (st' := .long x :: st) (fun n hL hs => ⟨trivial, hs⟩) (fun σ hx hb ho ht hl k => lv_lload_n hx hb d hi (hl.at hL0) k) k
theorem ab_lload {M : ab_M} {Q : Option Value → ah_T → Prop} {c0 s0 pc : Nat} {L : List (Option Value)} {st : List Value} {h : ah_T} {i : Nat} {x : Int64} (d : decode M.2.1 pc = .ok (.lload i, 2)) (hL0 : L[i]? = some (some (.long x))) (k : Wp M Q c0 s0 (pc + 2) L (.long x :: st) h) : Wp M Q c0 s0 pc L (st) h :=
  Wp.st (pc' := pc + 2) (st' := .long x :: st) (fun n hL hs => ⟨trivial, hs⟩) (fun σ hx hb ho ht hl k => lv_lload hx hb d (hl.at hL0) k) k
theorem ab_aload_n {M : ab_M} {Q : Option Value → ah_T → Prop} {c0 s0 pc : Nat} {L : List (Option Value)} {st : List Value} {h : ah_T} {j : Fin 4} {i a : Nat} (d : decode M.2.1 pc = .ok (.aload_n j, 1)) (hi : (j : Nat) = i) (hL0 : L[i]? = some (some (.ref a))) (k : Wp M Q c0 s0 (pc + 1) L (.ref a :: st) h) : Wp M Q c0 s0 pc L (st) h :=
  Wp.st (pc' := pc + 1) (st' := .ref a :: st) (fun n hL hs => ⟨ab_okL_at hL hL0, hs⟩) (fun σ hx hb ho ht hl k => lv_aload_n hx hb d hi (hl.at hL0) k) k
theorem ab_aload {M : ab_M} {Q : Option Value → ah_T → Prop} {c0 s0 pc : Nat} {L : List (Option Value)} {st : List Value} {h : ah_T} {i a : Nat} (d : decode M.2.1 pc = .ok (.aload i, 2)) (hL0 : L[i]? = some (some (.ref a))) (k : Wp M Q c0 s0 (pc + 2) L (.ref a :: st) h) : Wp M Q c0 s0 pc L (st) h :=
  Wp.st (pc' := pc + 2) (st' := .ref a :: st) (fun n hL hs => ⟨ab_okL_at hL hL0, hs⟩) (fun σ hx hb ho ht hl k => lv_aload hx hb d (hl.at hL0) k) k
theorem ab_aload_nN {M : ab_M} {Q : Option Value → ah_T → Prop} {c0 s0 pc : Nat} {L : List (Option Value)} {st : List Value} {h : ah_T} {j : Fin 4} {i : Nat} (d : decode M.2.1 pc = .ok (.aload_n j, 1)) (hi : (j : Nat) = i) (hL0 : L[i]? = some (some .null)) (k : Wp M Q c0 s0 (pc + 1) L (.null :: st) h) : Wp M Q c0 s0 pc L (st) h :=
  Wp.st (pc' := pc + 1) (st' := .null :: st) (fun n hL hs => ⟨trivial, hs⟩) (fun σ hx hb ho ht hl k => lv_aload_nN hx hb d hi (hl.at hL0) k) k
theorem ab_aloadN {M : ab_M} {Q : Option Value → ah_T → Prop} {c0 s0 pc : Nat} {L : List (Option Value)} {st : List Value} {h : ah_T} {i : Nat} (d : decode M.2.1 pc = .ok (.aload i, 2)) (hL0 : L[i]? = some (some .null)) (k : Wp M Q c0 s0 (pc + 2) L (.null :: st) h) : Wp M Q c0 s0 pc L (st) h :=
  Wp.st (pc' := pc + 2) (st' := .null :: st) (fun n hL hs => ⟨trivial, hs⟩) (fun σ hx hb ho ht hl k => lv_aloadN hx hb d (hl.at hL0) k) k
theorem ab_iadd {M : ab_M} {Q : Option Value → ah_T → Prop} {c0 s0 pc : Nat} {L : List (Option Value)} {st : List Value} {h : ah_T} {x y : Int32} (d : decode M.2.1 pc = .ok (.iadd, 1)) (k : Wp M Q c0 s0 (pc + 1) L (.int (x + y) :: st) h) : Wp M Q c0 s0 pc L (.int y :: .int x :: st) h :=
  Wp.st (pc' := pc + 1) (st' := .int (x + y) :: st) (fun n hL hs => ⟨trivial, hs.2.2⟩) (fun σ hx hb ho ht hl k => lv_iadd hx hb d k) k
theorem ab_isub {M : ab_M} {Q : Option Value → ah_T → Prop} {c0 s0 pc : Nat} {L : List (Option Value)} {st : List Value} {h : ah_T} {x y : Int32} (d : decode M.2.1 pc = .ok (.isub, 1)) (k : Wp M Q c0 s0 (pc + 1) L (.int (x - y) :: st) h) : Wp M Q c0 s0 pc L (.int y :: .int x :: st) h :=
  Wp.st (pc' := pc + 1) (st' := .int (x - y) :: st) (fun n hL hs => ⟨trivial, hs.2.2⟩) (fun σ hx hb ho ht hl k => lv_isub hx hb d k) k
theorem ab_imul {M : ab_M} {Q : Option Value → ah_T → Prop} {c0 s0 pc : Nat} {L : List (Option Value)} {st : List Value} {h : ah_T} {x y : Int32} (d : decode M.2.1 pc = .ok (.imul, 1)) (k : Wp M Q c0 s0 (pc + 1) L (.int (x * y) :: st) h) : Wp M Q c0 s0 pc L (.int y :: .int x :: st) h :=
  Wp.st (pc' := pc + 1) (st' := .int (x * y) :: st) (fun n hL hs => ⟨trivial, hs.2.2⟩) (fun σ hx hb ho ht hl k => lv_imul hx hb d k) k
theorem ab_iand {M : ab_M} {Q : Option Value → ah_T → Prop} {c0 s0 pc : Nat} {L : List (Option Value)} {st : List Value} {h : ah_T} {x y : Int32} (d : decode M.2.1 pc = .ok (.iand, 1)) (k : Wp M Q c0 s0 (pc + 1) L (.int (x &&& y) :: st) h) : Wp M Q c0 s0 pc L (.int y :: .int x :: st) h :=
  Wp.st (pc' := pc + 1) (st' := .int (x &&& y) :: st) (fun n hL hs => ⟨trivial, hs.2.2⟩) (fun σ hx hb ho ht hl k => lv_iand hx hb d k) k
theorem ab_ior {M : ab_M} {Q : Option Value → ah_T → Prop} {c0 s0 pc : Nat} {L : List (Option Value)} {st : List Value} {h : ah_T} {x y : Int32} (d : decode M.2.1 pc = .ok (.ior, 1)) (k : Wp M Q c0 s0 (pc + 1) L (.int (x ||| y) :: st) h) : Wp M Q c0 s0 pc L (.int y :: .int x :: st) h :=
  Wp.st (pc' := pc + 1) (st' := .int (x ||| y) :: st) (fun n hL hs => ⟨trivial, hs.2.2⟩) (fun σ hx hb ho ht hl k => lv_ior hx hb d k) k
theorem ab_ixor {M : ab_M} {Q : Option Value → ah_T → Prop} {c0 s0 pc : Nat} {L : List (Option Value)} {st : List Value} {h : ah_T} {x y : Int32} (d : decode M.2.1 pc = .ok (.ixor, 1)) (k : Wp M Q c0 s0 (pc + 1) L (.int (x ^^^ y) :: st) h) : Wp M Q c0 s0 pc L (.int y :: .int x :: st) h :=
  Wp.st (pc' := pc + 1) (st' := .int (x ^^^ y) :: st) (fun n hL hs => ⟨trivial, hs.2.2⟩) (fun σ hx hb ho ht hl k => lv_ixor hx hb d k) k
theorem ab_ishl {M : ab_M} {Q : Option Value → ah_T → Prop} {c0 s0 pc : Nat} {L : List (Option Value)} {st : List Value} {h : ah_T} {x y : Int32} (d : decode M.2.1 pc = .ok (.ishl, 1)) (k : Wp M Q c0 s0 (pc + 1) L (.int (x <<< (y &&& 31)) :: st) h) : Wp M Q c0 s0 pc L (.int y :: .int x :: st) h :=
  Wp.st (pc' := pc + 1) (st' := .int (x <<< (y &&& 31)) :: st) (fun n hL hs => ⟨trivial, hs.2.2⟩) (fun σ hx hb ho ht hl k => lv_ishl hx hb d k) k
theorem ab_ishr {M : ab_M} {Q : Option Value → ah_T → Prop} {c0 s0 pc : Nat} {L : List (Option Value)} {st : List Value} {h : ah_T} {x y : Int32} (d : decode M.2.1 pc = .ok (.ishr, 1)) (k : Wp M Q c0 s0 (pc + 1) L (.int (x >>> (y &&& 31)) :: st) h) : Wp M Q c0 s0 pc L (.int y :: .int x :: st) h :=
  Wp.st (pc' := pc + 1) (st' := .int (x >>> (y &&& 31)) :: st) (fun n hL hs => ⟨trivial, hs.2.2⟩) (fun σ hx hb ho ht hl k => lv_ishr hx hb d k) k
theorem ab_idiv {M : ab_M} {Q : Option Value → ah_T → Prop} {c0 s0 pc : Nat} {L : List (Option Value)} {st : List Value} {h : ah_T} {x y : Int32} (d : decode M.2.1 pc = .ok (.idiv, 1)) (hne : ¬ y = 0) (k : Wp M Q c0 s0 (pc + 1) L (.int (x / y) :: st) h) : Wp M Q c0 s0 pc L (.int y :: .int x :: st) h :=
  Wp.st (pc' := pc + 1) (st' := .int (x / y) :: st) (fun n hL hs => ⟨trivial, hs.2.2⟩) (fun σ hx hb ho ht hl k => lv_idiv hx hb d hne k) k
theorem ab_irem {M : ab_M} {Q : Option Value → ah_T → Prop} {c0 s0 pc : Nat} {L : List (Option Value)} {st : List Value} {h : ah_T} {x y : Int32} (d : decode M.2.1 pc = .ok (.irem, 1)) (hne : ¬ y = 0) (k : Wp M Q c0 s0 (pc + 1) L (.int (x - x / y * y) :: st) h) : Wp M Q c0 s0 pc L (.int y :: .int x :: st) h :=
  Wp.st (pc' := pc + 1) (st' := .int (x - x / y * y) :: st) (fun n hL hs => ⟨trivial, hs.2.2⟩) (fun σ hx hb ho ht hl k => lv_irem hx hb d hne k) k
theorem ab_ineg {M : ab_M} {Q : Option Value → ah_T → Prop} {c0 s0 pc : Nat} {L : List (Option Value)} {st : List Value} {h : ah_T} {x : Int32} (d : decode M.2.1 pc = .ok (.ineg, 1)) (k : Wp M Q c0 s0 (pc + 1) L (.int (-x) :: st) h) : Wp M Q c0 s0 pc L (.int x :: st) h :=
  Wp.st (pc' := pc + 1) (st' := .int (-x) :: st) (fun n hL hs => ⟨trivial, hs.2⟩) (fun σ hx hb ho ht hl k => lv_ineg hx hb d k) k
theorem ab_iushr {M : ab_M} {Q : Option Value → ah_T → Prop} {c0 s0 pc : Nat} {L : List (Option Value)} {st : List Value} {h : ah_T} {x y : Int32} (d : decode M.2.1 pc = .ok (.iushr, 1)) (k : Wp M Q c0 s0 (pc + 1) L (.int ((x.toUInt32 >>> (y.toUInt32 &&& Int32.toUInt32 31)).toInt32) :: st) h) : Wp M Q c0 s0 pc L (.int y :: .int x :: st) h :=
  Wp.st (pc' := pc + 1) (st' := .int ((x.toUInt32 >>> (y.toUInt32 &&& Int32.toUInt32 31)).toInt32) :: st) (fun n hL hs => ⟨trivial, hs.2.2⟩) (fun σ hx hb ho ht hl k => lv_iushr hx hb d rfl k) k
theorem ab_ladd {M : ab_M} {Q : Option Value → ah_T → Prop} {c0 s0 pc : Nat} {L : List (Option Value)} {st : List Value} {h : ah_T} {x y : Int64} (d : decode M.2.1 pc = .ok (.ladd, 1)) (k : Wp M Q c0 s0 (pc + 1) L (.long (x + y) :: st) h) : Wp M Q c0 s0 pc L (.long y :: .long x :: st) h :=
  Wp.st (pc' := pc + 1) (st' := .long (x + y) :: st) (fun n hL hs => ⟨trivial, hs.2.2⟩) (fun σ hx hb ho ht hl k => lv_ladd hx hb d k) k
theorem ab_lsub {M : ab_M} {Q : Option Value → ah_T → Prop} {c0 s0 pc : Nat} {L : List (Option Value)} {st : List Value} {h : ah_T} {x y : Int64} (d : decode M.2.1 pc = .ok (.lsub, 1)) (k : Wp M Q c0 s0 (pc + 1) L (.long (x - y) :: st) h) : Wp M Q c0 s0 pc L (.long y :: .long x :: st) h :=
  Wp.st (pc' := pc + 1) (st' := .long (x - y) :: st) (fun n hL hs => ⟨trivial, hs.2.2⟩) (fun σ hx hb ho ht hl k => lv_lsub hx hb d k) k
theorem ab_lmul {M : ab_M} {Q : Option Value → ah_T → Prop} {c0 s0 pc : Nat} {L : List (Option Value)} {st : List Value} {h : ah_T} {x y : Int64} (d : decode M.2.1 pc = .ok (.lmul, 1)) (k : Wp M Q c0 s0 (pc + 1) L (.long (x * y) :: st) h) : Wp M Q c0 s0 pc L (.long y :: .long x :: st) h :=
  Wp.st (pc' := pc + 1) (st' := .long (x * y) :: st) (fun n hL hs => ⟨trivial, hs.2.2⟩) (fun σ hx hb ho ht hl k => lv_lmul hx hb d k) k
theorem ab_land {M : ab_M} {Q : Option Value → ah_T → Prop} {c0 s0 pc : Nat} {L : List (Option Value)} {st : List Value} {h : ah_T} {x y : Int64} (d : decode M.2.1 pc = .ok (.land, 1)) (k : Wp M Q c0 s0 (pc + 1) L (.long (x &&& y) :: st) h) : Wp M Q c0 s0 pc L (.long y :: .long x :: st) h :=
  Wp.st (pc' := pc + 1) (st' := .long (x &&& y) :: st) (fun n hL hs => ⟨trivial, hs.2.2⟩) (fun σ hx hb ho ht hl k => lv_land hx hb d k) k
theorem ab_lor {M : ab_M} {Q : Option Value → ah_T → Prop} {c0 s0 pc : Nat} {L : List (Option Value)} {st : List Value} {h : ah_T} {x y : Int64} (d : decode M.2.1 pc = .ok (.lor, 1)) (k : Wp M Q c0 s0 (pc + 1) L (.long (x ||| y) :: st) h) : Wp M Q c0 s0 pc L (.long y :: .long x :: st) h :=
  Wp.st (pc' := pc + 1) (st' := .long (x ||| y) :: st) (fun n hL hs => ⟨trivial, hs.2.2⟩) (fun σ hx hb ho ht hl k => lv_lor hx hb d k) k
theorem ab_ldiv {M : ab_M} {Q : Option Value → ah_T → Prop} {c0 s0 pc : Nat} {L : List (Option Value)} {st : List Value} {h : ah_T} {x y : Int64} (d : decode M.2.1 pc = .ok (.ldiv, 1)) (hne : ¬ y = 0) (k : Wp M Q c0 s0 (pc + 1) L (.long (x / y) :: st) h) : Wp M Q c0 s0 pc L (.long y :: .long x :: st) h :=
  Wp.st (pc' := pc + 1) (st' := .long (x / y) :: st) (fun n hL hs => ⟨trivial, hs.2.2⟩) (fun σ hx hb ho ht hl k => lv_ldiv hx hb d hne k) k
theorem ab_lrem {M : ab_M} {Q : Option Value → ah_T → Prop} {c0 s0 pc : Nat} {L : List (Option Value)} {st : List Value} {h : ah_T} {x y : Int64} (d : decode M.2.1 pc = .ok (.lrem, 1)) (hne : ¬ y = 0) (k : Wp M Q c0 s0 (pc + 1) L (.long (x - x / y * y) :: st) h) : Wp M Q c0 s0 pc L (.long y :: .long x :: st) h :=
  Wp.st (pc' := pc + 1) (st' := .long (x - x / y * y) :: st) (fun n hL hs => ⟨trivial, hs.2.2⟩) (fun σ hx hb ho ht hl k => lv_lrem hx hb d hne k) k
theorem ab_lshl {M : ab_M} {Q : Option Value → ah_T → Prop} {c0 s0 pc : Nat} {L : List (Option Value)} {st : List Value} {h : ah_T} {x : Int64} {y : Int32} (d : decode M.2.1 pc = .ok (.lshl, 1)) (k : Wp M Q c0 s0 (pc + 1) L (.long (x <<< (y.toInt64 &&& 63)) :: st) h) : Wp M Q c0 s0 pc L (.int y :: .long x :: st) h :=
  Wp.st (pc' := pc + 1) (st' := .long (x <<< (y.toInt64 &&& 63)) :: st) (fun n hL hs => ⟨trivial, hs.2.2⟩) (fun σ hx hb ho ht hl k => lv_lshl hx hb d rfl k) k
theorem ab_lushr {M : ab_M} {Q : Option Value → ah_T → Prop} {c0 s0 pc : Nat} {L : List (Option Value)} {st : List Value} {h : ah_T} {x : Int64} {y : Int32} (d : decode M.2.1 pc = .ok (.lushr, 1)) (k : Wp M Q c0 s0 (pc + 1) L (.long ((x.toUInt64 >>> (y.toInt64.toUInt64 &&& Int64.toUInt64 63)).toInt64) :: st) h) : Wp M Q c0 s0 pc L (.int y :: .long x :: st) h :=
  Wp.st (pc' := pc + 1) (st' := .long ((x.toUInt64 >>> (y.toInt64.toUInt64 &&& Int64.toUInt64 63)).toInt64) :: st) (fun n hL hs => ⟨trivial, hs.2.2⟩) (fun σ hx hb ho ht hl k => lv_lushr hx hb d rfl k) k
theorem ab_lcmp {M : ab_M} {Q : Option Value → ah_T → Prop} {c0 s0 pc : Nat} {L : List (Option Value)} {st : List Value} {h : ah_T} {x y : Int64} (d : decode M.2.1 pc = .ok (.lcmp, 1)) (k : Wp M Q c0 s0 (pc + 1) L (.int (lg_cmp x y) :: st) h) : Wp M Q c0 s0 pc L (.long y :: .long x :: st) h :=
  Wp.st (pc' := pc + 1) (st' := .int (lg_cmp x y) :: st) (fun n hL hs => ⟨trivial, hs.2.2⟩) (fun σ hx hb ho ht hl k => W.lcmp hx hb d k) k
theorem ab_i2l {M : ab_M} {Q : Option Value → ah_T → Prop} {c0 s0 pc : Nat} {L : List (Option Value)} {st : List Value} {h : ah_T} {x : Int32} (d : decode M.2.1 pc = .ok (.i2l, 1)) (k : Wp M Q c0 s0 (pc + 1) L (.long x.toInt64 :: st) h) : Wp M Q c0 s0 pc L (.int x :: st) h :=
  Wp.st (pc' := pc + 1) (st' := .long x.toInt64 :: st) (fun n hL hs => ⟨trivial, hs.2⟩) (fun σ hx hb ho ht hl k => lv_i2l hx hb d rfl k) k
theorem ab_l2i {M : ab_M} {Q : Option Value → ah_T → Prop} {c0 s0 pc : Nat} {L : List (Option Value)} {st : List Value} {h : ah_T} {x : Int64} (d : decode M.2.1 pc = .ok (.l2i, 1)) (k : Wp M Q c0 s0 (pc + 1) L (.int x.toInt32 :: st) h) : Wp M Q c0 s0 pc L (.long x :: st) h :=
  Wp.st (pc' := pc + 1) (st' := .int x.toInt32 :: st) (fun n hL hs => ⟨trivial, hs.2⟩) (fun σ hx hb ho ht hl k => lv_l2i hx hb d rfl k) k
theorem ab_i2b {M : ab_M} {Q : Option Value → ah_T → Prop} {c0 s0 pc : Nat} {L : List (Option Value)} {st : List Value} {h : ah_T} {x : Int32} (d : decode M.2.1 pc = .ok (.i2b, 1)) (k : Wp M Q c0 s0 (pc + 1) L (.int x.toInt8.toInt32 :: st) h) : Wp M Q c0 s0 pc L (.int x :: st) h :=
  Wp.st (pc' := pc + 1) (st' := .int x.toInt8.toInt32 :: st) (fun n hL hs => ⟨trivial, hs.2⟩) (fun σ hx hb ho ht hl k => lv_i2b hx hb d rfl k) k
theorem ab_dup {M : ab_M} {Q : Option Value → ah_T → Prop} {c0 s0 pc : Nat} {L : List (Option Value)} {st : List Value} {h : ah_T} {v : Value} (d : decode M.2.1 pc = .ok (.dup, 1)) (hc : v.category = 1) (k : Wp M Q c0 s0 (pc + 1) L (v :: v :: st) h) : Wp M Q c0 s0 pc L (v :: st) h :=
  Wp.st (pc' := pc + 1) (st' := v :: v :: st) (fun n hL hs => ⟨hs.1, hs.1, hs.2⟩) (fun σ hx hb ho ht hl k => lv_dup hx hb d ((ab_v_cat σ v).trans hc) k) k
theorem ab_pop {M : ab_M} {Q : Option Value → ah_T → Prop} {c0 s0 pc : Nat} {L : List (Option Value)} {st : List Value} {h : ah_T} {v : Value} (d : decode M.2.1 pc = .ok (.pop, 1)) (hc : v.category = 1) (k : Wp M Q c0 s0 (pc + 1) L (st) h) : Wp M Q c0 s0 pc L (v :: st) h :=
  Wp.st (pc' := pc + 1) (st' := st) (fun n hL hs => hs.2) (fun σ hx hb ho ht hl k => lv_pop hx hb d ((ab_v_cat σ v).trans hc) k) k
theorem ab_dup2 {M : ab_M} {Q : Option Value → ah_T → Prop} {c0 s0 pc : Nat} {L : List (Option Value)} {st : List Value} {h : ah_T} {v w : Value} (d : decode M.2.1 pc = .ok (.dup2, 1)) (hc : v.category = 1) (hc2 : w.category = 1) (k : Wp M Q c0 s0 (pc + 1) L (v :: w :: v :: w :: st) h) : Wp M Q c0 s0 pc L (v :: w :: st) h :=
  Wp.st (pc' := pc + 1) (st' := v :: w :: v :: w :: st) (fun n hL hs => ⟨hs.1, hs.2.1, hs.1, hs.2.1, hs.2.2⟩) (fun σ hx hb ho ht hl k => lv_dup2_11 hx hb d ((ab_v_cat σ v).trans hc) ((ab_v_cat σ w).trans hc2) k) k
theorem ab_istore_n {M : ab_M} {Q : Option Value → ah_T → Prop} {c0 s0 pc : Nat} {L : List (Option Value)} {st : List Value} {h : ah_T} {j : Fin 4} {i : Nat} {x : Int32} {L' : List (Option Value)} (d : decode M.2.1 pc = .ok (.istore_n j, 1)) (hi : (j : Nat) = i) (hn : i < M.2.2.1) (hc : ab_clr L i = true) (he : L.set i (some (.int x)) = L') (k : Wp M Q c0 s0 (pc + 1) L' st h) : Wp M Q c0 s0 pc L (.int x :: st) h := by
  intro p l e s m args below meth c g A σ0 n0 C σ H locs ls S
  obtain ⟨s1, s2, s3, s4, s5, s6, s7, s8⟩ := S
  exact lv_istore_n C.1 C.2.1 d hi s6.pr hn rfl fun ls' hl => k p l e s m args below meth c g A σ0 n0 C σ H locs ls' ⟨s1, s2, s3, s4, s5, ab_lv.store1 hc he hl, s7.2, ab_okL_set s8 s7.1 he⟩
theorem ab_istore {M : ab_M} {Q : Option Value → ah_T → Prop} {c0 s0 pc : Nat} {L : List (Option Value)} {st : List Value} {h : ah_T}  {i : Nat} {x : Int32} {L' : List (Option Value)} (d : decode M.2.1 pc = .ok (.istore i, 2)) (hn : i < M.2.2.1) (hc : ab_clr L i = true) (he : L.set i (some (.int x)) = L') (k : Wp M Q c0 s0 (pc + 2) L' st h) : Wp M Q c0 s0 pc L (.int x :: st) h := by
  intro p l e s m args below meth c g A σ0 n0 C σ H locs ls S
  obtain ⟨s1, s2, s3, s4, s5, s6, s7, s8⟩ := S
  exact lv_istore C.1 C.2.1 d s6.pr hn rfl fun ls' hl => k p l e s m args below meth c g A σ0 n0 C σ H locs ls' ⟨s1, s2, s3, s4, s5, ab_lv.store1 hc he hl, s7.2, ab_okL_set s8 s7.1 he⟩
theorem ab_astore_n {M : ab_M} {Q : Option Value → ah_T → Prop} {c0 s0 pc : Nat} {L : List (Option Value)} {st : List Value} {h : ah_T} {j : Fin 4} {i : Nat} {x : Nat} {L' : List (Option Value)} (d : decode M.2.1 pc = .ok (.astore_n j, 1)) (hi : (j : Nat) = i) (hn : i < M.2.2.1) (hc : ab_clr L i = true) (he : L.set i (some (.ref x)) = L') (k : Wp M Q c0 s0 (pc + 1) L' st h) : Wp M Q c0 s0 pc L (.ref x :: st) h := by
  intro p l e s m args below meth c g A σ0 n0 C σ H locs ls S
  obtain ⟨s1, s2, s3, s4, s5, s6, s7, s8⟩ := S
  exact lv_astore_n C.1 C.2.1 d hi s6.pr hn rfl fun ls' hl => k p l e s m args below meth c g A σ0 n0 C σ H locs ls' ⟨s1, s2, s3, s4, s5, ab_lv.store1 hc he hl, s7.2, ab_okL_set s8 s7.1 he⟩
theorem ab_astore {M : ab_M} {Q : Option Value → ah_T → Prop} {c0 s0 pc : Nat} {L : List (Option Value)} {st : List Value} {h : ah_T}  {i : Nat} {x : Nat} {L' : List (Option Value)} (d : decode M.2.1 pc = .ok (.astore i, 2)) (hn : i < M.2.2.1) (hc : ab_clr L i = true) (he : L.set i (some (.ref x)) = L') (k : Wp M Q c0 s0 (pc + 2) L' st h) : Wp M Q c0 s0 pc L (.ref x :: st) h := by
  intro p l e s m args below meth c g A σ0 n0 C σ H locs ls S
  obtain ⟨s1, s2, s3, s4, s5, s6, s7, s8⟩ := S
  exact lv_astore C.1 C.2.1 d s6.pr hn rfl fun ls' hl => k p l e s m args below meth c g A σ0 n0 C σ H locs ls' ⟨s1, s2, s3, s4, s5, ab_lv.store1 hc he hl, s7.2, ab_okL_set s8 s7.1 he⟩
theorem ab_astore_nN {M : ab_M} {Q : Option Value → ah_T → Prop} {c0 s0 pc : Nat} {L : List (Option Value)} {st : List Value} {h : ah_T} {j : Fin 4} {i : Nat} {L' : List (Option Value)} (d : decode M.2.1 pc = .ok (.astore_n j, 1)) (hi : (j : Nat) = i) (hn : i < M.2.2.1) (hc : ab_clr L i = true) (he : L.set i (some .null) = L') (k : Wp M Q c0 s0 (pc + 1) L' st h) : Wp M Q c0 s0 pc L (.null :: st) h := by
  intro p l e s m args below meth c g A σ0 n0 C σ H locs ls S
  obtain ⟨s1, s2, s3, s4, s5, s6, s7, s8⟩ := S
  exact lv_astore_nN C.1 C.2.1 d hi s6.pr hn rfl fun ls' hl => k p l e s m args below meth c g A σ0 n0 C σ H locs ls' ⟨s1, s2, s3, s4, s5, ab_lv.store1 hc he hl, s7.2, ab_okL_set s8 s7.1 he⟩
theorem ab_lstore_n {M : ab_M} {Q : Option Value → ah_T → Prop} {c0 s0 pc : Nat} {L : List (Option Value)} {st : List Value} {h : ah_T} {j : Fin 4} {i : Nat} {x : Int64} {L' : List (Option Value)} (d : decode M.2.1 pc = .ok (.lstore_n j, 1)) (hi : (j : Nat) = i) (hn : i + 1 < M.2.2.1) (hc : ab_clr L i = true) (he : (L.set i (some (.long x))).set (i + 1) none = L') (k : Wp M Q c0 s0 (pc + 1) L' st h) : Wp M Q c0 s0 pc L (.long x :: st) h := by
  intro p l e s m args below meth c g A σ0 n0 C σ H locs ls S
  obtain ⟨s1, s2, s3, s4, s5, s6, s7, s8⟩ := S
  exact lv_lstore_n C.1 C.2.1 d hi s6.pr hn rfl fun ls' hl => k p l e s m args below meth c g A σ0 n0 C σ H locs ls' ⟨s1, s2, s3, s4, s5, ab_lv.store2 hc he hl, s7.2, ab_okL_set2 s8 s7.1 he⟩
theorem ab_astoreN {M : ab_M} {Q : Option Value → ah_T → Prop} {c0 s0 pc : Nat} {L : List (Option Value)} {st : List Value} {h : ah_T}  {i : Nat} {L' : List (Option Value)} (d : decode M.2.1 pc = .ok (.astore i, 2)) (hn : i < M.2.2.1) (hc : ab_clr L i = true) (he : L.set i (some .null) = L') (k : Wp M Q c0 s0 (pc + 2) L' st h) : Wp M Q c0 s0 pc L (.null :: st) h := by
  intro p l e s m args below meth c g A σ0 n0 C σ H locs ls S
  obtain ⟨s1, s2, s3, s4, s5, s6, s7, s8⟩ := S
  exact lv_astoreN C.1 C.2.1 d s6.pr hn rfl fun ls' hl => k p l e s m args below meth c g A σ0 n0 C σ H locs ls' ⟨s1, s2, s3, s4, s5, ab_lv.store1 hc he hl, s7.2, ab_okL_set s8 s7.1 he⟩
theorem ab_lstore {M : ab_M} {Q : Option Value → ah_T → Prop} {c0 s0 pc : Nat} {L : List (Option Value)} {st : List Value} {h : ah_T}  {i : Nat} {x : Int64} {L' : List (Option Value)} (d : decode M.2.1 pc = .ok (.lstore i, 2)) (hn : i + 1 < M.2.2.1) (hc : ab_clr L i = true) (he : (L.set i (some (.long x))).set (i + 1) none = L') (k : Wp M Q c0 s0 (pc + 2) L' st h) : Wp M Q c0 s0 pc L (.long x :: st) h := by
  intro p l e s m args below meth c g A σ0 n0 C σ H locs ls S
  obtain ⟨s1, s2, s3, s4, s5, s6, s7, s8⟩ := S
  exact lv_lstore C.1 C.2.1 d s6.pr hn rfl fun ls' hl => k p l e s m args below meth c g A σ0 n0 C σ H locs ls' ⟨s1, s2, s3, s4, s5, ab_lv.store2 hc he hl, s7.2, ab_okL_set2 s8 s7.1 he⟩
theorem ab_pr_at {σ : Nat → Nat} {L : List (Option Value)} {i : Nat} {v : Value} (h : L[i]? = some (some v)) : ∃ k : Nat, (ab_pr σ L)[k]? = some (i, ab_v σ v) := List.getElem?_of_mem (ab_pr_mem.mpr ⟨v, h, rfl⟩)
theorem ab_iinc {M : ab_M} {Q : Option Value → ah_T → Prop} {c0 s0 pc : Nat} {L : List (Option Value)} {st : List Value} {h : ah_T} {i : Nat} {n : Int} {x v : Int32} {L' : List (Option Value)} (d : decode M.2.1 pc = .ok (.iinc i n, 3)) (hL0 : L[i]? = some (some (.int x))) (hv : x + Int32.ofInt n = v) (hn : i < M.2.2.1) (hc : ab_clr L i = true) (he : L.set i (some (.int v)) = L') (k : Wp M Q c0 s0 (pc + 3) L' st h) : Wp M Q c0 s0 pc L st h := by
  intro p l e s m args below meth c g A σ0 n0 C σ H locs ls S
  obtain ⟨s1, s2, s3, s4, s5, s6, s7, s8⟩ := S
  obtain ⟨j, hj⟩ := ab_pr_at (σ := σ) hL0
  exact lv_iinc (k := j) C.1 C.2.1 d s6.pr hj hv hn rfl fun ls' hl => k p l e s m args below meth c g A σ0 n0 C σ H locs ls' ⟨s1, s2, s3, s4, s5, ab_lv.store1 (v := .int v) hc he hl, s7, ab_okL_set s8 (v := .int v) trivial he⟩
theorem ab_if_eq {M : ab_M} {Q : Option Value → ah_T → Prop} {c0 s0 pc : Nat} {L : List (Option Value)} {st : List Value} {h : ah_T} {x : Int32} {off : Int} {tgt : Nat} (d : decode M.2.1 pc = .ok (.ifCond .eq off, 3)) (ht : (pc : Int) + off = (tgt : Int)) (kt : x = 0 → Wp M Q c0 s0 tgt L st h) (kf : ¬ x = 0 → Wp M Q c0 s0 (pc + 3) L st h) : Wp M Q c0 s0 pc L (.int x :: st) h := by
  intro p l e s m args below meth c g A σ0 n0 C σ H locs ls S
  obtain ⟨s1, s2, s3, s4, s5, s6, s7, s8⟩ := S
  exact lv_if_eq C.1 C.2.1 d ht (fun q => kt q p l e s m args below meth c g A σ0 n0 C σ H locs ls ⟨s1, s2, s3, s4, s5, s6, s7.2, s8⟩) (fun q => kf q p l e s m args below meth c g A σ0 n0 C σ H locs ls ⟨s1, s2, s3, s4, s5, s6, s7.2, s8⟩)
theorem ab_icmp_eq {M : ab_M} {Q : Option Value → ah_T → Prop} {c0 s0 pc : Nat} {L : List (Option Value)} {st : List Value} {h : ah_T} {x y : Int32} {off : Int} {tgt : Nat} (d : decode M.2.1 pc = .ok (.if_icmp .eq off, 3)) (ht : (pc : Int) + off = (tgt : Int)) (kt : x = y → Wp M Q c0 s0 tgt L st h) (kf : ¬ x = y → Wp M Q c0 s0 (pc + 3) L st h) : Wp M Q c0 s0 pc L (.int y :: .int x :: st) h := by
  intro p l e s m args below meth c g A σ0 n0 C σ H locs ls S
  obtain ⟨s1, s2, s3, s4, s5, s6, s7, s8⟩ := S
  exact lv_icmp_eq C.1 C.2.1 d ht (fun q => kt q p l e s m args below meth c g A σ0 n0 C σ H locs ls ⟨s1, s2, s3, s4, s5, s6, s7.2.2, s8⟩) (fun q => kf q p l e s m args below meth c g A σ0 n0 C σ H locs ls ⟨s1, s2, s3, s4, s5, s6, s7.2.2, s8⟩)
theorem ab_if_ne {M : ab_M} {Q : Option Value → ah_T → Prop} {c0 s0 pc : Nat} {L : List (Option Value)} {st : List Value} {h : ah_T} {x : Int32} {off : Int} {tgt : Nat} (d : decode M.2.1 pc = .ok (.ifCond .ne off, 3)) (ht : (pc : Int) + off = (tgt : Int)) (kt : ¬ x = 0 → Wp M Q c0 s0 tgt L st h) (kf : x = 0 → Wp M Q c0 s0 (pc + 3) L st h) : Wp M Q c0 s0 pc L (.int x :: st) h := by
  intro p l e s m args below meth c g A σ0 n0 C σ H locs ls S
  obtain ⟨s1, s2, s3, s4, s5, s6, s7, s8⟩ := S
  exact lv_if_ne C.1 C.2.1 d ht (fun q => kt q p l e s m args below meth c g A σ0 n0 C σ H locs ls ⟨s1, s2, s3, s4, s5, s6, s7.2, s8⟩) (fun q => kf q p l e s m args below meth c g A σ0 n0 C σ H locs ls ⟨s1, s2, s3, s4, s5, s6, s7.2, s8⟩)
theorem ab_icmp_ne {M : ab_M} {Q : Option Value → ah_T → Prop} {c0 s0 pc : Nat} {L : List (Option Value)} {st : List Value} {h : ah_T} {x y : Int32} {off : Int} {tgt : Nat} (d : decode M.2.1 pc = .ok (.if_icmp .ne off, 3)) (ht : (pc : Int) + off = (tgt : Int)) (kt : ¬ x = y → Wp M Q c0 s0 tgt L st h) (kf : x = y → Wp M Q c0 s0 (pc + 3) L st h) : Wp M Q c0 s0 pc L (.int y :: .int x :: st) h := by
  intro p l e s m args below meth c g A σ0 n0 C σ H locs ls S
  obtain ⟨s1, s2, s3, s4, s5, s6, s7, s8⟩ := S
  exact lv_icmp_ne C.1 C.2.1 d ht (fun q => kt q p l e s m args below meth c g A σ0 n0 C σ H locs ls ⟨s1, s2, s3, s4, s5, s6, s7.2.2, s8⟩) (fun q => kf q p l e s m args below meth c g A σ0 n0 C σ H locs ls ⟨s1, s2, s3, s4, s5, s6, s7.2.2, s8⟩)
theorem ab_if_lt {M : ab_M} {Q : Option Value → ah_T → Prop} {c0 s0 pc : Nat} {L : List (Option Value)} {st : List Value} {h : ah_T} {x : Int32} {off : Int} {tgt : Nat} (d : decode M.2.1 pc = .ok (.ifCond .lt off, 3)) (ht : (pc : Int) + off = (tgt : Int)) (kt : x < 0 → Wp M Q c0 s0 tgt L st h) (kf : ¬ x < 0 → Wp M Q c0 s0 (pc + 3) L st h) : Wp M Q c0 s0 pc L (.int x :: st) h := by
  intro p l e s m args below meth c g A σ0 n0 C σ H locs ls S
  obtain ⟨s1, s2, s3, s4, s5, s6, s7, s8⟩ := S
  exact lv_if_lt C.1 C.2.1 d ht (fun q => kt q p l e s m args below meth c g A σ0 n0 C σ H locs ls ⟨s1, s2, s3, s4, s5, s6, s7.2, s8⟩) (fun q => kf q p l e s m args below meth c g A σ0 n0 C σ H locs ls ⟨s1, s2, s3, s4, s5, s6, s7.2, s8⟩)
theorem ab_icmp_lt {M : ab_M} {Q : Option Value → ah_T → Prop} {c0 s0 pc : Nat} {L : List (Option Value)} {st : List Value} {h : ah_T} {x y : Int32} {off : Int} {tgt : Nat} (d : decode M.2.1 pc = .ok (.if_icmp .lt off, 3)) (ht : (pc : Int) + off = (tgt : Int)) (kt : x < y → Wp M Q c0 s0 tgt L st h) (kf : ¬ x < y → Wp M Q c0 s0 (pc + 3) L st h) : Wp M Q c0 s0 pc L (.int y :: .int x :: st) h := by
  intro p l e s m args below meth c g A σ0 n0 C σ H locs ls S
  obtain ⟨s1, s2, s3, s4, s5, s6, s7, s8⟩ := S
  exact lv_icmp_lt C.1 C.2.1 d ht (fun q => kt q p l e s m args below meth c g A σ0 n0 C σ H locs ls ⟨s1, s2, s3, s4, s5, s6, s7.2.2, s8⟩) (fun q => kf q p l e s m args below meth c g A σ0 n0 C σ H locs ls ⟨s1, s2, s3, s4, s5, s6, s7.2.2, s8⟩)
theorem ab_if_ge {M : ab_M} {Q : Option Value → ah_T → Prop} {c0 s0 pc : Nat} {L : List (Option Value)} {st : List Value} {h : ah_T} {x : Int32} {off : Int} {tgt : Nat} (d : decode M.2.1 pc = .ok (.ifCond .ge off, 3)) (ht : (pc : Int) + off = (tgt : Int)) (kt : 0 ≤ x → Wp M Q c0 s0 tgt L st h) (kf : ¬ 0 ≤ x → Wp M Q c0 s0 (pc + 3) L st h) : Wp M Q c0 s0 pc L (.int x :: st) h := by
  intro p l e s m args below meth c g A σ0 n0 C σ H locs ls S
  obtain ⟨s1, s2, s3, s4, s5, s6, s7, s8⟩ := S
  exact lv_if_ge C.1 C.2.1 d ht (fun q => kt q p l e s m args below meth c g A σ0 n0 C σ H locs ls ⟨s1, s2, s3, s4, s5, s6, s7.2, s8⟩) (fun q => kf q p l e s m args below meth c g A σ0 n0 C σ H locs ls ⟨s1, s2, s3, s4, s5, s6, s7.2, s8⟩)
theorem ab_icmp_ge {M : ab_M} {Q : Option Value → ah_T → Prop} {c0 s0 pc : Nat} {L : List (Option Value)} {st : List Value} {h : ah_T} {x y : Int32} {off : Int} {tgt : Nat} (d : decode M.2.1 pc = .ok (.if_icmp .ge off, 3)) (ht : (pc : Int) + off = (tgt : Int)) (kt : y ≤ x → Wp M Q c0 s0 tgt L st h) (kf : ¬ y ≤ x → Wp M Q c0 s0 (pc + 3) L st h) : Wp M Q c0 s0 pc L (.int y :: .int x :: st) h := by
  intro p l e s m args below meth c g A σ0 n0 C σ H locs ls S
  obtain ⟨s1, s2, s3, s4, s5, s6, s7, s8⟩ := S
  exact lv_icmp_ge C.1 C.2.1 d ht (fun q => kt q p l e s m args below meth c g A σ0 n0 C σ H locs ls ⟨s1, s2, s3, s4, s5, s6, s7.2.2, s8⟩) (fun q => kf q p l e s m args below meth c g A σ0 n0 C σ H locs ls ⟨s1, s2, s3, s4, s5, s6, s7.2.2, s8⟩)
theorem ab_if_gt {M : ab_M} {Q : Option Value → ah_T → Prop} {c0 s0 pc : Nat} {L : List (Option Value)} {st : List Value} {h : ah_T} {x : Int32} {off : Int} {tgt : Nat} (d : decode M.2.1 pc = .ok (.ifCond .gt off, 3)) (ht : (pc : Int) + off = (tgt : Int)) (kt : 0 < x → Wp M Q c0 s0 tgt L st h) (kf : ¬ 0 < x → Wp M Q c0 s0 (pc + 3) L st h) : Wp M Q c0 s0 pc L (.int x :: st) h := by
  intro p l e s m args below meth c g A σ0 n0 C σ H locs ls S
  obtain ⟨s1, s2, s3, s4, s5, s6, s7, s8⟩ := S
  exact lv_if_gt C.1 C.2.1 d ht (fun q => kt q p l e s m args below meth c g A σ0 n0 C σ H locs ls ⟨s1, s2, s3, s4, s5, s6, s7.2, s8⟩) (fun q => kf q p l e s m args below meth c g A σ0 n0 C σ H locs ls ⟨s1, s2, s3, s4, s5, s6, s7.2, s8⟩)
theorem ab_icmp_gt {M : ab_M} {Q : Option Value → ah_T → Prop} {c0 s0 pc : Nat} {L : List (Option Value)} {st : List Value} {h : ah_T} {x y : Int32} {off : Int} {tgt : Nat} (d : decode M.2.1 pc = .ok (.if_icmp .gt off, 3)) (ht : (pc : Int) + off = (tgt : Int)) (kt : y < x → Wp M Q c0 s0 tgt L st h) (kf : ¬ y < x → Wp M Q c0 s0 (pc + 3) L st h) : Wp M Q c0 s0 pc L (.int y :: .int x :: st) h := by
  intro p l e s m args below meth c g A σ0 n0 C σ H locs ls S
  obtain ⟨s1, s2, s3, s4, s5, s6, s7, s8⟩ := S
  exact lv_icmp_gt C.1 C.2.1 d ht (fun q => kt q p l e s m args below meth c g A σ0 n0 C σ H locs ls ⟨s1, s2, s3, s4, s5, s6, s7.2.2, s8⟩) (fun q => kf q p l e s m args below meth c g A σ0 n0 C σ H locs ls ⟨s1, s2, s3, s4, s5, s6, s7.2.2, s8⟩)
theorem ab_if_le {M : ab_M} {Q : Option Value → ah_T → Prop} {c0 s0 pc : Nat} {L : List (Option Value)} {st : List Value} {h : ah_T} {x : Int32} {off : Int} {tgt : Nat} (d : decode M.2.1 pc = .ok (.ifCond .le off, 3)) (ht : (pc : Int) + off = (tgt : Int)) (kt : x ≤ 0 → Wp M Q c0 s0 tgt L st h) (kf : ¬ x ≤ 0 → Wp M Q c0 s0 (pc + 3) L st h) : Wp M Q c0 s0 pc L (.int x :: st) h := by
  intro p l e s m args below meth c g A σ0 n0 C σ H locs ls S
  obtain ⟨s1, s2, s3, s4, s5, s6, s7, s8⟩ := S
  exact lv_if_le C.1 C.2.1 d ht (fun q => kt q p l e s m args below meth c g A σ0 n0 C σ H locs ls ⟨s1, s2, s3, s4, s5, s6, s7.2, s8⟩) (fun q => kf q p l e s m args below meth c g A σ0 n0 C σ H locs ls ⟨s1, s2, s3, s4, s5, s6, s7.2, s8⟩)
theorem ab_icmp_le {M : ab_M} {Q : Option Value → ah_T → Prop} {c0 s0 pc : Nat} {L : List (Option Value)} {st : List Value} {h : ah_T} {x y : Int32} {off : Int} {tgt : Nat} (d : decode M.2.1 pc = .ok (.if_icmp .le off, 3)) (ht : (pc : Int) + off = (tgt : Int)) (kt : x ≤ y → Wp M Q c0 s0 tgt L st h) (kf : ¬ x ≤ y → Wp M Q c0 s0 (pc + 3) L st h) : Wp M Q c0 s0 pc L (.int y :: .int x :: st) h := by
  intro p l e s m args below meth c g A σ0 n0 C σ H locs ls S
  obtain ⟨s1, s2, s3, s4, s5, s6, s7, s8⟩ := S
  exact lv_icmp_le C.1 C.2.1 d ht (fun q => kt q p l e s m args below meth c g A σ0 n0 C σ H locs ls ⟨s1, s2, s3, s4, s5, s6, s7.2.2, s8⟩) (fun q => kf q p l e s m args below meth c g A σ0 n0 C σ H locs ls ⟨s1, s2, s3, s4, s5, s6, s7.2.2, s8⟩)
theorem ab_goto {M : ab_M} {Q : Option Value → ah_T → Prop} {c0 s0 pc : Nat} {L : List (Option Value)} {st : List Value} {h : ah_T} {off : Int} {tgt : Nat} (d : decode M.2.1 pc = .ok (.goto off, 3)) (ht : (pc : Int) + off = (tgt : Int)) (k : Wp M Q c0 s0 tgt L st h) : Wp M Q c0 s0 pc L st h := Wp.st (fun _ _ hs => hs) (fun σ hx hb _ _ _ k => lv_goto hx hb d ht k) k
theorem ab_nonnull {M : ab_M} {Q : Option Value → ah_T → Prop} {c0 s0 pc : Nat} {L : List (Option Value)} {st : List Value} {h : ah_T} {a : Nat} {off : Int} {tgt : Nat} (d : decode M.2.1 pc = .ok (.ifnonnull off, 3)) (ht : (pc : Int) + off = (tgt : Int)) (k : Wp M Q c0 s0 tgt L st h) : Wp M Q c0 s0 pc L (.ref a :: st) h := Wp.st (fun _ _ hs => hs.2) (fun σ hx hb _ _ _ k => lv_ifnonnull hx hb d ht k) k
theorem ab_nonnullN {M : ab_M} {Q : Option Value → ah_T → Prop} {c0 s0 pc : Nat} {L : List (Option Value)} {st : List Value} {h : ah_T} {off : Int} (d : decode M.2.1 pc = .ok (.ifnonnull off, 3)) (k : Wp M Q c0 s0 (pc + 3) L st h) : Wp M Q c0 s0 pc L (.null :: st) h := Wp.st (fun _ _ hs => hs.2) (fun σ hx hb _ _ _ k => lv_ifnonnullN hx hb d k) k
theorem ab_isnull {M : ab_M} {Q : Option Value → ah_T → Prop} {c0 s0 pc : Nat} {L : List (Option Value)} {st : List Value} {h : ah_T} {a : Nat} {off : Int} (d : decode M.2.1 pc = .ok (.ifnull off, 3)) (k : Wp M Q c0 s0 (pc + 3) L st h) : Wp M Q c0 s0 pc L (.ref a :: st) h := Wp.st (fun _ _ hs => hs.2) (fun σ hx hb _ _ _ k => lv_ifnull hx hb d k) k
theorem ab_isnullN {M : ab_M} {Q : Option Value → ah_T → Prop} {c0 s0 pc : Nat} {L : List (Option Value)} {st : List Value} {h : ah_T} {off : Int} {tgt : Nat} (d : decode M.2.1 pc = .ok (.ifnull off, 3)) (ht : (pc : Int) + off = (tgt : Int)) (k : Wp M Q c0 s0 tgt L st h) : Wp M Q c0 s0 pc L (.null :: st) h := Wp.st (fun _ _ hs => hs.2) (fun σ hx hb _ _ _ k => lv_ifnullN hx hb d ht k) k
theorem ab_tableOut {M : ab_M} {Q : Option Value → ah_T → Prop} {c0 s0 pc : Nat} {L : List (Option Value)} {st : List Value} {h : ah_T} {dflt lo hi : Int} {offs : Array Int} {len : Nat} {x : Int32} {tgt : Nat} (d : decode M.2.1 pc = .ok (.tableswitch dflt lo hi offs, len)) (hq : x.toInt < lo ∨ hi < x.toInt) (ht : (pc : Int) + dflt = (tgt : Int)) (k : Wp M Q c0 s0 tgt L st h) : Wp M Q c0 s0 pc L (.int x :: st) h := Wp.st (fun _ _ hs => hs.2) (fun σ hx hb _ _ _ k => lv_tableOut hx hb d hq ht k) k
theorem ab_tableIn {M : ab_M} {Q : Option Value → ah_T → Prop} {c0 s0 pc : Nat} {L : List (Option Value)} {st : List Value} {h : ah_T} {dflt lo hi : Int} {offs : Array Int} {len : Nat} {x : Int32} {off : Int} {tgt : Nat} (d : decode M.2.1 pc = .ok (.tableswitch dflt lo hi offs, len)) (h1 : ¬ x.toInt < lo) (h2 : ¬ hi < x.toInt) (ho : offs[(x.toInt - lo).toNat]? = some off) (ht : (pc : Int) + off = (tgt : Int)) (k : Wp M Q c0 s0 tgt L st h) : Wp M Q c0 s0 pc L (.int x :: st) h := Wp.st (fun _ _ hs => hs.2) (fun σ hx hb _ _ _ k => lv_tableIn hx hb d h1 h2 ho ht k) k
theorem ab_map_inj {σ : Nat → Nat} {n : Nat} (hi : ∀ a b, a < n → b < n → σ a = σ b → a = b) {x y : Option Nat} (hx : ab_ok n (va_rf x)) (hy : ab_ok n (va_rf y)) (e : x.map σ = y.map σ) : x = y := by
  cases x with
  | none => cases y with
    | none => rfl
    | some b => cases e
  | some a => cases y with
    | none => cases e
    | some b => exact congrArg some (hi a b hx hy (Option.some.inj e))
theorem ab_acmp_ne {M : ab_M} {Q : Option Value → ah_T → Prop} {c0 s0 pc : Nat} {L : List (Option Value)} {st : List Value} {h : ah_T} {rx ry : Option Nat} {off : Int} {tgt : Nat} (d : decode M.2.1 pc = .ok (.if_acmp .ne off, 3)) (ht : (pc : Int) + off = (tgt : Int)) (kt : ¬ rx = ry → Wp M Q c0 s0 tgt L st h) (kf : rx = ry → Wp M Q c0 s0 (pc + 3) L st h) : Wp M Q c0 s0 pc L (va_rf ry :: va_rf rx :: st) h := by
  intro p l e s m args below meth c g A σ0 n0 C σ H locs ls S
  obtain ⟨s1, s2, s3, s4, s5, s6, s7, s8⟩ := S
  rw [List.map_cons, List.map_cons, ab_v_rf, ab_v_rf]
  exact lv_acmp_ne C.1 C.2.1 d ht (fun q => kt (fun e => q (by rw [e])) p l e s m args below meth c g A σ0 n0 C σ H locs ls ⟨s1, s2, s3, s4, s5, s6, s7.2.2, s8⟩) (fun q => kf (ab_map_inj s3.2.1 s7.2.1 s7.1 q) p l e s m args below meth c g A σ0 n0 C σ H locs ls ⟨s1, s2, s3, s4, s5, s6, s7.2.2, s8⟩)
theorem ab_out {M : ab_M} {g : ab_G} {A : Nat → Prop} {σ0 : Nat → Nat} {n0 : Nat} {s : State} {σ : Nat → Nat} {H : Heap} {locs : List Loc} {ls : Array Slot} {L : List (Option Value)} {st : List Value} {h : ah_T} {Q : Option Value → ah_T → Prop} {r : Option Value} {t : State} (S : ab_S M g A σ0 n0 s σ H locs ls L st h) (ht : t.heap = H) (hq : Q r h) (hr : ab_okS (ah_x h) r.toList) : ab_O g σ0 n0 A Q (.returned (r.map (ab_v σ))) t ∧ va_F A s t := by
  obtain ⟨s1, s2, s3, s4, s5, s6, s7, s8⟩ := S
  exact ⟨⟨r, h, σ, rfl, hq, s1, s2, by rw [ht]; exact s3, s4, hr⟩, s5.F ht⟩
theorem ab_iret {M : ab_M} {Q : Option Value → ah_T → Prop} {c0 s0 pc : Nat} {L : List (Option Value)} {h : ah_T} {v : Int32} (hr : M.2.2.2.1 = some .int) (d : decode M.2.1 pc = .ok (.ireturn, 1)) (hc : c0 ≤ M.2.2.2.2.2.1) (hs : s0 ≤ M.2.2.2.2.2.2) (hq : Q (some (.int v)) h) : Wp M Q c0 s0 pc L [.int v] h := by
  intro p l e s m args below meth c g A σ0 n0 C σ H locs ls S
  have hlocks : meth.locks = false := C.2.2.2.2.1
  refine W.widen (k := M.2.2.2.2.2.1) (n := M.2.2.2.2.2.2) hc hs ?_
  exact W.iret (v := v) C.1 C.2.1 (C.2.2.2.1.trans hr) (fun t ht hW => ab_out (r := some (.int v)) S ht hq ⟨trivial, trivial⟩) S.2.2.2.2.1.2.2 d
theorem ab_zret {M : ab_M} {Q : Option Value → ah_T → Prop} {c0 s0 pc : Nat} {L : List (Option Value)} {h : ah_T} {v : Int32} (hr : M.2.2.2.1 = some .boolean) (hn : narrow .boolean (.int v) = .int v) (d : decode M.2.1 pc = .ok (.ireturn, 1)) (hc : c0 ≤ M.2.2.2.2.2.1) (hs : s0 ≤ M.2.2.2.2.2.2) (hq : Q (some (.int v)) h) : Wp M Q c0 s0 pc L [.int v] h := by
  intro p l e s m args below meth c g A σ0 n0 C σ H locs ls S
  have hlocks : meth.locks = false := C.2.2.2.2.1
  refine W.widen (k := M.2.2.2.2.2.1) (n := M.2.2.2.2.2.2) hc hs ?_
  exact W.zret (v := v) (ty := .boolean) C.1 C.2.1 (C.2.2.2.1.trans hr) hn (fun t ht hW => ab_out (r := some (.int v)) S ht hq ⟨trivial, trivial⟩) S.2.2.2.2.1.2.2 d
theorem ab_vret {M : ab_M} {Q : Option Value → ah_T → Prop} {c0 s0 pc : Nat} {L : List (Option Value)} {h : ah_T} (hr : M.2.2.2.1 = none) (d : decode M.2.1 pc = .ok (.return_, 1)) (hc : c0 ≤ M.2.2.2.2.2.1) (hs : s0 ≤ M.2.2.2.2.2.2) (hq : Q none h) : Wp M Q c0 s0 pc L [] h := by
  intro p l e s m args below meth c g A σ0 n0 C σ H locs ls S
  have hlocks : meth.locks = false := C.2.2.2.2.1
  refine W.widen (k := M.2.2.2.2.2.1) (n := M.2.2.2.2.2.2) hc hs ?_
  exact W.vret C.1 C.2.1 (C.2.2.2.1.trans hr) (fun t ht hW => ab_out (r := none) S ht hq trivial) S.2.2.2.2.1.2.2 d
theorem ab_lret {M : ab_M} {Q : Option Value → ah_T → Prop} {c0 s0 pc : Nat} {L : List (Option Value)} {h : ah_T} {v : Int64} (hr : M.2.2.2.1 = some .long) (d : decode M.2.1 pc = .ok (.lreturn, 1)) (hc : c0 ≤ M.2.2.2.2.2.1) (hs : s0 ≤ M.2.2.2.2.2.2) (hq : Q (some (.long v)) h) : Wp M Q c0 s0 pc L [.long v] h := by
  intro p l e s m args below meth c g A σ0 n0 C σ H locs ls S
  have hlocks : meth.locks = false := C.2.2.2.2.1
  refine W.widen (k := M.2.2.2.2.2.1) (n := M.2.2.2.2.2.2) hc hs ?_
  exact W.lret (v := v) C.1 C.2.1 (C.2.2.2.1.trans hr) (fun t ht hW => ab_out (r := some (.long v)) S ht hq ⟨trivial, trivial⟩) S.2.2.2.2.1.2.2 d
theorem ab_aret {M : ab_M} {Q : Option Value → ah_T → Prop} {c0 s0 pc : Nat} {L : List (Option Value)} {h : ah_T} {r : Option Nat} {rt : FieldType} (hr : M.2.2.2.1 = some rt) (hrt : (∃ n, rt = .object n) ∨ ∃ t, rt = .array t) (d : decode M.2.1 pc = .ok (.areturn, 1)) (hc : c0 ≤ M.2.2.2.2.2.1) (hs : s0 ≤ M.2.2.2.2.2.2) (hq : Q (some (va_rf r)) h) : Wp M Q c0 s0 pc L [va_rf r] h := by
  intro p l e s m args below meth c g A σ0 n0 C σ H locs ls S
  have hlocks : meth.locks = false := C.2.2.2.2.1
  refine W.widen (k := M.2.2.2.2.2.1) (n := M.2.2.2.2.2.2) hc hs ?_
  exact W.aret (v := ab_v σ (va_rf r)) (rt := rt) C.1 C.2.1 (C.2.2.2.1.trans hr) hrt (by rw [ab_v_rf]; cases r with | none => exact Or.inl rfl | some a => exact Or.inr ⟨_, rfl⟩) (fun t ht hW => ab_out (r := some (va_rf r)) S ht hq ⟨S.2.2.2.2.2.2.1.1, trivial⟩) S.2.2.2.2.1.2.2 d
