/-! ===== rows of instructions: arrays, new cells ===== -/
theorem ab_E_i {y : Nat → ClassId} {σ : Nat → Nat} {h : ah_T} {a c : Nat} (hk : ah_k h a = c) (hc : c = 13 ∨ c = 14 ∨ c = 16) : ab_E y σ h a = .inl (y c, ah_n h a, .inl (ah_i h a)) := by
  subst hk
  unfold ab_E
  rcases hc with q | q | q <;> rw [q] <;> rfl
theorem ab_E_l {y : Nat → ClassId} {σ : Nat → Nat} {h : ah_T} {a : Nat} (hk : ah_k h a = 15) : ab_E y σ h a = .inl (y 15, ah_n h a, .inr (.inl (ah_l h a))) := by
  unfold ab_E
  rw [hk]; rfl
theorem ab_E_r {y : Nat → ClassId} {σ : Nat → Nat} {h : ah_T} {a c : Nat} (hk : ah_k h a = c) (hc : c = 17 ∨ c = 18) : ab_E y σ h a = .inl (y c, ah_n h a, .inr (.inr (.inr (.inr (fun j => (ah_r h a j).map σ))))) := by
  subst hk
  unfold ab_E
  rcases hc with q | q <;> rw [q] <;> rfl
theorem va_RA_det {s : State} {cA cB : ClassId} {ty : FieldType} (h1 : va_RA s cA ty) (h2 : va_RA s cB ty) : cA = cB := by
  cases ty with
  | object C =>
    obtain ⟨_, _, _, _, _, e1⟩ := h1
    obtain ⟨_, _, _, _, _, e2⟩ := h2
    exact Option.some.inj (e1.symm.trans e2)
  | _ => exact Option.some.inj ((show s.vm.findClass _ = some cA from h1).symm.trans (show s.vm.findClass _ = some cB from h2))
section ARR
variable {M : ab_M} {Q : Option Value → ah_T → Prop} {c0 s0 pc : Nat} {L : List (Option Value)} {st : List Value} {h : ah_T} {a : Nat}
/-- behind a store: one cell is another -/
theorem ab_go {p : Program} {l : Launch} {e : Env} {s : State} {m : MethodId} {args : Array Value} {below : List Frame} {meth : Method} {c : Code} {g : ab_G} {A : Nat → Prop} {σ0 : Nat → Nat} {n0 : Nat} {σ : Nat → Nat} {H H1 : Heap} {locs locs1 : List Loc} {ls : Array Slot} {pc' : Nat} {st' : List Value} {h' : ah_T} {ev : va_E}
    (kk : Wp M Q c0 s0 pc' L st' h') (C : ab_C M p s m args meth c g A) (S : ab_S M g A σ0 n0 s σ H locs ls L st h) (hx : ah_x h' = ah_x h) (e1 : ∀ b, ah_k h' b = ah_k h b) (e2 : ∀ b, ah_n h' b = ah_n h b) (e3 : ∀ b j, b ≠ a → ah_i h' b j = ah_i h b j) (e4 : ∀ b j, b ≠ a → ah_l h' b j = ah_l h b j) (e5 : ∀ b j, b ≠ a → ah_r h' b j = ah_r h b j)
    (hcl : ∀ j b, ah_r h' a j = some b → ah_r h a j = some b ∨ b < ah_x h) (hok : ab_okS (ah_x h) st') (he : ab_E g.2.1 σ h' a = ev) (hP1 : va_P g.1 vwCl ((ab_ws g.2.1 σ h).set a (σ a, ev)) H1) (hS1 : va_S A s.heap H1 locs1) :
    W p l e (ab_rm M) s m args below meth c H1 locs1 c0 s0 (ab_P below g σ0 n0 A Q args s M.2.2.2.2.2.1 M.2.2.2.2.2.2) (F0 m pc' ls (st'.map (ab_v σ))) := by
  obtain ⟨s1, s2, s3, s4, s5, s6, s7, s8⟩ := S
  rw [ab_ws_set (h' := h') hx ev he (fun b hb => ab_E_same (e1 b) (e2 b) (fun j => e3 b j hb) (fun j => e4 b j hb) (fun j => e5 b j hb))] at hP1
  refine kk p l e s m args below meth c g A σ0 n0 C σ H1 locs1 ls ⟨s1, by rw [hx]; exact s2, ⟨hP1, by rw [hx]; exact s3.2.1, fun b hb => by rw [hx]; exact s3.2.2.1 b (by rw [← e1]; exact hb), ?_⟩, by rw [hx]; exact s4, hS1, s6, by rw [hx]; exact hok, by rw [hx]; exact s8⟩
  intro b j q hb hq
  rw [hx] at hb ⊢
  by_cases hba : b = a
  · subst hba
    rcases hcl j q hq with h1 | h1
    · exact s3.2.2.2 b j q hb h1
    · exact h1
  · rw [e5 b j hba] at hq
    exact s3.2.2.2 b j q hb hq
theorem ab_iald {i : Int32} (hk : ah_k h a = 14) (hin : vp_in i (ah_n h a)) (d : decode M.2.1 pc = .ok (.iaload, 1)) (kk : Wp M Q c0 s0 (pc + 1) L (.int (ah_i h a i.toNatClampNeg) :: st) h) : Wp M Q c0 s0 pc L (.int i :: .ref a :: st) h := by
  intro p l e s m args below meth c g A σ0 n0 C σ H locs ls S
  obtain ⟨s1, s2, s3, s4, s5, s6, s7, s8⟩ := S
  have ha : a < ah_x h := s3.2.2.1 a (by rw [hk]; omega)
  exact va_iald (D := g.1) (cl := vwCl) C.1 C.2.1 C.2.2.2.2.2.2.2.1 s3.1 a 1 (cA := g.2.1 14) (n := ah_n h a) (f := ah_i h a) (by rw [ab_ws_at ha, ab_E_i hk (by omega)]) rfl hin d (kk p l e s m args below meth c g A σ0 n0 C σ H locs ls ⟨s1, s2, s3, s4, s5, s6, ⟨trivial, s7.2.2⟩, s8⟩)
theorem ab_bald {i : Int32} (hk : ah_k h a = 13) (hin : vp_in i (ah_n h a)) (d : decode M.2.1 pc = .ok (.baload, 1)) (kk : Wp M Q c0 s0 (pc + 1) L (.int (ah_i h a i.toNatClampNeg) :: st) h) : Wp M Q c0 s0 pc L (.int i :: .ref a :: st) h := by
  intro p l e s m args below meth c g A σ0 n0 C σ H locs ls S
  obtain ⟨s1, s2, s3, s4, s5, s6, s7, s8⟩ := S
  have ha : a < ah_x h := s3.2.2.1 a (by rw [hk]; omega)
  exact va_bald (D := g.1) (cl := vwCl) C.1 C.2.1 C.2.2.2.2.2.2.2.1 s3.1 a 0 (cA := g.2.1 13) (n := ah_n h a) (f := ah_i h a) (by rw [ab_ws_at ha, ab_E_i hk (by omega)]) rfl hin d (kk p l e s m args below meth c g A σ0 n0 C σ H locs ls ⟨s1, s2, s3, s4, s5, s6, ⟨trivial, s7.2.2⟩, s8⟩)
theorem ab_zald {i : Int32} (hk : ah_k h a = 16) (hin : vp_in i (ah_n h a)) (d : decode M.2.1 pc = .ok (.baload, 1)) (kk : Wp M Q c0 s0 (pc + 1) L (.int (ah_i h a i.toNatClampNeg) :: st) h) : Wp M Q c0 s0 pc L (.int i :: .ref a :: st) h := by
  intro p l e s m args below meth c g A σ0 n0 C σ H locs ls S
  obtain ⟨s1, s2, s3, s4, s5, s6, s7, s8⟩ := S
  have ha : a < ah_x h := s3.2.2.1 a (by rw [hk]; omega)
  exact va_zald (D := g.1) (cl := vwCl) C.1 C.2.1 C.2.2.2.2.2.2.2.1 s3.1 a 3 (cA := g.2.1 16) (n := ah_n h a) (f := ah_i h a) (by rw [ab_ws_at ha, ab_E_i hk (by omega)]) rfl hin d (kk p l e s m args below meth c g A σ0 n0 C σ H locs ls ⟨s1, s2, s3, s4, s5, s6, ⟨trivial, s7.2.2⟩, s8⟩)
theorem ab_lald {i : Int32} (hk : ah_k h a = 15) (hin : vp_in i (ah_n h a)) (d : decode M.2.1 pc = .ok (.laload, 1)) (kk : Wp M Q c0 s0 (pc + 1) L (.long (ah_l h a i.toNatClampNeg) :: st) h) : Wp M Q c0 s0 pc L (.int i :: .ref a :: st) h := by
  intro p l e s m args below meth c g A σ0 n0 C σ H locs ls S
  obtain ⟨s1, s2, s3, s4, s5, s6, s7, s8⟩ := S
  have ha : a < ah_x h := s3.2.2.1 a (by rw [hk]; omega)
  exact va_lald (D := g.1) (cl := vwCl) C.1 C.2.1 C.2.2.2.2.2.2.2.1 s3.1 a 2 (cA := g.2.1 15) (n := ah_n h a) (f := ah_l h a) (by rw [ab_ws_at ha, ab_E_l hk]) rfl hin d (kk p l e s m args below meth c g A σ0 n0 C σ H locs ls ⟨s1, s2, s3, s4, s5, s6, ⟨trivial, s7.2.2⟩, s8⟩)
theorem ab_aald {i : Int32} {r : Option Nat} (ck : Nat) (hck : ck = 17 ∨ ck = 18) (hk : ah_k h a = ck) (hin : vp_in i (ah_n h a)) (hr : ah_r h a i.toNatClampNeg = r) (d : decode M.2.1 pc = .ok (.aaload, 1)) (kk : Wp M Q c0 s0 (pc + 1) L (va_rf r :: st) h) : Wp M Q c0 s0 pc L (.int i :: .ref a :: st) h := by
  intro p l e s m args below meth c g A σ0 n0 C σ H locs ls S
  obtain ⟨s1, s2, s3, s4, s5, s6, s7, s8⟩ := S
  have ha : a < ah_x h := s3.2.2.1 a (by rw [hk]; omega)
  have hok : ab_ok (ah_x h) (va_rf r) := by
    cases hr' : r with
    | none => exact trivial
    | some b => exact s3.2.2.2 a _ b ha (hr.trans hr')
  have hk2 := kk p l e s m args below meth c g A σ0 n0 C σ H locs ls ⟨s1, s2, s3, s4, s5, s6, ⟨hok, s7.2.2⟩, s8⟩
  rw [List.map_cons, ab_v_rf, ← hr] at hk2
  rcases hck with q | q
  · subst q
    exact va_aldq (D := g.1) (cl := vwCl) C.1 C.2.1 C.2.2.2.2.2.2.2.1 s3.1 a 4 (cA := g.2.1 17) (C := RX9) (n := ah_n h a) (f := fun j => (ah_r h a j).map σ) (by rw [ab_ws_at ha, ab_E_r hk (by omega)]) rfl hin d hk2
  · subst q
    exact va_aldq (D := g.1) (cl := vwCl) C.1 C.2.1 C.2.2.2.2.2.2.2.1 s3.1 a 5 (cA := g.2.1 18) (C := RX10) (n := ah_n h a) (f := fun j => (ah_r h a j).map σ) (by rw [ab_ws_at ha, ab_E_r hk (by omega)]) rfl hin d hk2
theorem ab_alen {n : Int32} (ck : Nat) (hck : 13 ≤ ck ∧ ck < 19) (hk : ah_k h a = ck) (hn : Int32.ofNat (ah_n h a) = n) (d : decode M.2.1 pc = .ok (.arraylength, 1)) (kk : Wp M Q c0 s0 (pc + 1) L (.int n :: st) h) : Wp M Q c0 s0 pc L (.ref a :: st) h := by
  intro p l e s m args below meth c g A σ0 n0 C σ H locs ls S
  obtain ⟨s1, s2, s3, s4, s5, s6, s7, s8⟩ := S
  have ha : a < ah_x h := s3.2.2.1 a (by rw [hk]; omega)
  have hk2 := kk p l e s m args below meth c g A σ0 n0 C σ H locs ls ⟨s1, s2, s3, s4, s5, s6, ⟨trivial, s7.2⟩, s8⟩
  have hw : ∃ x : vp_A, x.1 = ah_n h a ∧ (ab_ws g.2.1 σ h)[a]? = some (σ a, .inl (g.2.1 ck, x)) := by
    rw [ab_ws_at ha]
    rcases (show ck = 13 ∨ ck = 14 ∨ ck = 15 ∨ ck = 16 ∨ ck = 17 ∨ ck = 18 by omega) with q | q | q | q | q | q
    · exact ⟨_, rfl, by rw [ab_E_i hk (by omega)]⟩
    · exact ⟨_, rfl, by rw [ab_E_i hk (by omega)]⟩
    · subst q; exact ⟨_, rfl, by rw [ab_E_l hk]⟩
    · exact ⟨_, rfl, by rw [ab_E_i hk (by omega)]⟩
    · exact ⟨_, rfl, by rw [ab_E_r hk (by omega)]⟩
    · exact ⟨_, rfl, by rw [ab_E_r hk (by omega)]⟩
  obtain ⟨x, hx1, hx2⟩ := hw
  have ht : ∃ (t0 : Nat) (ty : FieldType), (ab_tys g.2.1)[t0]? = some (g.2.1 ck, ty) := by
    rcases (show ck = 13 ∨ ck = 14 ∨ ck = 15 ∨ ck = 16 ∨ ck = 17 ∨ ck = 18 by omega) with q | q | q | q | q | q
    · subst q; exact ⟨0, _, rfl⟩
    · subst q; exact ⟨1, _, rfl⟩
    · subst q; exact ⟨2, _, rfl⟩
    · subst q; exact ⟨3, _, rfl⟩
    · subst q; exact ⟨4, _, rfl⟩
    · subst q; exact ⟨5, _, rfl⟩
  obtain ⟨t0, ty, ht⟩ := ht
  exact va_alen (D := g.1) (cl := vwCl) C.1 C.2.1 C.2.2.2.2.2.2.2.1 s3.1 a t0 (cA := g.2.1 ck) (x := x) hx2 ht (v := n) (by rw [hx1]; exact hn) d hk2
theorem ab_upd_u2 (f : Nat → Nat → Int32) (a j : Nat) (x : Int32) : upd (f a) j x = ah_u2 f a j x a := by
  funext q
  unfold upd ah_u2
  by_cases hq : q = j
  · rw [if_pos hq, if_pos ⟨rfl, hq⟩]
  · rw [if_neg hq, if_neg (fun z => hq z.2)]
theorem ab_iast {i x : Int32} (hk : ah_k h a = 14) (hin : vp_in i (ah_n h a)) (d : decode M.2.1 pc = .ok (.iastore, 1)) (kk : Wp M Q c0 s0 (pc + 1) L st (ah_si h a i.toNatClampNeg x)) : Wp M Q c0 s0 pc L (.int x :: .int i :: .ref a :: st) h := by
  intro p l e s m args below meth c g A σ0 n0 C σ H locs ls S
  have s3 := S.2.2.1
  have ha : a < ah_x h := s3.2.2.1 a (by rw [hk]; omega)
  refine va_iast (D := g.1) (cl := vwCl) C.1 C.2.1 C.2.2.2.2.2.2.2.1 s3.1 (s3.D S.2.2.2.1) S.2.2.2.2.1 a 1 (cA := g.2.1 14) (n := ah_n h a) (f := ah_i h a) (by rw [ab_ws_at ha, ab_E_i hk (by omega)]) rfl hin d fun H1 locs1 hP1 _ hS1 => ?_
  refine ab_go (a := a) (h' := ah_si h a i.toNatClampNeg x) kk C S rfl (fun _ => rfl) (fun _ => rfl) (fun b j hb => by rw [ah_i_si, if_neg (fun q => hb q.1)]) (fun _ _ _ => rfl) (fun _ _ _ => rfl) (fun j b hb => Or.inl hb) S.2.2.2.2.2.2.1.2.2.2 ?_ hP1 hS1
  rw [ab_E_i (h := ah_si h a i.toNatClampNeg x) (c := 14) hk (by omega)]
  show Sum.inl (_, _, Sum.inl (ah_u2 h.2.2.1 a i.toNatClampNeg x a)) = _
  rw [← ab_upd_u2]
  rfl
theorem ab_bast {i x : Int32} (hk : ah_k h a = 13) (hin : vp_in i (ah_n h a)) (d : decode M.2.1 pc = .ok (.bastore, 1)) (kk : Wp M Q c0 s0 (pc + 1) L st (ah_si h a i.toNatClampNeg (vp_nar .byte x))) : Wp M Q c0 s0 pc L (.int x :: .int i :: .ref a :: st) h := by
  intro p l e s m args below meth c g A σ0 n0 C σ H locs ls S
  have s3 := S.2.2.1
  have ha : a < ah_x h := s3.2.2.1 a (by rw [hk]; omega)
  refine va_bast (D := g.1) (cl := vwCl) C.1 C.2.1 C.2.2.2.2.2.2.2.1 s3.1 (s3.D S.2.2.2.1) S.2.2.2.2.1 a 0 (cA := g.2.1 13) (n := ah_n h a) (f := ah_i h a) (by rw [ab_ws_at ha, ab_E_i hk (by omega)]) rfl hin d fun H1 locs1 hP1 _ hS1 => ?_
  refine ab_go (a := a) (h' := ah_si h a i.toNatClampNeg (vp_nar .byte x)) kk C S rfl (fun _ => rfl) (fun _ => rfl) (fun b j hb => by rw [ah_i_si, if_neg (fun q => hb q.1)]) (fun _ _ _ => rfl) (fun _ _ _ => rfl) (fun j b hb => Or.inl hb) S.2.2.2.2.2.2.1.2.2.2 ?_ hP1 hS1
  rw [ab_E_i (h := ah_si h a i.toNatClampNeg (vp_nar .byte x)) (c := 13) hk (by omega)]
  show Sum.inl (_, _, Sum.inl (ah_u2 h.2.2.1 a i.toNatClampNeg (vp_nar .byte x) a)) = _
  rw [← ab_upd_u2]
  rfl
theorem ab_zast {i x : Int32} (hk : ah_k h a = 16) (hin : vp_in i (ah_n h a)) (d : decode M.2.1 pc = .ok (.bastore, 1)) (kk : Wp M Q c0 s0 (pc + 1) L st (ah_si h a i.toNatClampNeg (vp_nar .boolean x))) : Wp M Q c0 s0 pc L (.int x :: .int i :: .ref a :: st) h := by
  intro p l e s m args below meth c g A σ0 n0 C σ H locs ls S
  have s3 := S.2.2.1
  have ha : a < ah_x h := s3.2.2.1 a (by rw [hk]; omega)
  refine va_zast (D := g.1) (cl := vwCl) C.1 C.2.1 C.2.2.2.2.2.2.2.1 s3.1 (s3.D S.2.2.2.1) S.2.2.2.2.1 a 3 (cA := g.2.1 16) (n := ah_n h a) (f := ah_i h a) (by rw [ab_ws_at ha, ab_E_i hk (by omega)]) rfl hin d fun H1 locs1 hP1 _ hS1 => ?_
  refine ab_go (a := a) (h' := ah_si h a i.toNatClampNeg (vp_nar .boolean x)) kk C S rfl (fun _ => rfl) (fun _ => rfl) (fun b j hb => by rw [ah_i_si, if_neg (fun q => hb q.1)]) (fun _ _ _ => rfl) (fun _ _ _ => rfl) (fun j b hb => Or.inl hb) S.2.2.2.2.2.2.1.2.2.2 ?_ hP1 hS1
  rw [ab_E_i (h := ah_si h a i.toNatClampNeg (vp_nar .boolean x)) (c := 16) hk (by omega)]
  show Sum.inl (_, _, Sum.inl (ah_u2 h.2.2.1 a i.toNatClampNeg (vp_nar .boolean x) a)) = _
  rw [← ab_upd_u2]
  rfl
theorem ab_last {i : Int32} {x : Int64} (hk : ah_k h a = 15) (hin : vp_in i (ah_n h a)) (d : decode M.2.1 pc = .ok (.lastore, 1)) (kk : Wp M Q c0 s0 (pc + 1) L st (ah_sl h a i.toNatClampNeg x)) : Wp M Q c0 s0 pc L (.long x :: .int i :: .ref a :: st) h := by
  intro p l e s m args below meth c g A σ0 n0 C σ H locs ls S
  have s3 := S.2.2.1
  have ha : a < ah_x h := s3.2.2.1 a (by rw [hk]; omega)
  refine va_last (D := g.1) (cl := vwCl) C.1 C.2.1 C.2.2.2.2.2.2.2.1 s3.1 (s3.D S.2.2.2.1) S.2.2.2.2.1 a 2 (cA := g.2.1 15) (n := ah_n h a) (f := ah_l h a) (by rw [ab_ws_at ha, ab_E_l hk]) rfl hin d fun H1 locs1 hP1 _ hS1 => ?_
  refine ab_go (a := a) (h' := ah_sl h a i.toNatClampNeg x) kk C S rfl (fun _ => rfl) (fun _ => rfl) (fun _ _ _ => rfl) (fun b j hb => by rw [ah_l_sl, if_neg (fun q => hb q.1)]) (fun _ _ _ => rfl) (fun j b hb => Or.inl hb) S.2.2.2.2.2.2.1.2.2.2 ?_ hP1 hS1
  rw [ab_E_l (h := ah_sl h a i.toNatClampNeg x) hk]
  have e9 : ah_l (ah_sl h a i.toNatClampNeg x) a = vp_updL (ah_l h a) i.toNatClampNeg x := by
    funext q
    rw [ah_l_sl]
    unfold vp_updL
    by_cases hq : q = i.toNatClampNeg
    · rw [if_pos ⟨rfl, hq⟩, if_pos hq]
    · rw [if_neg (fun z => hq z.2), if_neg hq]
  rw [e9]
  rfl
theorem ab_aast {i : Int32} {b : Nat} (ck cv : Nat) (hck : (ck = 17 ∧ cv = 9) ∨ (ck = 18 ∧ cv = 10)) (hk : ah_k h a = ck) (hb : ah_k h b = cv) (hin : vp_in i (ah_n h a)) (d : decode M.2.1 pc = .ok (.aastore, 1)) (kk : Wp M Q c0 s0 (pc + 1) L st (ah_sr h a i.toNatClampNeg (some b))) : Wp M Q c0 s0 pc L (.ref b :: .int i :: .ref a :: st) h := by
  intro p l e s m args below meth c g A σ0 n0 C σ H locs ls S
  have s3 := S.2.2.1
  have ha : a < ah_x h := s3.2.2.1 a (by rw [hk]; omega)
  have hbl : b < ah_x h := s3.2.2.1 b (by rw [hb]; omega)
  have fin : ∀ (H1 : Heap) (locs1 : List Loc), va_P g.1 vwCl ((ab_ws g.2.1 σ h).set a (σ a, .inl (g.2.1 ck, ah_n h a, .inr (.inr (.inr (.inr (va_up (fun j => (ah_r h a j).map σ) i.toNatClampNeg (some (σ b))))))))) H1 → va_S A s.heap H1 locs1 →
      W p l e (ab_rm M) s m args below meth c H1 locs1 c0 s0 (ab_P below g σ0 n0 A Q args s M.2.2.2.2.2.1 M.2.2.2.2.2.2) (F0 m (pc + 1) ls (st.map (ab_v σ))) := by
    intro H1 locs1 hP1 hS1
    refine ab_go (a := a) (h' := ah_sr h a i.toNatClampNeg (some b)) kk C S rfl (fun _ => rfl) (fun _ => rfl) (fun _ _ _ => rfl) (fun _ _ _ => rfl) (fun b' j hb' => by rw [ah_r_sr, if_neg (fun q => hb' q.1)]) (fun j q hq => ?_) S.2.2.2.2.2.2.1.2.2.2 ?_ hP1 hS1
    · rw [ah_r_sr] at hq
      by_cases hj : j = i.toNatClampNeg
      · rw [if_pos ⟨rfl, hj⟩] at hq
        cases hq
        exact Or.inr hbl
      · rw [if_neg (fun z => hj z.2)] at hq
        exact Or.inl hq
    · rw [ab_E_r (h := ah_sr h a i.toNatClampNeg (some b)) (c := ck) hk (by omega)]
      have e9 : (fun j => (ah_r (ah_sr h a i.toNatClampNeg (some b)) a j).map σ) = va_up (fun j => (ah_r h a j).map σ) i.toNatClampNeg (some (σ b)) := by
        funext q
        rw [ah_r_sr]
        unfold va_up
        by_cases hq : q = i.toNatClampNeg
        · rw [if_pos ⟨rfl, hq⟩, if_pos hq]; rfl
        · rw [if_neg (fun z => hq z.2), if_neg hq]
      rw [e9]
      rfl
  rcases hck with ⟨q1, q2⟩ | ⟨q1, q2⟩
  · subst q1; subst q2
    exact va_astq (D := g.1) (cl := vwCl) C.1 C.2.1 C.2.2.2.2.2.2.2.1 s3.1 (s3.D S.2.2.2.1) S.2.2.2.2.1 a 4 b 9 (cA := g.2.1 17) (r := (RX9, TX9, 4)) (n := ah_n h a) (v := σ b) (vs := ab_fs σ h b 9) (f := fun j => (ah_r h a j).map σ) (by rw [ab_ws_at ha, ab_E_r hk (by omega)]) rfl (by rw [ab_ws_at hbl, ab_E_obj hb (by omega)]) rfl hin d fun H1 locs1 hP1 _ hS1 => fin H1 locs1 hP1 hS1
  · subst q1; subst q2
    exact va_astq (D := g.1) (cl := vwCl) C.1 C.2.1 C.2.2.2.2.2.2.2.1 s3.1 (s3.D S.2.2.2.1) S.2.2.2.2.1 a 5 b 10 (cA := g.2.1 18) (r := (RX10, TX10, 10)) (n := ah_n h a) (v := σ b) (vs := ab_fs σ h b 10) (f := fun j => (ah_r h a j).map σ) (by rw [ab_ws_at ha, ab_E_r hk (by omega)]) rfl (by rw [ab_ws_at hbl, ab_E_obj hb (by omega)]) rfl hin d fun H1 locs1 hP1 _ hS1 => fin H1 locs1 hP1 hS1
theorem ab_aastN {i : Int32} (hk : ah_k h a = 17) (hin : vp_in i (ah_n h a)) (d : decode M.2.1 pc = .ok (.aastore, 1)) (kk : Wp M Q c0 s0 (pc + 1) L st (ah_sr h a i.toNatClampNeg none)) : Wp M Q c0 s0 pc L (.null :: .int i :: .ref a :: st) h := by
  intro p l e s m args below meth c g A σ0 n0 C σ H locs ls S
  have s3 := S.2.2.1
  have ha : a < ah_x h := s3.2.2.1 a (by rw [hk]; omega)
  refine va_astqN (D := g.1) (cl := vwCl) C.1 C.2.1 C.2.2.2.2.2.2.2.1 s3.1 (s3.D S.2.2.2.1) S.2.2.2.2.1 a 4 (cA := g.2.1 17) (C := RX9) (n := ah_n h a) (f := fun j => (ah_r h a j).map σ) (by rw [ab_ws_at ha, ab_E_r hk (by omega)]) rfl hin d fun H1 locs1 hP1 _ hS1 => ?_
  refine ab_go (a := a) (h' := ah_sr h a i.toNatClampNeg none) kk C S rfl (fun _ => rfl) (fun _ => rfl) (fun _ _ _ => rfl) (fun _ _ _ => rfl) (fun b' j hb' => by rw [ah_r_sr, if_neg (fun q => hb' q.1)]) (fun j q hq => ?_) S.2.2.2.2.2.2.1.2.2.2 ?_ hP1 hS1
  · rw [ah_r_sr] at hq
    by_cases hj : j = i.toNatClampNeg
    · rw [if_pos ⟨rfl, hj⟩] at hq
      cases hq
    · rw [if_neg (fun z => hj z.2)] at hq
      exact Or.inl hq
  · rw [ab_E_r (h := ah_sr h a i.toNatClampNeg none) (c := 17) hk (by omega)]
    have e9 : (fun j => (ah_r (ah_sr h a i.toNatClampNeg none) a j).map σ) = va_up (fun j => (ah_r h a j).map σ) i.toNatClampNeg none := by
      funext q
      rw [ah_r_sr]
      unfold va_up
      by_cases hq : q = i.toNatClampNeg
      · rw [if_pos ⟨rfl, hq⟩, if_pos hq]; rfl
      · rw [if_neg (fun z => hq z.2), if_neg hq]
    rw [e9]
    rfl
end ARR
