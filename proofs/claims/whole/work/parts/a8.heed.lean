/-! ===== the class heeds the law in force ===== -/
set_option maxRecDepth 20000 in
theorem T_X8_heed_48r {Q : Option Value → ah_T → Prop} {h : ah_T} (hs : Sh h) (x1 : Int32) (b4 : Nat) (ht : (∀ h24, h24 = ah_sr h 38 3 (some b4) → (∀ h27, h27 = ah_si h24 38 4 (ah_i h24 14 (Int32.toNatClampNeg 0)) → (∀ h30, h30 = ah_si h27 38 5 (ah_i h27 14 (Int32.toNatClampNeg 2)) → (∀ h33, h33 = ah_sl h30 38 7 ((ah_l h30 38 7) + (1 : Int64)) → Wp mX8_heed Q 0 0 99 [some (.ref 38), some (.int x1), none, some (.int 1), none] [] h33))))) : Wp mX8_heed Q 0 0 48 [some (.ref 38), some (.int x1), some (.ref b4), none, none] [] h := by
  refine ab_iconst (v := 1) dX8_heed_48 (by decide) ?_
  refine ab_goto (tgt := 53) dX8_heed_49 (by decide) ?_
  refine ab_istore_n (i := 3) (L' := [some (.ref 38), some (.int x1), some (.ref b4), some (.int 1), none]) dX8_heed_53 rfl (by exact (Nat.le_of_ble_eq_true rfl)) rfl rfl ?_
  refine ab_iload_n (i := 3) dX8_heed_54 rfl rfl ?_
  refine ab_if_eq (tgt := 99) dX8_heed_55 (by decide) (fun q => absurd q (by decide)) (fun _ => ?_)
  refine ab_aload_n (i := 0) dX8_heed_58 rfl rfl ?_
  refine ab_aload_n (i := 2) dX8_heed_59 rfl rfl ?_
  refine ab_putR (r := some b4) f_X8_9 (Or.inl rfl) rfl (sh_k hs 38 8 (by decide) rfl) (fun x => by cases x <;> rfl) (fun x => by cases x <;> rfl) dX8_heed_60 ?_
  refine Wp.nm fun h24 e25 => ?_
  have ht := ht h24 e25
  have hs26 : Sh h24 := by rw [e25]; exact sh_sr hs (by decide +kernel)
  refine ab_aload_n (i := 0) dX8_heed_63 rfl rfl ?_
  refine ab_aload_n (i := 0) dX8_heed_64 rfl rfl ?_
  refine ab_getR (b := 1) f_X8_40 rfl (sh_k hs26 38 8 (by decide) rfl) (sh_r hs26 43 rfl) dX8_heed_65 ?_
  refine ab_getR (b := 14) f_X8_58 rfl (sh_k hs26 1 10 (by decide) rfl) (sh_r hs26 19 rfl) dX8_heed_68 ?_
  refine ab_iconst (v := 0) dX8_heed_71 (by decide) ?_
  refine ab_iald (sh_k hs26 14 14 (by decide) rfl) (sh_in hs26 14 3 (by decide) (by decide) rfl (by unfold vp_in; decide)) dX8_heed_72 ?_
  refine ab_putI f_X8_15 (Or.inl rfl) rfl (sh_k hs26 38 8 (by decide) rfl) rfl rfl dX8_heed_73 ?_
  refine Wp.nm fun h27 e28 => ?_
  have ht := ht h27 e28
  have hs29 : Sh h27 := by rw [e28]; exact sh_si hs26
  refine ab_aload_n (i := 0) dX8_heed_76 rfl rfl ?_
  refine ab_aload_n (i := 0) dX8_heed_77 rfl rfl ?_
  refine ab_getR (b := 1) f_X8_40 rfl (sh_k hs29 38 8 (by decide) rfl) (sh_r hs29 43 rfl) dX8_heed_78 ?_
  refine ab_getR (b := 14) f_X8_58 rfl (sh_k hs29 1 10 (by decide) rfl) (sh_r hs29 19 rfl) dX8_heed_81 ?_
  refine ab_iconst (v := 2) dX8_heed_84 (by decide) ?_
  refine ab_iald (sh_k hs29 14 14 (by decide) rfl) (sh_in hs29 14 3 (by decide) (by decide) rfl (by unfold vp_in; decide)) dX8_heed_85 ?_
  refine ab_putI f_X8_19 (Or.inl rfl) rfl (sh_k hs29 38 8 (by decide) rfl) rfl rfl dX8_heed_86 ?_
  refine Wp.nm fun h30 e31 => ?_
  have ht := ht h30 e31
  have hs32 : Sh h30 := by rw [e31]; exact sh_si hs29
  refine ab_aload_n (i := 0) dX8_heed_89 rfl rfl ?_
  refine ab_dup dX8_heed_90 rfl ?_
  refine ab_getL f_X8_26 rfl (sh_k hs32 38 8 (by decide) rfl) dX8_heed_91 ?_
  refine ab_lconst (v := 1) dX8_heed_94 (by decide) ?_
  refine ab_ladd dX8_heed_95 ?_
  refine ab_putL f_X8_26 (Or.inl rfl) rfl (sh_k hs32 38 8 (by decide) rfl) dX8_heed_96 ?_
  refine Wp.nm fun h33 e34 => ?_
  have ht := ht h33 e34
  have hs35 : Sh h33 := by rw [e34]; exact sh_sl hs32
  exact Wp.fewer (L' := [some (.ref 38), some (.int x1), none, some (.int 1), none]) (show ab_leL _ _ from ⟨rfl, ⟨rfl, ⟨rfl, trivial⟩⟩⟩) ht
/-! ## the same text says the same -/
theorem tell9_pw {what : Nat} {w : Nat → Int} : ∀ (l l' : List Cl), l.length = l'.length → (∀ k, k < l.length → (l.getD k cl0).1 = (l'.getD k cl0).1 ∧ hold (l.getD k cl0) w = hold (l'.getD k cl0) w) → ∀ d, tell9 what w l d = tell9 what w l' d
  | [], [], _, _, d => rfl
  | [], _ :: _, e, _, _ => absurd e (by simp)
  | _ :: _, [], e, _, _ => absurd e (by simp)
  | a :: r, b :: s, e, h, d => by
    have h0 := h 0 (by show 0 < r.length + 1; omega)
    have e1 : a.1 = b.1 := h0.1
    have e2 : hold a w = hold b w := h0.2
    show tell9 what w r _ = tell9 what w s _
    rw [e1, e2]
    exact tell9_pw r s (by have : r.length + 1 = s.length + 1 := e; omega) (fun k hk => h (k + 1) (by show k + 1 < r.length + 1; omega)) _
section TS
variable {h : ah_T} {c c' : Nat → Nat} {q : Nat} {v : Int32}
theorem cS1_same (hq : q ≤ 500) (hc : ∀ k, k < q → c k = c' k) {o o' : Option Mg} (s : cS1 v c q o) (s' : cS1 v c' q o') {W : Nat → Int} (hW : wOk W) : (o = none ∧ o' = none) ∨ ∃ m m', o = some m ∧ o' = some m' ∧ m W = m' W := by
  cases o with
  | none =>
    cases o' with
    | none => exact .inl ⟨rfl, rfl⟩
    | some m' =>
      obtain ⟨p, p', nd, e, hp, hnd, im, he⟩ := s'
      have := im.1
      have e2 : v = -1 := s
      exact absurd (e.symm.trans e2) (nI_m1 (by omega))
  | some m =>
    cases o' with
    | none =>
      obtain ⟨p, p', nd, e, hp, hnd, im, he⟩ := s
      have := im.1
      have e2 : v = -1 := s'
      exact absurd (e.symm.trans e2) (nI_m1 (by omega))
    | some m' =>
      obtain ⟨p, p', nd, e, hp, hnd, im, he⟩ := s
      obtain ⟨r, r', nd2, e2, hr, hnd2, im2, he2⟩ := s'
      have i1 := im.1
      have i2 := im2.1
      have ep : p = r := (nI_eq (by omega) (by omega)).mp (e.symm.trans e2)
      subst ep
      have A1 := impS_run (c := c) (L := q) im hW hp (by omega) (by omega) (by rw [he])
      have im3 : impS c p r' m' nd2 := impS_ext (fun k h1 h2 => hc k (by omega)) im2
      have A2 := impS_run (c := c) (L := q) im3 hW hr (by omega) (by omega) (by rw [hc r' hr, he2])
      exact .inr ⟨m, m', rfl, rfl, Option.some.inj (A1.symm.trans A2)⟩
theorem cT1_same (hq : q ≤ 500) (hc : ∀ k, k < q → c k = c' k) {o o' : Option Tg} (s : cT1 v c q o) (s' : cT1 v c' q o') {W : Nat → Int} (hW : wOk W) : (o = none ∧ o' = none) ∨ ∃ m m', o = some m ∧ o' = some m' ∧ m W = m' W := by
  cases o with
  | none =>
    cases o' with
    | none => exact .inl ⟨rfl, rfl⟩
    | some m' =>
      obtain ⟨p, p', nd, e, hp, hnd, im, he⟩ := s'
      have := im.1
      have e2 : v = -1 := s
      exact absurd (e.symm.trans e2) (nI_m1 (by omega))
  | some m =>
    cases o' with
    | none =>
      obtain ⟨p, p', nd, e, hp, hnd, im, he⟩ := s
      have := im.1
      have e2 : v = -1 := s'
      exact absurd (e.symm.trans e2) (nI_m1 (by omega))
    | some m' =>
      obtain ⟨p, p', nd, e, hp, hnd, im, he⟩ := s
      obtain ⟨r, r', nd2, e2, hr, hnd2, im2, he2⟩ := s'
      have i1 := im.1
      have i2 := im2.1
      have ep : p = r := (nI_eq (by omega) (by omega)).mp (e.symm.trans e2)
      subst ep
      have A1 := impT_run (c := c) (L := q) im hW hp (by omega) (by omega) (by rw [he])
      have im3 : impT c p r' m' nd2 := impT_ext (fun k h1 h2 => hc k (by omega)) im2
      have A2 := impT_run (c := c) (L := q) im3 hW hr (by omega) (by omega) (by rw [hc r' hr, he2])
      refine .inr ⟨m, m', rfl, rfl, ?_⟩
      have A3 := Option.some.inj (A1.symm.trans A2)
      cases e1 : m W with
      | none =>
        cases e3 : m' W with
        | none => rfl
        | some b => rw [e1, e3] at A3; cases A3
      | some a =>
        cases e3 : m' W with
        | none => rw [e1, e3] at A3; cases A3
        | some b =>
          rw [e1, e3] at A3
          have : b01 a = b01 b := Option.some.inj A3
          cases a <;> cases b <;> first | rfl | exact absurd this (by decide)
theorem ansV_same {x : Nat} {cls cls' : List Cl} (t : tx h x false cls) (t' : tx h x false cls') (hL : ∀ cl ∈ cls, clL cl) (hL' : ∀ cl ∈ cls', clL cl) {w : Nat → Int} (hw : ∀ k, k < 8 → -1000000000 ≤ w k ∧ w k ≤ 1000000000) (what : Nat) : ansV cls what w = ansV cls' what w := by
  obtain ⟨_, _, _, _, t10, t11, _, _, c, q, t14, t15, t16, t17⟩ := t
  obtain ⟨_, _, _, _, s10, s11, _, _, c', q', s14, s15, s16, s17⟩ := t'
  have eq : q = q' := t15.symm.trans s15
  subst eq
  have el : cls.length = cls'.length := (nI_eq (by omega) (by omega)).mp (t10.symm.trans s10)
  have hc : ∀ k, k < q → c k = c' k := fun k hk => (nI_eq (by have := (t16 k hk).2; omega) (by have := (s16 k hk).2; omega)).mp ((t16 k hk).1.symm.trans (s16 k hk).1)
  obtain ⟨W, eW⟩ : ∃ W : Nat → Int, W = fun k => if k < 8 then w k else 0 := ⟨_, rfl⟩
  have hW : wOk W := by
    intro k _
    rw [eW]
    show -1000000000 ≤ (if k < 8 then w k else 0) ∧ (if k < 8 then w k else 0) ≤ 1000000000
    by_cases z : k < 8
    · rw [if_pos z]; exact hw k z
    · rw [if_neg z]; omega
  have hWw : ∀ k, k < 8 → w k = W k := fun k hk => by rw [eW]; exact (if_pos hk).symm
  unfold ansV
  refine tell9_pw cls cls' el (fun k hk => ?_) _
  have a := t17 k hk
  have b := s17 k (by omega)
  have m1 : cls.getD k cl0 ∈ cls := by rw [List.getD_eq_getElem?_getD, List.getElem?_eq_getElem hk, Option.getD_some]; exact List.getElem_mem hk
  have m2 : cls'.getD k cl0 ∈ cls' := by rw [List.getD_eq_getElem?_getD, List.getElem?_eq_getElem (by omega), Option.getD_some]; exact List.getElem_mem _
  have l1 := hL _ m1
  have l2 := hL' _ m2
  generalize cls.getD k cl0 = cl at *
  generalize cls'.getD k cl0 = cl' at *
  obtain ⟨a0, a1, a2, a3, a4, a5, a6, a7⟩ := a
  obtain ⟨b0, b1, b2, b3, b4, b5, b6, b7⟩ := b
  refine ⟨(nI_eq (by omega) (by omega)).mp (a0.symm.trans b0), ?_⟩
  have c1 := cS1_same t14 hc a2 b2 hW
  have c2 := cT1_same t14 hc a6 b6 hW
  have pp : pass cl w = pass cl' w := by
    unfold pass
    rcases c2 with ⟨e1, e2⟩ | ⟨m, m', e1, e2, e3⟩
    · rw [e1, e2]
    · rw [e1, e2]
      dsimp only
      rw [l1.2.2.2 m e1 w W hWw, l2.2.2.2 m' e2 w W hWw, e3]
  unfold hold
  rw [pp]
  rcases c1 with ⟨e1, e2⟩ | ⟨m, m', e1, e2, e3⟩
  · rw [e1, e2]
  · rw [e1, e2]
    dsimp only
    rw [l1.2.2.1 m e1 w W hWw, l2.2.2.1 m' e2 w W hWw, e3]
end TS
theorem wQ_rg {l k o ne la mi : Int} {wi mo : Nat} (h0 : -1 ≤ l ∧ l ≤ 10) (h1 : 0 ≤ k ∧ k ≤ 7) (h2 : -1 ≤ o ∧ o ≤ 6) (h3 : -1 ≤ ne ∧ ne ≤ 14) (h4 : -1 ≤ la ∧ la ≤ 2) (h5 : 0 ≤ mi ∧ mi ≤ 127) : wRg (wQ l k o ne la mi wi mo) := ⟨h0, h1, h2, h3, h4, h5⟩
theorem wRg_sm {w : Nat → Int} (wr : wRg w) {wi mo : Nat} (w6 : w 6 = wi) (w7 : w 7 = mo) (h1 : wi ≤ 9) (h2 : mo ≤ 9) : ∀ k, k < 8 → -1000000000 ≤ w k ∧ w k ≤ 1000000000 := by
  obtain ⟨r0, r1, r2, r3, r4, r5⟩ := wr
  intro k hk
  rcases (by omega : k = 0 ∨ k = 1 ∨ k = 2 ∨ k = 3 ∨ k = 4 ∨ k = 5 ∨ k = 6 ∨ k = 7) with y | y | y | y | y | y | y | y <;> subst y <;> omega
