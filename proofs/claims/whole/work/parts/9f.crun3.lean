/-! ===== the class runs a clause as often as it tells ===== -/
section CR
variable {h0 h : ah_T} {cls : List Cl} {x : Nat}
theorem wR_in {A : Nat → Nat} (wf : WF A) {w0 : Nat → Int} (hw : ∀ k, k < 13 → -1000000000 ≤ w0 k ∧ w0 k ≤ 1000000000) {b0 r : Nat} (hb : b0 ≤ A 247) (hr : r ≤ 20) (k : Nat) (hk : k < 13) : -1000000000 ≤ wR w0 A b0 r k ∧ wR w0 A b0 r k ≤ 1000000000 := by
  have h1 := wf.2.2.2.2.2.2.1.1
  have h2 := wf.2.1.1
  have h3 := wf.2.2.1.1
  have h4 := wf.2.2.1.2
  unfold wR
  split
  · omega
  · split
    · omega
    · split
      · omega
      · split
        · split
          · omega
          · have := h4 (A 247 - 1) (by omega)
            have e : 90 + (3 * (A 247 - 1) + 1) = 91 + 3 * (A 247 - 1) := by omega
            rw [e]
            omega
        · split
          · omega
          · split
            · omega
            · exact hw k hk
theorem pass_t {cl : Cl} {w : Nat → Int} {m : Tg} (e : cl.2.2.2.2.2 = some m) : pass cl w = true ↔ m w = some true := by
  unfold pass
  rw [e]
  dsimp only
  cases m w with
  | none => simp
  | some b => cases b <;> simp
theorem pass_n {cl : Cl} {w : Nat → Int} (e : cl.2.2.2.2.2 = none) : pass cl w = true := by unfold pass; rw [e]
theorem c_runClause {Q : Option Value → ah_T → Prop} (hs0 : Sh h0) {A0 : Nat → Nat} {k b0 : Nat} {w0 : Nat → Int} {x1 x2 : Int32} (wf0 : WF A0) (t0 : tx h0 x true cls) (hk : k < cls.length) (cr : clR (cls.getD k cl0)) (c0 : c6 A0 h0) (hb : b0 ≤ A0 247) (hT : ah_i h0 14 0 = nI (A0 242)) (hw0 : ∀ j, j < 13 → -1000000000 ≤ w0 j ∧ w0 j ≤ 1000000000) (hws : ∀ j, (j < 6 ∨ j = 7) → (ah_i h0 27 j).toInt = w0 j) (e1 : x1 = nI k) (e2 : x2 = nI b0)
    (hq : ∀ h', qFr h0 h' → c6 (crun (cls.getD k cl0) w0 b0 (cls.getD k cl0).2.2.2.2.1 0 A0).2 h' → Q (some (.int (crun (cls.getD k cl0) w0 b0 (cls.getD k cl0).2.2.2.2.1 0 A0).1)) h') : Mt mX11_runClause [.ref 0, .ref x, .int x1, .int x2] h0 Q := by
  subst e1 e2
  have t' := t0
  obtain ⟨⟨t1, t2, t3, t4, t5, t6⟩, t7, t8, t9, t10, t11, t12, t13, cd, q, t14, t15, t16, t17⟩ := t'
  obtain ⟨o1, o2, o3, o4, o5, o6, o7, o8⟩ := t17 k hk
  refine T_X11_runClause hs0 x _ _ t3 (c_part (j := 4) hs0 t0 rfl rfl hk (by omega) ⟨_, rfl, hs0, t3, c_part (j := 5) hs0 t0 rfl rfl hk (by omega) ⟨_, rfl, hs0, t3, ?_⟩⟩)
  rw [show ah_i h0 (x + 2) (6 * k + 4) = nI (cls.getD k cl0).2.2.2.2.1 from o6 rfl]
  have o7' : cT1 (ah_i h0 (x + 2) (6 * k + 5)) cd q (cls.getD k cl0).2.2.2.2.2 := o7
  have hcr := cr
  obtain ⟨⟨f, ef⟩, ⟨a, ea⟩, cr3, cr4, cr5⟩ := cr
  generalize hcl : cls.getD k cl0 = cl at *
  generalize ah_i h0 (x + 2) (6 * k + 5) = tv at o7'
  have z8 : Int32.toNatClampNeg 8 = 8 := rfl
  have z9 : Int32.toNatClampNeg 9 = 9 := rfl
  have z10 : Int32.toNatClampNeg 10 = 10 := rfl
  have z11 : Int32.toNatClampNeg 11 = 11 := rfl
  have z12 : Int32.toNatClampNeg 12 = 12 := rfl
  have z6 : Int32.toNatClampNeg 6 = 6 := rfl
  have z0 : Int32.toNatClampNeg 0 = 0 := rfl
  have lp : ∀ (g tm r : Nat) (A : Nat → Nat) (h : ah_T), tm + g = cl.2.2.2.2.1 → r ≤ tm → xt A0 A → qFr h0 h → c6 A h → (∀ h', qFr h0 h' → c6 (crun cl w0 b0 g r A).2 h' → Q (some (.int (crun cl w0 b0 g r A).1)) h') → Wp mX11_runClause Q 0 0 22 [some (.ref 0), some (.ref x), some (.int (nI k)), some (.int (nI b0)), some (.int (nI cl.2.2.2.2.1)), some (.int tv), some (.int (nI r)), some (.int (nI tm)), none, none] [] h := by
    intro g
    induction g with
    | zero =>
      intro tm r A h hg hr xA qh c hq
      have tt := tx_q qh t0
      refine T_X11_runClause_22 qh.1 x _ _ _ _ _ _ tt.1.2.2.1 ?_
      (first | refine ⟨fun _ => ?_, fun n_ => absurd (show nI cl.2.2.2.2.1 ≤ nI tm from nI_le (by omega) (by omega)) n_⟩ | refine ⟨fun n_ => absurd (show nI cl.2.2.2.2.1 ≤ nI tm from nI_le (by omega) (by omega)) n_, fun _ => ?_⟩ | refine ⟨fun y_ => absurd y_ (show nI cl.2.2.2.2.1 ≤ nI tm from nI_le (by omega) (by omega)), fun _ => ?_⟩ | refine ⟨fun _ => ?_, fun y_ => absurd y_ (show nI cl.2.2.2.2.1 ≤ nI tm from nI_le (by omega) (by omega))⟩)
      exact hq h qh c
    | succ g ih =>
      intro tm r A h hg hr xA qh c hq
      have tt := tx_q qh t0
      have wf := xA.1
      have hb2 : b0 ≤ A 247 := by have := xA.2.1; omega
      have h24 := wf.2.2.1.1
      have h10 := wf.2.1.1
      refine T_X11_runClause_22 qh.1 x _ _ _ _ _ _ tt.1.2.2.1 ?_
      (first | refine ⟨fun _ => ?_, fun n_ => absurd (show ¬ nI cl.2.2.2.2.1 ≤ nI tm from nI_ge (by omega) (by omega)) n_⟩ | refine ⟨fun n_ => absurd (show ¬ nI cl.2.2.2.2.1 ≤ nI tm from nI_ge (by omega) (by omega)) n_, fun _ => ?_⟩ | refine ⟨fun y_ => absurd y_ (show ¬ nI cl.2.2.2.2.1 ≤ nI tm from nI_ge (by omega) (by omega)), fun _ => ?_⟩ | refine ⟨fun _ => ?_, fun y_ => absurd y_ (show ¬ nI cl.2.2.2.2.1 ≤ nI tm from nI_ge (by omega) (by omega))⟩)
      have c' := c
      obtain ⟨k1, k2, k3, k4, k5, k6, k7⟩ := c'
      rw [k1, k5, z8, z9, z10, z11, z12, z6, z0]
      rintro h10' rfl h14 rfl
      have w13 : ∀ j, j < 13 → -1000000000 ≤ wR w0 A b0 r j ∧ wR w0 A b0 r j ≤ 1000000000 := wR_in wf hw0 hb2 (by omega)
      by_cases eb : A 247 = b0
      · (first | refine ⟨fun _ => ?_, fun n_ => absurd (show nI (A 247) = nI b0 by rw [eb]) n_⟩ | refine ⟨fun n_ => absurd (show nI (A 247) = nI b0 by rw [eb]) n_, fun _ => ?_⟩ | refine ⟨fun y_ => absurd y_ (show nI (A 247) = nI b0 by rw [eb]), fun _ => ?_⟩ | refine ⟨fun _ => ?_, fun y_ => absurd y_ (show nI (A 247) = nI b0 by rw [eb])⟩)
        have hLV : ((-1 : Int32)).toInt = (if A 247 = b0 then (-1 : Int) else A (90 + (3 * (A 247 - 1) + 1))) := by rw [if_pos eb]; rfl
        rintro h23 rfl h27 rfl h31 rfl h35 rfl
        rw [nI_sub hb2, ah_i_sn (by omega), ah_i_sn (by omega), ah_i_sn (by omega), ah_i_sn (by omega), ah_i_sn (by omega), (qh.2.2.1 14 (by decide) (by decide) (by decide) (by decide) (by decide)).1, hT]
        obtain ⟨u, eu⟩ : ∃ u, u = ah_si (ah_si (ah_si (ah_si (ah_si (ah_si h 27 8 (nI (A 246))) 27 9 (nI (A 247))) 27 10 (-1)) 27 11 (nI (A 247 - b0))) 27 12 (nI r)) 27 6 (nI (A0 242)) := ⟨_, rfl⟩
        rw [← eu]
        have us : Sh u := by rw [eu]; exact sh_si (sh_si (sh_si (sh_si (sh_si (sh_si qh.1)))))
        have ue : ∀ a, a ≠ 27 → eqc h u a := fun a n1 => by rw [eu]; exact eqc_si (eqc_si (eqc_si (eqc_si (eqc_si (eqc_si eqc_rfl n1) n1) n1) n1) n1) n1
        have ux : ah_x u = ah_x h := by rw [eu, ah_x_si, ah_x_si, ah_x_si, ah_x_si, ah_x_si, ah_x_si]
        have ui : ∀ j, ah_i u 27 j = if j = 6 then nI (A0 242) else if j = 12 then nI r else if j = 11 then nI (A 247 - b0) else if j = 10 then (-1) else if j = 9 then nI (A 247) else if j = 8 then nI (A 246) else ah_i h 27 j := fun j => by
          rw [eu, ah_i_si, ah_i_si, ah_i_si, ah_i_si, ah_i_si, ah_i_si]
          simp only [true_and]
        clear eu
        have cu : c6 A u := ⟨by rw [(ue 4 (by decide)).1]; exact k1, k2, by rw [(ue 6 (by decide)).1]; exact k3, by rw [(ue 6 (by decide)).1]; exact k4, by rw [(ue 6 (by decide)).1]; exact k5, k6, fun j hj => by rw [(ue 7 (by decide)).1]; exact k7 j hj⟩
        have A242 : A0 242 = A 242 := (xA.2.2.2 242 (by omega) (by omega)).symm
        have wu : wOn u (wR w0 A b0 r) := by
          intro j hj
          refine ⟨?_, w13 j hj⟩
          rw [ui]
          unfold wR
          by_cases y6 : j = 6
          · rw [if_pos y6, if_pos y6, nI_toInt (by have := wf.2.2.2.2.2.2.1.1; omega), A242]
          · rw [if_neg y6, if_neg y6]
            by_cases y12 : j = 12
            · subst y12
              rw [if_pos rfl, if_neg (by decide), if_neg (by decide), if_neg (by decide), if_neg (by decide), if_pos rfl, nI_toInt (by omega)]
            · rw [if_neg y12]
              by_cases y11 : j = 11
              · subst y11
                rw [if_pos rfl, if_neg (by decide), if_neg (by decide), if_neg (by decide), if_pos rfl, nI_toInt (by omega)]
              · rw [if_neg y11]
                by_cases y10 : j = 10
                · subst y10
                  rw [if_pos rfl, if_neg (by decide), if_neg (by decide), if_pos rfl]
                  exact hLV
                · rw [if_neg y10]
                  by_cases y9 : j = 9
                  · subst y9
                    rw [if_pos rfl, if_neg (by decide), if_pos rfl, nI_toInt (by omega)]
                  · rw [if_neg y9]
                    by_cases y8 : j = 8
                    · subst y8
                      rw [if_pos rfl, if_pos rfl, nI_toInt (by omega)]
                    · rw [if_neg y8, if_neg y8, if_neg y9, if_neg y10, if_neg y11, if_neg y12, qh.2.2.2.1 j hj (by omega)]
                      exact hws j (by omega)
        have qu : qFr h u := ⟨us, ux, fun a _ _ _ n4 _ => ue a n4, fun j hj h2 => by rw [ui, if_neg (by omega), if_neg (by omega), if_neg (by omega), if_neg (by omega), if_neg (by omega), if_neg (by omega)], fun _ k hk => by obtain ⟨z1, z2, z3⟩ := wu k hk; rw [z1]; exact ⟨z2, z3⟩⟩
        have q0u := qFr_t qh qu
        have tu := tx_q q0u t0
        have unf : ∀ {P : Prop}, (pass cl (wR w0 A b0 r) = true) → True := fun _ => trivial
        -- it is run
        have doit : ∀ v, qFr u v → c6 A v → wOn v (wR w0 A b0 r) → pass cl (wR w0 A b0 r) = true → Mt mX11_runOnce [.ref 0, .ref x, .int (nI k), .int (nI r)] v (fun o h40 => ∃ w, o = some (.int w) ∧ Sh h40 ∧ tx h40 x true cls ∧ ((w = 0 → Wp mX11_runClause Q 0 0 22 [some (.ref 0), some (.ref x), some (.int (nI k)), some (.int (nI b0)), some (.int (nI cl.2.2.2.2.1)), some (.int tv), some (.int (nI r + 1)), some (.int (nI tm + 1)), none, none] [] h40) ∧ (¬ w = 0 → Q (some (.int w)) h40))) := by
          intro v qv cv wv hp
          have q0v := qFr_t q0u qv
          have tv2 := tx_q q0v t0
          refine c_runOnce qv.1 wf tv2 hk (by rw [hcl]; exact hcr) cv wv (by omega) rfl rfl (fun y qy cy => ?_)
          rw [hcl] at cy ⊢
          have q0y := qFr_t q0v qy
          have ty := tx_q q0y t0
          have e : crun cl w0 b0 (g + 1) r A = if (once cl (wR w0 A b0 r) r A).1 = 0 then crun cl w0 b0 g (r + 1) (once cl (wR w0 A b0 r) r A).2 else once cl (wR w0 A b0 r) r A := by
            rw [crun, if_pos hp]
          rw [e] at hq
          refine ⟨_, rfl, qy.1, ty, fun z => ?_, fun z => ?_⟩
          · rw [if_pos z] at hq
            rw [nI_1, nI_1]
            exact ih (tm + 1) (r + 1) _ y (by omega) (by omega) (xt_t xA (xt_once wf cl _ r)) q0y cy hq
          · rw [if_neg z] at hq
            exact hq y q0y cy
        cases et : cl.2.2.2.2.2 with
        | none =>
          rw [et] at o7'
          have o8' : tv = -1 := o7'
          (first | refine ⟨fun _ => ?_, fun n_ => absurd (o8') n_⟩ | refine ⟨fun n_ => absurd (o8') n_, fun _ => ?_⟩ | refine ⟨fun y_ => absurd y_ (o8'), fun _ => ?_⟩ | refine ⟨fun _ => ?_, fun y_ => absurd y_ (o8')⟩)
          refine Mt.mono (fun o h2 z => ?_) (doit u (qFr_r us) cu wu (pass_n et))
          obtain ⟨w, z1, z2, z3, z4⟩ := z
          exact ⟨w, z1, z2, z3.1.2.2.1, z4⟩
        | some m =>
          rw [et] at o7'
          have ne1 : ¬ tv = -1 := by
            obtain ⟨p, p', nd, e3, hp, hnd, im, he⟩ := o7'
            rw [e3]
            have := im.1
            exact nI_m1 (by omega)
          (first | refine ⟨fun _ => ?_, fun n_ => absurd (ne1) n_⟩ | refine ⟨fun n_ => absurd (ne1) n_, fun _ => ?_⟩ | refine ⟨fun y_ => absurd y_ (ne1), fun _ => ?_⟩ | refine ⟨fun _ => ?_, fun y_ => absurd y_ (ne1)⟩)
          refine ⟨x + 1, tu.2.1, tu.1.2.2.2.1, ?_⟩
          have nu : ah_n u (x + 1) = q := by rw [(q0u.2.2.1 (x + 1) (by omega) (by omega) (by omega) (by omega) (by omega)).2.2.2.2]; exact t15
          have cdu : ∀ j, j < q → ah_i u (x + 1) j = nI (cd j) ∧ cd j < 65536 := fun j hj => by rw [(q0u.2.2.1 (x + 1) (by omega) (by omega) (by omega) (by omega) (by omega)).1]; exact t16 j hj
          refine c_runT us (by omega) tu.1.2.2.2.1 nu t14 cdu wu o7' (fun y h48 m1 hy => ?_)
          have q048 := qFr_t q0u (qFr_m m1)
          have t48 := tx_q q048 t0
          refine ⟨y, rfl, m1.1, t48.1.2.2.1, t48.2.1, t48.1.2.2.2.1, fun z => ?_, fun z => ?_⟩
          · have hp : pass cl (wR w0 A b0 r) = true := by
              rw [pass_t et]
              exact Classical.not_not.mp (fun w => z (hy.mpr w))
            refine Mt.mono (fun o h2 z => ?_) (doit h48 (qFr_m m1) (c6_m m1 cu) (wOn_m m1 wu) hp)
            obtain ⟨w, z1, z2, z3, z4⟩ := z
            exact ⟨w, z1, z2, z3.1.2.2.1, z3.2.1, z3.1.2.2.2.1, z4⟩
          · have hp : ¬ pass cl (wR w0 A b0 r) = true := by
              rw [pass_t et]
              exact hy.mp z
            have e : crun cl w0 b0 (g + 1) r A = crun cl w0 b0 g r A := by rw [crun, if_neg hp]
            rw [e] at hq
            rw [nI_1]
            exact ih (tm + 1) r A h48 (by omega) (by omega) xA q048 (c6_m m1 cu) hq
      · (first | refine ⟨fun _ => ?_, fun n_ => absurd (show ¬ nI (A 247) = nI b0 by rw [nI_eq (by omega) (by omega)]; exact eb) n_⟩ | refine ⟨fun n_ => absurd (show ¬ nI (A 247) = nI b0 by rw [nI_eq (by omega) (by omega)]; exact eb) n_, fun _ => ?_⟩ | refine ⟨fun y_ => absurd y_ (show ¬ nI (A 247) = nI b0 by rw [nI_eq (by omega) (by omega)]; exact eb), fun _ => ?_⟩ | refine ⟨fun _ => ?_, fun y_ => absurd y_ (show ¬ nI (A 247) = nI b0 by rw [nI_eq (by omega) (by omega)]; exact eb)⟩)
        obtain ⟨p, hp⟩ : ∃ p, A 247 = p + 1 := ⟨A 247 - 1, by omega⟩
        have es : nI (A 247) - 1 = nI (A 247 - 1) := by rw [hp, nI_pred]; rfl
        rw [es]
        refine c_getW (sh_si (sh_si qh.1)) (t := 6) (n := A 247) (r := A 247 - 1) (k := 1) (by omega) rfl rfl (by rw [ah_i_sn (by omega), ah_i_sn (by omega)]; exact k4) (by rw [ah_i_sn (by omega), ah_i_sn (by omega)]; exact k5) (by show 3 * A 247 ≤ 72; omega) (by omega) (by omega) ?_
        rw [ah_i_sn (by omega), ah_i_sn (by omega), show ah_i h (6 + 1) (3 * (A 247 - 1) + 1) = nI (A (90 + (3 * (A 247 - 1) + 1))) from (k7 _ (by omega)).1]
        refine ⟨_, rfl, sh_si (sh_si qh.1), tt.1.2.2.1, ?_⟩
        have hLV : (nI (A (90 + (3 * (A 247 - 1) + 1)))).toInt = (if A 247 = b0 then (-1 : Int) else A (90 + (3 * (A 247 - 1) + 1))) := by
          have := (k7 (3 * (A 247 - 1) + 1) (by omega)).2
          rw [if_neg eb, nI_toInt (by omega)]
        rintro h23 rfl h27 rfl h31 rfl h35 rfl
        rw [nI_sub hb2, ah_i_sn (by omega), ah_i_sn (by omega), ah_i_sn (by omega), ah_i_sn (by omega), ah_i_sn (by omega), (qh.2.2.1 14 (by decide) (by decide) (by decide) (by decide) (by decide)).1, hT]
        obtain ⟨u, eu⟩ : ∃ u, u = ah_si (ah_si (ah_si (ah_si (ah_si (ah_si h 27 8 (nI (A 246))) 27 9 (nI (A 247))) 27 10 (nI (A (90 + (3 * (A 247 - 1) + 1))))) 27 11 (nI (A 247 - b0))) 27 12 (nI r)) 27 6 (nI (A0 242)) := ⟨_, rfl⟩
        rw [← eu]
        have us : Sh u := by rw [eu]; exact sh_si (sh_si (sh_si (sh_si (sh_si (sh_si qh.1)))))
        have ue : ∀ a, a ≠ 27 → eqc h u a := fun a n1 => by rw [eu]; exact eqc_si (eqc_si (eqc_si (eqc_si (eqc_si (eqc_si eqc_rfl n1) n1) n1) n1) n1) n1
        have ux : ah_x u = ah_x h := by rw [eu, ah_x_si, ah_x_si, ah_x_si, ah_x_si, ah_x_si, ah_x_si]
        have ui : ∀ j, ah_i u 27 j = if j = 6 then nI (A0 242) else if j = 12 then nI r else if j = 11 then nI (A 247 - b0) else if j = 10 then (nI (A (90 + (3 * (A 247 - 1) + 1)))) else if j = 9 then nI (A 247) else if j = 8 then nI (A 246) else ah_i h 27 j := fun j => by
          rw [eu, ah_i_si, ah_i_si, ah_i_si, ah_i_si, ah_i_si, ah_i_si]
          simp only [true_and]
        clear eu
        have cu : c6 A u := ⟨by rw [(ue 4 (by decide)).1]; exact k1, k2, by rw [(ue 6 (by decide)).1]; exact k3, by rw [(ue 6 (by decide)).1]; exact k4, by rw [(ue 6 (by decide)).1]; exact k5, k6, fun j hj => by rw [(ue 7 (by decide)).1]; exact k7 j hj⟩
        have A242 : A0 242 = A 242 := (xA.2.2.2 242 (by omega) (by omega)).symm
        have wu : wOn u (wR w0 A b0 r) := by
          intro j hj
          refine ⟨?_, w13 j hj⟩
          rw [ui]
          unfold wR
          by_cases y6 : j = 6
          · rw [if_pos y6, if_pos y6, nI_toInt (by have := wf.2.2.2.2.2.2.1.1; omega), A242]
          · rw [if_neg y6, if_neg y6]
            by_cases y12 : j = 12
            · subst y12
              rw [if_pos rfl, if_neg (by decide), if_neg (by decide), if_neg (by decide), if_neg (by decide), if_pos rfl, nI_toInt (by omega)]
            · rw [if_neg y12]
              by_cases y11 : j = 11
              · subst y11
                rw [if_pos rfl, if_neg (by decide), if_neg (by decide), if_neg (by decide), if_pos rfl, nI_toInt (by omega)]
              · rw [if_neg y11]
                by_cases y10 : j = 10
                · subst y10
                  rw [if_pos rfl, if_neg (by decide), if_neg (by decide), if_pos rfl]
                  exact hLV
                · rw [if_neg y10]
                  by_cases y9 : j = 9
                  · subst y9
                    rw [if_pos rfl, if_neg (by decide), if_pos rfl, nI_toInt (by omega)]
                  · rw [if_neg y9]
                    by_cases y8 : j = 8
                    · subst y8
                      rw [if_pos rfl, if_pos rfl, nI_toInt (by omega)]
                    · rw [if_neg y8, if_neg y8, if_neg y9, if_neg y10, if_neg y11, if_neg y12, qh.2.2.2.1 j hj (by omega)]
                      exact hws j (by omega)
        have qu : qFr h u := ⟨us, ux, fun a _ _ _ n4 _ => ue a n4, fun j hj h2 => by rw [ui, if_neg (by omega), if_neg (by omega), if_neg (by omega), if_neg (by omega), if_neg (by omega), if_neg (by omega)], fun _ k hk => by obtain ⟨z1, z2, z3⟩ := wu k hk; rw [z1]; exact ⟨z2, z3⟩⟩
        have q0u := qFr_t qh qu
        have tu := tx_q q0u t0
        have unf : ∀ {P : Prop}, (pass cl (wR w0 A b0 r) = true) → True := fun _ => trivial
        -- it is run
        have doit : ∀ v, qFr u v → c6 A v → wOn v (wR w0 A b0 r) → pass cl (wR w0 A b0 r) = true → Mt mX11_runOnce [.ref 0, .ref x, .int (nI k), .int (nI r)] v (fun o h40 => ∃ w, o = some (.int w) ∧ Sh h40 ∧ tx h40 x true cls ∧ ((w = 0 → Wp mX11_runClause Q 0 0 22 [some (.ref 0), some (.ref x), some (.int (nI k)), some (.int (nI b0)), some (.int (nI cl.2.2.2.2.1)), some (.int tv), some (.int (nI r + 1)), some (.int (nI tm + 1)), none, none] [] h40) ∧ (¬ w = 0 → Q (some (.int w)) h40))) := by
          intro v qv cv wv hp
          have q0v := qFr_t q0u qv
          have tv2 := tx_q q0v t0
          refine c_runOnce qv.1 wf tv2 hk (by rw [hcl]; exact hcr) cv wv (by omega) rfl rfl (fun y qy cy => ?_)
          rw [hcl] at cy ⊢
          have q0y := qFr_t q0v qy
          have ty := tx_q q0y t0
          have e : crun cl w0 b0 (g + 1) r A = if (once cl (wR w0 A b0 r) r A).1 = 0 then crun cl w0 b0 g (r + 1) (once cl (wR w0 A b0 r) r A).2 else once cl (wR w0 A b0 r) r A := by
            rw [crun, if_pos hp]
          rw [e] at hq
          refine ⟨_, rfl, qy.1, ty, fun z => ?_, fun z => ?_⟩
          · rw [if_pos z] at hq
            rw [nI_1, nI_1]
            exact ih (tm + 1) (r + 1) _ y (by omega) (by omega) (xt_t xA (xt_once wf cl _ r)) q0y cy hq
          · rw [if_neg z] at hq
            exact hq y q0y cy
        cases et : cl.2.2.2.2.2 with
        | none =>
          rw [et] at o7'
          have o8' : tv = -1 := o7'
          (first | refine ⟨fun _ => ?_, fun n_ => absurd (o8') n_⟩ | refine ⟨fun n_ => absurd (o8') n_, fun _ => ?_⟩ | refine ⟨fun y_ => absurd y_ (o8'), fun _ => ?_⟩ | refine ⟨fun _ => ?_, fun y_ => absurd y_ (o8')⟩)
          refine Mt.mono (fun o h2 z => ?_) (doit u (qFr_r us) cu wu (pass_n et))
          obtain ⟨w, z1, z2, z3, z4⟩ := z
          exact ⟨w, z1, z2, z3.1.2.2.1, z4⟩
        | some m =>
          rw [et] at o7'
          have ne1 : ¬ tv = -1 := by
            obtain ⟨p, p', nd, e3, hp, hnd, im, he⟩ := o7'
            rw [e3]
            have := im.1
            exact nI_m1 (by omega)
          (first | refine ⟨fun _ => ?_, fun n_ => absurd (ne1) n_⟩ | refine ⟨fun n_ => absurd (ne1) n_, fun _ => ?_⟩ | refine ⟨fun y_ => absurd y_ (ne1), fun _ => ?_⟩ | refine ⟨fun _ => ?_, fun y_ => absurd y_ (ne1)⟩)
          refine ⟨x + 1, tu.2.1, tu.1.2.2.2.1, ?_⟩
          have nu : ah_n u (x + 1) = q := by rw [(q0u.2.2.1 (x + 1) (by omega) (by omega) (by omega) (by omega) (by omega)).2.2.2.2]; exact t15
          have cdu : ∀ j, j < q → ah_i u (x + 1) j = nI (cd j) ∧ cd j < 65536 := fun j hj => by rw [(q0u.2.2.1 (x + 1) (by omega) (by omega) (by omega) (by omega) (by omega)).1]; exact t16 j hj
          refine c_runT us (by omega) tu.1.2.2.2.1 nu t14 cdu wu o7' (fun y h48 m1 hy => ?_)
          have q048 := qFr_t q0u (qFr_m m1)
          have t48 := tx_q q048 t0
          refine ⟨y, rfl, m1.1, t48.1.2.2.1, t48.2.1, t48.1.2.2.2.1, fun z => ?_, fun z => ?_⟩
          · have hp : pass cl (wR w0 A b0 r) = true := by
              rw [pass_t et]
              exact Classical.not_not.mp (fun w => z (hy.mpr w))
            refine Mt.mono (fun o h2 z => ?_) (doit h48 (qFr_m m1) (c6_m m1 cu) (wOn_m m1 wu) hp)
            obtain ⟨w, z1, z2, z3, z4⟩ := z
            exact ⟨w, z1, z2, z3.1.2.2.1, z3.2.1, z3.1.2.2.2.1, z4⟩
          · have hp : ¬ pass cl (wR w0 A b0 r) = true := by
              rw [pass_t et]
              exact hy.mp z
            have e : crun cl w0 b0 (g + 1) r A = crun cl w0 b0 g r A := by rw [crun, if_neg hp]
            rw [e] at hq
            rw [nI_1]
            exact ih (tm + 1) r A h48 (by omega) (by omega) xA q048 (c6_m m1 cu) hq
  exact lp cl.2.2.2.2.1 0 0 A0 h0 (by omega) (Nat.le_refl _) (xt_r wf0) (qFr_r hs0) c0 hq
end CR
