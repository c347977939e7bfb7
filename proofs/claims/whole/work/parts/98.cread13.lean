/-! ===== the class's reader of texts: the loop ===== -/
section CL
variable {cs vs pl : Nat → Nat} {n : Nat} {ro : Bool} {h0 h : ah_T}
/-- the head of a clause, as both languages have it -/
def hdO (ro : Bool) (T : Nat → Int32) (k : Nat) (c : Nat → Nat) (q : Nat) (wd : Int32) (cl : Cl) : Prop :=
  T (6 * k) = nI cl.1 ∧ cl.1 < 5 ∧ cS1 (T (6 * k + 1)) c q cl.2.1 ∧ cS1 (T (6 * k + 2)) c q cl.2.2.1 ∧ cS1 (T (6 * k + 3)) c q cl.2.2.2.1 ∧ (ro = true → T (6 * k + 4) = nI cl.2.2.2.2.1) ∧ (ro = false → dpS cl.2.1 wd)
theorem pRnH_v {isV : Nat → Bool} {i lv : Nat} (e : (pRnH cs vs isV i lv).1 = true) : (pRnH cs vs isV i lv).2.2.2.1 < 5 := by
  unfold pRnH at e ⊢
  have hv : (pVerb cs i lv).1 = true → (pVerb cs i lv).2.2.2 < 5 := by
    unfold pVerb
    split
    · intro _; exact (by decide : (3 : Nat) < 5)
    · split
      · intro _; exact (by decide : (4 : Nat) < 5)
      · intro z; exact absurd (show false = true from z) (by decide)
  unfold pB at e ⊢
  dsimp only at e ⊢
  split
  · rename_i c
    split
    · split
      · split
        · split
          · exact hv c
          · exact (by decide : (0 : Nat) < 5)
        · exact (by decide : (0 : Nat) < 5)
      · exact (by decide : (0 : Nat) < 5)
    · exact (by decide : (0 : Nat) < 5)
  · exact (by decide : (0 : Nat) < 5)
theorem pHd_v {isV : Nat → Bool} {i lv : Nat} : (pHd cs vs isV i lv).2.2.2.1 < 5 := by
  unfold pHd
  split
  · rename_i c
    show cs i - 1 < 5
    omega
  · split
    · exact (by decide : (0 : Nat) < 5)
    · exact (by decide : (0 : Nat) < 5)
theorem aftC (k : Nat) (acc : List Cl) (i lv : Nat) : pTx cs n (oneOf ro cs vs) (k + 1) acc i lv = pB (hdOf ro cs vs i lv) acc fun c j l => pB (pIf cs vs (isVof ro) j l) acc fun t j2 l2 => if cs j2 = 159 then pTx cs n (oneOf ro cs vs) k (acc ++ [setT c t]) (j2 + 1) l2 else if n ≤ j2 then (true, j2, l2, acc ++ [setT c t]) else (false, j2, l2, acc) := by
  rw [aft_eq]
  unfold aft
  rw [oneOf_eq, pB_pB]
  rfl
theorem c_read_loop {Q : Option Value → ah_T → Prop} (t : Ck cs vs (isVof ro) n h0) (hp : ∀ k, k ≤ n → ah_i h0 22 k = nI (pl k)) :
    ∀ (f k : Nat) (acc : List Cl) (i q lv : Nat) (c : Nat → Nat) (wd : Int32) (T U : Nat → Int32) (h : ah_T), k + f = 12 → acc.length = k → rS h0 h i q lv c wd T U → i ≤ n → lv ≤ 50 → 2 * q ≤ 15 * lv → laid ro T c q U acc → (∀ j, 6 * k ≤ j → j < 72 → T j = -1) → cQ pl ro h0 Q (pTx cs n (oneOf ro cs vs) f acc i lv) →
      Wp mX5_read Q 0 0 57 [some (.ref 20), none, none, some (.int (bI (!ro))), some (.int (nI k)), none] [] h := by
  have t1 := t.1
  have n22 : ∀ {h}, Sh h → ah_n h 22 = 401 := fun hs => sh_n hs 22 401 (by decide) (by decide) rfl
  have wf : ∀ {h}, rFr h0 h → ∀ x, wFr h0 (ah_si h 20 0 x) := fun r x => ⟨sh_si r.1, by rw [ah_x_si, r.2.1]; exact Nat.le_refl _, fun a _ n1 n2 n3 n4 => eqc_si (r.2.2.1 a n1 n2 n3 n4) n1⟩
  -- a fault
  have flt : ∀ {h : ah_T} {p : Nat} {R : pR (List Cl)}, rFl h0 h p → p ≤ n → R.1 = false → R.2.1 = p → cQ pl ro h0 Q R → (vp_in (ah_i h 20 6) (ah_n h 22)) ∧ (∀ h48, h48 = ah_si h 20 0 (ah_i h 22 (Int32.toNatClampNeg (ah_i h 20 6))) → Q (some (va_rf none)) h48) := by
    intro h p R r hpn e1 e2 q
    have e22 : ah_i h 22 p = nI (pl p) := by rw [(r.1.2.2.1 22 (by decide) (by decide) (by decide) (by decide)).1]; exact hp p hpn
    rw [r.2, nI_clamp (by omega), n22 r.1.1, e22]
    refine ⟨(vp_nI (by omega)).mpr (by omega), ?_⟩
    rintro h48 rfl
    exact q.2 e1 _ (wf r.1 _) (by rw [ah_x_si]; exact r.1.2.1) (by rw [ah_i_ss, e2])
  intro f
  induction f with
  | zero =>
    intro k acc i q lv c wd T U h hk ha r hi hl hb la hT qq
    refine T_X5_read_57 r.1.1 _ _ ?_
    (first | refine ⟨fun _ => ?_, fun n_ => absurd (show 12 ≤ nI k from nI_le (a := 12) (by omega) (by omega)) n_⟩ | refine ⟨fun n_ => absurd (show 12 ≤ nI k from nI_le (a := 12) (by omega) (by omega)) n_, fun _ => ?_⟩ | refine ⟨fun y_ => absurd y_ (show 12 ≤ nI k from nI_le (a := 12) (by omega) (by omega)), fun _ => ?_⟩ | refine ⟨fun _ => ?_, fun y_ => absurd y_ (show 12 ≤ nI k from nI_le (a := 12) (by omega) (by omega))⟩)
    exact flt ⟨r.1, r.2.1⟩ hi rfl rfl qq
  | succ f ih =>
    intro k acc i q lv c wd T U h hk ha r hi hl hb la hT qq
    refine T_X5_read_57 r.1.1 _ _ ?_
    (first | refine ⟨fun _ => ?_, fun n_ => absurd (show ¬ 12 ≤ nI k from nI_ge (b := 12) (by omega) (by omega)) n_⟩ | refine ⟨fun n_ => absurd (show ¬ 12 ≤ nI k from nI_ge (b := 12) (by omega) (by omega)) n_, fun _ => ?_⟩ | refine ⟨fun y_ => absurd y_ (show ¬ 12 ≤ nI k from nI_ge (b := 12) (by omega) (by omega)), fun _ => ?_⟩ | refine ⟨fun _ => ?_, fun y_ => absurd y_ (show ¬ 12 ≤ nI k from nI_ge (b := 12) (by omega) (by omega))⟩)
    rintro h39 rfl
    have r0 := rS_10 (x := 0) r
    have e6 : nI k * 6 = nI (6 * k) := by rw [n_6, nI_mul]; exact congrArg nI (by omega)
    rw [e6]
    rw [aftC] at qq
    have hl12 : k < 12 := by omega
    cases ro
    · (first | refine ⟨fun _ => ?_, fun n_ => absurd (show ¬ bI (!false) = 0 by decide) n_⟩ | refine ⟨fun n_ => absurd (show ¬ bI (!false) = 0 by decide) n_, fun _ => ?_⟩ | refine ⟨fun y_ => absurd y_ (show ¬ bI (!false) = 0 by decide), fun _ => ?_⟩ | refine ⟨fun _ => ?_, fun y_ => absurd y_ (show ¬ bI (!false) = 0 by decide)⟩)
      have T6 : ∀ j, 6 * k ≤ j → j < 6 * k + 6 → T j = -1 := fun j h1 h2 => hT j h1 (by omega)
      obtain ⟨oo1, oo2, oo3⟩ := pHd_ok (vs := vs) t.2.1 t.2.2.1 i lv hi hl
      have hH : hdOf false cs vs i lv = pMp (fun a => ((a.1, a.2, none, none, 1, none) : Cl)) (pHd cs vs (isVof false) i lv) := rfl
      refine c_readLaw t r0 hi hl hb hl12 rfl T6 (fun e h1 q1 c1 wd1 T1 r1 b1 g1 hT1' hv s1 p1 => ⟨_, rfl, r1.1.1, ?_⟩) (fun e h1 r1 => ⟨_, rfl, r1.1.1, ?_⟩)
      · (first | refine ⟨fun _ => ?_, fun n_ => absurd (show ¬ (1 : Int32) = 0 by decide) n_⟩ | refine ⟨fun n_ => absurd (show ¬ (1 : Int32) = 0 by decide) n_, fun _ => ?_⟩ | refine ⟨fun y_ => absurd y_ (show ¬ (1 : Int32) = 0 by decide), fun _ => ?_⟩ | refine ⟨fun _ => ?_, fun y_ => absurd y_ (show ¬ (1 : Int32) = 0 by decide)⟩)
        rw [hH, pB_pMp, pB_t e] at qq
        have hT1 : ∀ j, (j < 6 * k ∨ 6 * k + 5 ≤ j) → T1 j = T j := fun j hj => hT1' j (by omega) (by omega)
        have hd : hdO false T1 k c1 q1 wd1 (((pHd cs vs (isVof false) i lv).2.2.2.1, (pHd cs vs (isVof false) i lv).2.2.2.2, none, none, 1, none) : Cl) :=
          ⟨hv, pHd_v, s1, by rw [hT1' _ (by omega) (by omega)]; exact T6 _ (by omega) (by omega), by rw [hT1' _ (by omega) (by omega)]; exact T6 _ (by omega) (by omega), fun e => absurd e (by decide), fun _ => p1⟩
        have o1 := oo1
        have o2 := (oo3 e).2
        obtain ⟨H, eH⟩ : ∃ H : pR Cl, H = pMp (fun a => ((a.1, a.2, none, none, 1, none) : Cl)) (pHd cs vs (isVof false) i lv) := ⟨_, rfl⟩
        have f1 : (pHd cs vs (isVof false) i lv).2.1 = H.2.1 := by rw [eH]; rfl
        have f2 : (pHd cs vs (isVof false) i lv).2.2.1 = H.2.2.1 := by rw [eH]; rfl
        have f3 : (((pHd cs vs (isVof false) i lv).2.2.2.1, (pHd cs vs (isVof false) i lv).2.2.2.2, none, none, 1, none) : Cl) = H.2.2.2 := by rw [eH]; rfl
        rw [f1, f2, f3] at qq
        rw [f1, f2] at r1
        rw [f1] at o1
        rw [f2] at o2 b1
        rw [f3] at hd
        replace g1 := gX_t (⟨Nat.le_refl _, fun _ _ => rfl, fun j hj e => by rw [b_0] at e; exact absurd e (by decide)⟩ : gX q c 0 q c 0) g1
        have hdI := hd
        obtain ⟨d1, d2, d3, d4, d5, d6, d7⟩ := hd
        have tT : T1 (6 * k + 5) = -1 := by rw [hT1 _ (by omega)]; exact hT _ (by omega) (by omega)
        refine c_readIf t r1 o1 o2 b1 hl12 rfl tT (fun e2 h2 q2 c2 wd2 T2 r2 b2 g2 hT2 s2 p2 => ⟨_, rfl, r2.1.1, ?_⟩) (fun e2 h2 r2 => ⟨_, rfl, r2.1.1, ?_⟩)
        · (first | refine ⟨fun _ => ?_, fun n_ => absurd (show ¬ (1 : Int32) = 0 by decide) n_⟩ | refine ⟨fun n_ => absurd (show ¬ (1 : Int32) = 0 by decide) n_, fun _ => ?_⟩ | refine ⟨fun y_ => absurd y_ (show ¬ (1 : Int32) = 0 by decide), fun _ => ?_⟩ | refine ⟨fun _ => ?_, fun y_ => absurd y_ (show ¬ (1 : Int32) = 0 by decide)⟩)
          rw [pB_t e2] at qq
          obtain ⟨oi1, oi2, oi3⟩ := pIf_ok (vs := vs) t.2.1 t.2.2.1 H.2.1 H.2.2.1 o1 o2
          have l2 := (oi3 e2).2
          generalize pIf cs vs (isVof false) H.2.1 H.2.2.1 = I at *
          have v6 : T2 (6 * k) = nI H.2.2.2.1 := by rw [hT2 _ (by omega)]; exact d1
          have e24 : ah_i h2 24 (6 * k + 0) = nI H.2.2.2.1 := by rw [r2.2.2.2.2.2.2.1]; exact v6
          have n25 : ah_n h2 25 = 5 := sh_n r2.1.1 25 5 (by decide) (by decide) rfl
          rw [show nI (6 * k) + 0 = nI (6 * k + 0) from nI_add _ 0, nI_clamp (show 6 * k + 0 < 2 ^ 31 by omega), n24 r2.1.1, e24, n25, nI_clamp (show H.2.2.2.1 < 2 ^ 31 by omega), r2.2.2.2.2.1, r2.2.2.2.2.2.2.2]
          refine ⟨(vp_nI (by omega)).mpr (by omega), (vp_nI (by omega)).mpr d2, (vp_nI (by omega)).mpr d2, ?_⟩
          rintro h58 rfl
          have r3 := rS_25 (j := H.2.2.2.1) (x := U H.2.2.2.1 ||| wd2) r2
          obtain ⟨v1, e1⟩ := rS_tk t r3 oi1
          rw [e1]
          have la2 : laid false T2 c2 q2 (up32 U H.2.2.2.1 (U H.2.2.2.1 ||| wd2)) (acc ++ [setT H.2.2.2 I.2.2.2]) := by
            intro j hj
            simp only [List.length_append, List.length_cons, List.length_nil] at hj
            rcases Nat.lt_or_ge j acc.length with y | y
            · have : (acc ++ [setT H.2.2.2 I.2.2.2]).getD j cl0 = acc.getD j cl0 := by simp [List.getD, List.getElem?_append_left y]
              rw [this]
              exact clO_g (gX_t g1 g2) (fun j1 hj1 => by show T2 (6 * j + j1) = T (6 * j + j1); rw [hT2 _ (by omega), hT1 _ (by omega)]) (la j y)
            · have : j = k := by omega
              subst this
              have : (acc ++ [setT H.2.2.2 I.2.2.2]).getD j cl0 = setT H.2.2.2 I.2.2.2 := by rw [← ha]; simp [List.getD]
              rw [this]
              refine ⟨v6, d2, ?_, ?_, ?_, fun e => ?_, s2, fun e => ?_⟩
              · show cS1 (T2 (6 * j + 1)) c2 q2 H.2.2.2.2.1
                rw [hT2 _ (by omega)]; exact cS1_g g2 d3
              · show cS1 (T2 (6 * j + 2)) c2 q2 H.2.2.2.2.2.1
                rw [hT2 _ (by omega)]; exact cS1_g g2 d4
              · show cS1 (T2 (6 * j + 3)) c2 q2 H.2.2.2.2.2.2.1
                rw [hT2 _ (by omega)]; exact cS1_g g2 d5
              · show T2 (6 * j + 4) = nI H.2.2.2.2.2.2.2.1
                rw [hT2 _ (by omega)]; exact d6 e
              · show dpS H.2.2.2.2.1 (up32 U H.2.2.2.1 (U H.2.2.2.1 ||| wd2) H.2.2.2.1) ∧ dpT I.2.2.2 (up32 U H.2.2.2.1 (U H.2.2.2.1 ||| wd2) H.2.2.2.1)
                rw [up32_s]
                exact ⟨fun m hm => dep_or (dep_mono (d7 e m hm) g2.2.2), fun m hm => depT_or (p2 m hm)⟩
          refine ⟨v1, fun z => ⟨v1, fun z2 => ?_, fun z2 => ?_⟩, fun z => ?_⟩
          · rintro h65 rfl
            have c5 : cs I.2.1 = 159 := by
              have tl := tkA_le t oi1
              rw [show (159 : Int32) = nI 159 from rfl, nI_eq (by omega) (by omega)] at z2
              exact (tkA_sign t oi1 (s := 159) (by omega) (by omega)).mp z2
            have hin := lt_n t.2.1 oi1 (by omega)
            rw [if_pos c5] at qq
            rw [nI_1]
            exact ih (k + 1) _ (I.2.1 + 1) q2 I.2.2.1 c2 wd2 T2 _ _ (by omega) (by simp [ha]) (rS_at r3) hin l2 b2 la2 (fun j h1 h2 => by rw [hT2 _ (by omega), hT1 _ (by omega)]; exact hT j (by omega) h2) qq
          · have c5 : cs I.2.1 ≠ 159 := by
              have tl := tkA_le t oi1
              rw [show (159 : Int32) = nI 159 from rfl, nI_eq (by omega) (by omega)] at z2
              exact fun y => z2 ((tkA_sign t oi1 (s := 159) (by omega) (by omega)).mpr y)
            have c6 : ¬ n ≤ I.2.1 := fun y => z ((tkA_99 t oi1).mpr y)
            rw [if_neg c5, if_neg c6] at qq
            exact flt ⟨r3.1, r3.2.1⟩ oi1 rfl rfl qq
          · have c6 : n ≤ I.2.1 := (tkA_99 t oi1).mp z
            have c5 : cs I.2.1 ≠ 159 := by
              have : I.2.1 = n := by omega
              rw [this, t.2.1]; decide
            rw [if_neg c5, if_pos c6] at qq
            exact c_new r3 (by omega) hl12 rfl rfl (by simp [ha]) la2 (fun h' w x1 x2 x3 => qq.1 rfl h' _ w x1 rfl x2 x3)
        · (first | refine ⟨fun _ => ?_, fun n_ => absurd (show (0 : Int32) = 0 by rfl) n_⟩ | refine ⟨fun n_ => absurd (show (0 : Int32) = 0 by rfl) n_, fun _ => ?_⟩ | refine ⟨fun y_ => absurd y_ (show (0 : Int32) = 0 by rfl), fun _ => ?_⟩ | refine ⟨fun _ => ?_, fun y_ => absurd y_ (show (0 : Int32) = 0 by rfl)⟩)
          rw [pB_f e2] at qq
          obtain ⟨oi1, oi2, oi3⟩ := pIf_ok (vs := vs) t.2.1 t.2.2.1 H.2.1 H.2.2.1 o1 o2
          exact flt r2 oi1 rfl rfl qq
      · (first | refine ⟨fun _ => ?_, fun n_ => absurd (show (0 : Int32) = 0 by rfl) n_⟩ | refine ⟨fun n_ => absurd (show (0 : Int32) = 0 by rfl) n_, fun _ => ?_⟩ | refine ⟨fun y_ => absurd y_ (show (0 : Int32) = 0 by rfl), fun _ => ?_⟩ | refine ⟨fun _ => ?_, fun y_ => absurd y_ (show (0 : Int32) = 0 by rfl)⟩)
        rw [hH, pB_pMp, pB_f e] at qq
        exact flt r1 oo1 rfl rfl qq
    · (first | refine ⟨fun _ => ?_, fun n_ => absurd (show bI (!true) = 0 by rfl) n_⟩ | refine ⟨fun n_ => absurd (show bI (!true) = 0 by rfl) n_, fun _ => ?_⟩ | refine ⟨fun y_ => absurd y_ (show bI (!true) = 0 by rfl), fun _ => ?_⟩ | refine ⟨fun _ => ?_, fun y_ => absurd y_ (show bI (!true) = 0 by rfl)⟩)
      have T6 : ∀ j, 6 * k ≤ j → j < 6 * k + 6 → T j = -1 := fun j h1 h2 => hT j h1 (by omega)
      obtain ⟨oo1, oo2, oo3⟩ := pRnH_ok (vs := vs) t.2.1 t.2.2.1 i lv hi hl
      have hH : hdOf true cs vs i lv = pRnH cs vs (isVof true) i lv := rfl
      refine c_readRound t r0 hi hl hb hl12 rfl T6 (fun e h1 q1 c1 wd1 T1 r1 b1 g1 hT1 rd => ⟨_, rfl, r1.1.1, ?_⟩) (fun e h1 r1 => ⟨_, rfl, r1.1.1, ?_⟩)
      · (first | refine ⟨fun _ => ?_, fun n_ => absurd (show ¬ (1 : Int32) = 0 by decide) n_⟩ | refine ⟨fun n_ => absurd (show ¬ (1 : Int32) = 0 by decide) n_, fun _ => ?_⟩ | refine ⟨fun y_ => absurd y_ (show ¬ (1 : Int32) = 0 by decide), fun _ => ?_⟩ | refine ⟨fun _ => ?_, fun y_ => absurd y_ (show ¬ (1 : Int32) = 0 by decide)⟩)
        rw [hH, pB_t e] at qq
        have hd : hdO true T1 k c1 q1 wd1 (pRnH cs vs (isVof true) i lv).2.2.2 := ⟨rd.1, pRnH_v e, rd.2.1, rd.2.2.1, rd.2.2.2.1, fun _ => rd.2.2.2.2, fun e => absurd e (by decide)⟩
        have o1 := oo1
        have o2 := (oo3 e).2
        generalize pRnH cs vs (isVof true) i lv = H at *
        have hdI := hd
        obtain ⟨d1, d2, d3, d4, d5, d6, d7⟩ := hd
        have tT : T1 (6 * k + 5) = -1 := by rw [hT1 _ (by omega)]; exact hT _ (by omega) (by omega)
        refine c_readIf t r1 o1 o2 b1 hl12 rfl tT (fun e2 h2 q2 c2 wd2 T2 r2 b2 g2 hT2 s2 p2 => ⟨_, rfl, r2.1.1, ?_⟩) (fun e2 h2 r2 => ⟨_, rfl, r2.1.1, ?_⟩)
        · (first | refine ⟨fun _ => ?_, fun n_ => absurd (show ¬ (1 : Int32) = 0 by decide) n_⟩ | refine ⟨fun n_ => absurd (show ¬ (1 : Int32) = 0 by decide) n_, fun _ => ?_⟩ | refine ⟨fun y_ => absurd y_ (show ¬ (1 : Int32) = 0 by decide), fun _ => ?_⟩ | refine ⟨fun _ => ?_, fun y_ => absurd y_ (show ¬ (1 : Int32) = 0 by decide)⟩)
          rw [pB_t e2] at qq
          obtain ⟨oi1, oi2, oi3⟩ := pIf_ok (vs := vs) t.2.1 t.2.2.1 H.2.1 H.2.2.1 o1 o2
          have l2 := (oi3 e2).2
          generalize pIf cs vs (isVof true) H.2.1 H.2.2.1 = I at *
          have v6 : T2 (6 * k) = nI H.2.2.2.1 := by rw [hT2 _ (by omega)]; exact d1
          have e24 : ah_i h2 24 (6 * k + 0) = nI H.2.2.2.1 := by rw [r2.2.2.2.2.2.2.1]; exact v6
          have n25 : ah_n h2 25 = 5 := sh_n r2.1.1 25 5 (by decide) (by decide) rfl
          rw [show nI (6 * k) + 0 = nI (6 * k + 0) from nI_add _ 0, nI_clamp (show 6 * k + 0 < 2 ^ 31 by omega), n24 r2.1.1, e24, n25, nI_clamp (show H.2.2.2.1 < 2 ^ 31 by omega), r2.2.2.2.2.1, r2.2.2.2.2.2.2.2]
          refine ⟨(vp_nI (by omega)).mpr (by omega), (vp_nI (by omega)).mpr d2, (vp_nI (by omega)).mpr d2, ?_⟩
          rintro h58 rfl
          have r3 := rS_25 (j := H.2.2.2.1) (x := U H.2.2.2.1 ||| wd2) r2
          obtain ⟨v1, e1⟩ := rS_tk t r3 oi1
          rw [e1]
          have la2 : laid true T2 c2 q2 (up32 U H.2.2.2.1 (U H.2.2.2.1 ||| wd2)) (acc ++ [setT H.2.2.2 I.2.2.2]) := by
            intro j hj
            simp only [List.length_append, List.length_cons, List.length_nil] at hj
            rcases Nat.lt_or_ge j acc.length with y | y
            · have : (acc ++ [setT H.2.2.2 I.2.2.2]).getD j cl0 = acc.getD j cl0 := by simp [List.getD, List.getElem?_append_left y]
              rw [this]
              exact clO_g (gX_t g1 g2) (fun j1 hj1 => by show T2 (6 * j + j1) = T (6 * j + j1); rw [hT2 _ (by omega), hT1 _ (by omega)]) (la j y)
            · have : j = k := by omega
              subst this
              have : (acc ++ [setT H.2.2.2 I.2.2.2]).getD j cl0 = setT H.2.2.2 I.2.2.2 := by rw [← ha]; simp [List.getD]
              rw [this]
              refine ⟨v6, d2, ?_, ?_, ?_, fun e => ?_, s2, fun e => ?_⟩
              · show cS1 (T2 (6 * j + 1)) c2 q2 H.2.2.2.2.1
                rw [hT2 _ (by omega)]; exact cS1_g g2 d3
              · show cS1 (T2 (6 * j + 2)) c2 q2 H.2.2.2.2.2.1
                rw [hT2 _ (by omega)]; exact cS1_g g2 d4
              · show cS1 (T2 (6 * j + 3)) c2 q2 H.2.2.2.2.2.2.1
                rw [hT2 _ (by omega)]; exact cS1_g g2 d5
              · show T2 (6 * j + 4) = nI H.2.2.2.2.2.2.2.1
                rw [hT2 _ (by omega)]; exact d6 e
              · show dpS H.2.2.2.2.1 (up32 U H.2.2.2.1 (U H.2.2.2.1 ||| wd2) H.2.2.2.1) ∧ dpT I.2.2.2 (up32 U H.2.2.2.1 (U H.2.2.2.1 ||| wd2) H.2.2.2.1)
                rw [up32_s]
                exact ⟨fun m hm => dep_or (dep_mono (d7 e m hm) g2.2.2), fun m hm => depT_or (p2 m hm)⟩
          refine ⟨v1, fun z => ⟨v1, fun z2 => ?_, fun z2 => ?_⟩, fun z => ?_⟩
          · rintro h65 rfl
            have c5 : cs I.2.1 = 159 := by
              have tl := tkA_le t oi1
              rw [show (159 : Int32) = nI 159 from rfl, nI_eq (by omega) (by omega)] at z2
              exact (tkA_sign t oi1 (s := 159) (by omega) (by omega)).mp z2
            have hin := lt_n t.2.1 oi1 (by omega)
            rw [if_pos c5] at qq
            rw [nI_1]
            exact ih (k + 1) _ (I.2.1 + 1) q2 I.2.2.1 c2 wd2 T2 _ _ (by omega) (by simp [ha]) (rS_at r3) hin l2 b2 la2 (fun j h1 h2 => by rw [hT2 _ (by omega), hT1 _ (by omega)]; exact hT j (by omega) h2) qq
          · have c5 : cs I.2.1 ≠ 159 := by
              have tl := tkA_le t oi1
              rw [show (159 : Int32) = nI 159 from rfl, nI_eq (by omega) (by omega)] at z2
              exact fun y => z2 ((tkA_sign t oi1 (s := 159) (by omega) (by omega)).mpr y)
            have c6 : ¬ n ≤ I.2.1 := fun y => z ((tkA_99 t oi1).mpr y)
            rw [if_neg c5, if_neg c6] at qq
            exact flt ⟨r3.1, r3.2.1⟩ oi1 rfl rfl qq
          · have c6 : n ≤ I.2.1 := (tkA_99 t oi1).mp z
            have c5 : cs I.2.1 ≠ 159 := by
              have : I.2.1 = n := by omega
              rw [this, t.2.1]; decide
            rw [if_neg c5, if_pos c6] at qq
            exact c_new r3 (by omega) hl12 rfl rfl (by simp [ha]) la2 (fun h' w x1 x2 x3 => qq.1 rfl h' _ w x1 rfl x2 x3)
        · (first | refine ⟨fun _ => ?_, fun n_ => absurd (show (0 : Int32) = 0 by rfl) n_⟩ | refine ⟨fun n_ => absurd (show (0 : Int32) = 0 by rfl) n_, fun _ => ?_⟩ | refine ⟨fun y_ => absurd y_ (show (0 : Int32) = 0 by rfl), fun _ => ?_⟩ | refine ⟨fun _ => ?_, fun y_ => absurd y_ (show (0 : Int32) = 0 by rfl)⟩)
          rw [pB_f e2] at qq
          obtain ⟨oi1, oi2, oi3⟩ := pIf_ok (vs := vs) t.2.1 t.2.2.1 H.2.1 H.2.2.1 o1 o2
          exact flt r2 oi1 rfl rfl qq
      · (first | refine ⟨fun _ => ?_, fun n_ => absurd (show (0 : Int32) = 0 by rfl) n_⟩ | refine ⟨fun n_ => absurd (show (0 : Int32) = 0 by rfl) n_, fun _ => ?_⟩ | refine ⟨fun y_ => absurd y_ (show (0 : Int32) = 0 by rfl), fun _ => ?_⟩ | refine ⟨fun _ => ?_, fun y_ => absurd y_ (show (0 : Int32) = 0 by rfl)⟩)
        rw [hH, pB_f e] at qq
        exact flt r1 oo1 rfl rfl qq
end CL
