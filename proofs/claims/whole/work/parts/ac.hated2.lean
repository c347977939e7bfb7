/-! ===== hated, fearful, thirst ===== -/
section TM2
variable {h : ah_T} {A : Nat → Nat} {L : Option (List Cl)} {wi mo g0 : Nat}
theorem c_hated {Q : Option Value → ah_T → Prop} (hs : Sh h) (t : tmO L wi mo g0 A h) {l la mi : Nat} {x1 x2 x3 : Int32} (e1 : x1 = nI l) (e2 : x2 = nI la) (e3 : x3 = nI mi) (hl : l < A 246) (hla : la < 2) (hm : mi < 120)
    (hq : ∀ h' v, tmF h h' → tmO L wi mo g0 A h' → htB L wi mo A l la mi v → Q (some (.int v)) h') : Mt mX8_hated [.ref 38, .int x1, .int x2, .int x3] h Q := by
  subst e1 e2 e3
  have h10 := t.2.2.2.2.2.2.2.1.1
  have l0 := t.1.1
  have n40 : ∀ {g : ah_T}, Sh g → ah_n g 40 = 2400 := fun hs => sh_n hs 40 2400 (by decide) (by decide) rfl
  have hlt := hlk_lt (u := usd h 0) hm
  obtain ⟨P, eP⟩ : ∃ P, P = (hlk (usd h 0) mi * 2 + la) * 10 + l := ⟨_, rfl⟩
  have hP : P < 2400 := by omega
  have vp : vp_in (nI P) 2400 := (vp_nI (by omega)).mpr hP
  have lp : ∀ (q i : Nat) (g : ah_T) (v : Int32), i + q = A 246 → tmF h g → tmO L wi mo g0 A g → (∀ b, b < 32 → (bt v b = true ↔ b < i ∧ (b ≠ l ∧ ansA L 0 (wQ l (A (61 + 3 * l)) (A (61 + 3 * b)) (sgv A (A (60 + 3 * l)) (A (60 + 3 * b))) la mi wi mo) = 1))) → Wp mX8_hated Q 0 0 42 [some (.ref 38), some (.int (nI l)), some (.int (nI la)), some (.int (nI mi)), some (.int (nI P)), some (.int v), some (.int (nI i)), none] [] g := by
    intro q
    induction q with
    | zero =>
      intro i g v hi fg tg hv
      refine T_X8_hated_42 fg.1 _ _ _ _ _ _ ?_
      rw [tg.2.2.2.2.2.2.1]
      (first | refine ⟨fun _ => ?_, fun n_ => absurd (show nI (A 246) ≤ nI i from nI_le (by omega) (by omega)) n_⟩ | refine ⟨fun n_ => absurd (show nI (A 246) ≤ nI i from nI_le (by omega) (by omega)) n_, fun _ => ?_⟩ | refine ⟨fun y_ => absurd y_ (show nI (A 246) ≤ nI i from nI_le (by omega) (by omega)), fun _ => ?_⟩ | refine ⟨fun _ => ?_, fun y_ => absurd y_ (show nI (A 246) ≤ nI i from nI_le (by omega) (by omega))⟩)
      rw [nI_clamp (show P < 2 ^ 31 by omega), n40 fg.1]
      refine ⟨vp, ?_⟩
      rintro h13 rfl
      rw [ah_n_si, n40 fg.1, ah_i_ss]
      have hb : htB L wi mo A l la mi v := fun b hb => by rw [hv b hb, show i = A 246 by omega]
      have st := tm_st (l := l) (la := la) (mi := mi) hl hla hm hb fg.1 tg
      rw [usd_fr l0 fg, ← eP] at st
      exact ⟨vp, hq _ v (tmF_t fg st.2) st.1 hb⟩
    | succ q ih =>
      intro i g v hi fg tg hv
      have hi2 : i < A 246 := by omega
      refine T_X8_hated_42 fg.1 _ _ _ _ _ _ ?_
      rw [tg.2.2.2.2.2.2.1]
      (first | refine ⟨fun _ => ?_, fun n_ => absurd (show ¬ nI (A 246) ≤ nI i from nI_ge (by omega) (by omega)) n_⟩ | refine ⟨fun n_ => absurd (show ¬ nI (A 246) ≤ nI i from nI_ge (by omega) (by omega)) n_, fun _ => ?_⟩ | refine ⟨fun y_ => absurd y_ (show ¬ nI (A 246) ≤ nI i from nI_ge (by omega) (by omega)), fun _ => ?_⟩ | refine ⟨fun _ => ?_, fun y_ => absurd y_ (show ¬ nI (A 246) ≤ nI i from nI_ge (by omega) (by omega))⟩)
      have lm := tg.2.2.2.2.2
      obtain ⟨u1, u2, _⟩ := lm.2.2.1.2 l hl
      obtain ⟨v1, v2, _⟩ := lm.2.2.1.2 i hi2
      refine lm_get fg.1 lm rfl (k := 0) rfl hl (by omega) ⟨_, rfl, fg.1, ?_⟩
      refine lm_get fg.1 lm rfl (k := 0) rfl hi2 (by omega) ⟨_, rfl, fg.1, ?_⟩
      rw [Nat.add_zero, Nat.add_zero, f_sight u1 v1]
      refine ⟨v_sight fg.1 u1 v1, ?_⟩
      obtain ⟨s1, s2, s3⟩ := sgv_in (tg.2.2.2.2.1 _ _ u1 v1)
      generalize ah_i g 34 (12 * A (60 + 3 * l) + A (60 + 3 * i)) = sv at s1 ⊢
      have i1 : nI i + 1 = nI (i + 1) := nI_add _ 1
      rw [i1, nI_eq (a := i) (b := l) (by omega) (by omega)]
      refine ⟨fun z => ih (i + 1) g v (by omega) fg tg (fun b hb => (hv b hb).trans ?_), fun z => ?_⟩
      · exact ⟨fun y => ⟨by omega, y.2⟩, fun y => ⟨by have := y.2.1; omega, y.2⟩⟩
      refine lm_get fg.1 lm rfl (k := 1) rfl hl (by omega) ⟨_, rfl, fg.1, ?_⟩
      refine lm_get fg.1 lm rfl (k := 1) rfl hi2 (by omega) ⟨_, rfl, fg.1, ?_⟩
      rw [show 60 + 3 * l + 1 = 61 + 3 * l by omega, show 60 + 3 * i + 1 = 61 + 3 * i by omega]
      refine c_ask fg.1 tg.1 tg.2.1 tg.2.2.1 (what := 0) (w := wQ l (A (61 + 3 * l)) (A (61 + 3 * i)) (sgv A (A (60 + 3 * l)) (A (60 + 3 * i))) la mi wi mo) rfl (by omega) (nI_toInt (by omega)) (nI_toInt (by omega)) (nI_toInt (by omega)) s1 (nI_toInt (by omega)) (nI_toInt (by omega)) rfl rfl (wQ_rg ⟨by omega, by omega⟩ ⟨by omega, by omega⟩ ⟨by omega, by omega⟩ ⟨by omega, by omega⟩ ⟨by omega, by omega⟩ ⟨by omega, by omega⟩) (fun g1 f1 tp1 => ⟨_, rfl, f1.1, ?_⟩)
      have tg1 := tm_ask f1 tp1 tg
      have fg1 := tmF_t fg (tmF_ak f1)
      rcases ans01 l0 (wQ l (A (61 + 3 * l)) (A (61 + 3 * i)) (sgv A (A (60 + 3 * l)) (A (60 + 3 * i))) la mi wi mo) with y | y
      · rw [y]
        (first | refine ⟨fun _ => ?_, fun n_ => absurd (show nI 0 = 0 by rfl) n_⟩ | refine ⟨fun n_ => absurd (show nI 0 = 0 by rfl) n_, fun _ => ?_⟩ | refine ⟨fun y_ => absurd y_ (show nI 0 = 0 by rfl), fun _ => ?_⟩ | refine ⟨fun _ => ?_, fun y_ => absurd y_ (show nI 0 = 0 by rfl)⟩)
        refine ih (i + 1) g1 v (by omega) fg1 tg1 (fun b hb => (hv b hb).trans ?_)
        refine ⟨fun y2 => ⟨by omega, y2.2⟩, fun y2 => ⟨?_, y2.2⟩⟩
        rcases (by have := y2.1; omega : b < i ∨ b = i) with c | c
        · exact c
        · subst c
          rw [y] at y2
          exact absurd y2.2.2 (by decide)
      · rw [y]
        (first | refine ⟨fun _ => ?_, fun n_ => absurd (show ¬ nI 1 = 0 by decide) n_⟩ | refine ⟨fun n_ => absurd (show ¬ nI 1 = 0 by decide) n_, fun _ => ?_⟩ | refine ⟨fun y_ => absurd y_ (show ¬ nI 1 = 0 by decide), fun _ => ?_⟩ | refine ⟨fun _ => ?_, fun y_ => absurd y_ (show ¬ nI 1 = 0 by decide)⟩)
        refine ih (i + 1) g1 _ (by omega) fg1 tg1 (fun b hb => (bt_set (by omega) hv b hb).trans ?_)
        refine ⟨fun y2 => ⟨y2.1, ?_⟩, fun y2 => ⟨y2.1, .inl y2.2⟩⟩
        rcases y2.2 with c | c
        · exact c
        · subst c; exact ⟨z, y⟩
  have body : ∀ X : Int32, X = nI P → (vp_in X (ah_n h 40)) ∧ ((¬ (ah_i h 40 (Int32.toNatClampNeg X)) = (-1) → (vp_in X (ah_n h 40)) ∧ Q (some (.int (ah_i h 40 (Int32.toNatClampNeg X)))) h) ∧ ((ah_i h 40 (Int32.toNatClampNeg X)) = (-1) → Wp mX8_hated Q 0 0 42 [some (.ref 38), some (.int (nI l)), some (.int (nI la)), some (.int (nI mi)), some (.int X), some (.int 0), some (.int 0), none] [] h)) := by
    intro X eX
    subst eX
    rw [nI_clamp (show P < 2 ^ 31 by omega), n40 hs]
    refine ⟨vp, fun z => ⟨vp, ?_⟩, fun z => ?_⟩
    · have := t.2.2.2.1.1 mi la l hm hla hl
      rw [← eP] at this
      exact hq h _ (tmF_r hs) t (this.resolve_left z)
    · refine lp (A 246) 0 h 0 (by omega) (tmF_r hs) t (fun b hb => ?_)
      rw [b_0]
      exact ⟨fun y => absurd y (by decide), fun y => absurd y.1 (by omega)⟩
  refine T_X8_hated hs _ _ _ (c_heeds hs l0 (what := 0) (b := 5) rfl rfl (by omega) (by omega) ⟨_, rfl, hs, ?_⟩)
  unfold hlk at eP
  by_cases z : bt (usd h 0) 5 = true
  · rw [if_pos z] at eP ⊢
    (first | refine ⟨fun _ => ?_, fun n_ => absurd (show ¬ (1 : Int32) = 0 by decide) n_⟩ | refine ⟨fun n_ => absurd (show ¬ (1 : Int32) = 0 by decide) n_, fun _ => ?_⟩ | refine ⟨fun y_ => absurd y_ (show ¬ (1 : Int32) = 0 by decide), fun _ => ?_⟩ | refine ⟨fun _ => ?_, fun y_ => absurd y_ (show ¬ (1 : Int32) = 0 by decide)⟩)
    refine body _ ?_
    rw [show (2 : Int32) = nI 2 from rfl, show (10 : Int32) = nI 10 from rfl, nI_mul, nI_add, nI_mul, nI_add, eP]
  · rw [if_neg z] at eP ⊢
    (first | refine ⟨fun _ => ?_, fun n_ => absurd (show (0 : Int32) = 0 by rfl) n_⟩ | refine ⟨fun n_ => absurd (show (0 : Int32) = 0 by rfl) n_, fun _ => ?_⟩ | refine ⟨fun y_ => absurd y_ (show (0 : Int32) = 0 by rfl), fun _ => ?_⟩ | refine ⟨fun _ => ?_, fun y_ => absurd y_ (show (0 : Int32) = 0 by rfl)⟩)
    refine body _ ?_
    rw [show (0 : Int32) = nI 0 from rfl, show (2 : Int32) = nI 2 from rfl, show (10 : Int32) = nI 10 from rfl, nI_mul, nI_add, nI_mul, nI_add, eP]
theorem c_fearful {Q : Option Value → ah_T → Prop} (hs : Sh h) (t : tmO L wi mo g0 A h) {k c mi : Nat} {x1 x2 x3 : Int32} (e1 : x1 = nI k) (e2 : x2 = nI c) (e3 : x3 = nI mi) (hk : k < 6) (hc : c < 12) (hm : mi < 120)
    (hq : ∀ h' v, tmF h h' → tmO L wi mo g0 A h' → feB L wi mo A k c mi v → Q (some (.int v)) h') : Mt mX8_fearful [.ref 38, .int x1, .int x2, .int x3] h Q := by
  subst e1 e2 e3
  have h10 := t.2.2.2.2.2.2.2.1.1
  have l0 := t.1.1
  have n41 : ∀ {g : ah_T}, Sh g → ah_n g 41 = 8640 := fun hs => sh_n hs 41 8640 (by decide) (by decide) rfl
  have hlt := hlk_lt (u := usd h 0) hm
  obtain ⟨P, eP⟩ : ∃ P, P = (hlk (usd h 0) mi * 6 + k) * 12 + c := ⟨_, rfl⟩
  have hP : P < 8640 := by omega
  have vp : vp_in (nI P) 8640 := (vp_nI (by omega)).mpr hP
  have lp : ∀ (q i : Nat) (g : ah_T) (v : Int32), i + q = A 246 → tmF h g → tmO L wi mo g0 A g → (∀ b, b < 32 → (bt v b = true ↔ b < i ∧ ansA L 0 (wQ b (A (61 + 3 * b)) k (sgv A (A (60 + 3 * b)) c) 1 mi wi mo) = 1)) → Wp mX8_fearful Q 0 0 43 [some (.ref 38), some (.int (nI k)), some (.int (nI c)), some (.int (nI mi)), some (.int (nI P)), some (.int v), some (.int (nI i)), none] [] g := by
    intro q
    induction q with
    | zero =>
      intro i g v hi fg tg hv
      refine T_X8_fearful_43 fg.1 _ _ _ _ _ _ ?_
      rw [tg.2.2.2.2.2.2.1]
      (first | refine ⟨fun _ => ?_, fun n_ => absurd (show nI (A 246) ≤ nI i from nI_le (by omega) (by omega)) n_⟩ | refine ⟨fun n_ => absurd (show nI (A 246) ≤ nI i from nI_le (by omega) (by omega)) n_, fun _ => ?_⟩ | refine ⟨fun y_ => absurd y_ (show nI (A 246) ≤ nI i from nI_le (by omega) (by omega)), fun _ => ?_⟩ | refine ⟨fun _ => ?_, fun y_ => absurd y_ (show nI (A 246) ≤ nI i from nI_le (by omega) (by omega))⟩)
      rw [nI_clamp (show P < 2 ^ 31 by omega), n41 fg.1]
      refine ⟨vp, ?_⟩
      rintro h13 rfl
      rw [ah_n_si, n41 fg.1, ah_i_ss]
      have hb : feB L wi mo A k c mi v := fun b hb => by rw [hv b hb, show i = A 246 by omega]
      have st := tm_st41 (k := k) (c := c) (mi := mi) hk hc hm hb fg.1 tg
      rw [usd_fr l0 fg, ← eP] at st
      exact ⟨vp, hq _ v (tmF_t fg st.2) st.1 hb⟩
    | succ q ih =>
      intro i g v hi fg tg hv
      have hi2 : i < A 246 := by omega
      refine T_X8_fearful_43 fg.1 _ _ _ _ _ _ ?_
      rw [tg.2.2.2.2.2.2.1]
      (first | refine ⟨fun _ => ?_, fun n_ => absurd (show ¬ nI (A 246) ≤ nI i from nI_ge (by omega) (by omega)) n_⟩ | refine ⟨fun n_ => absurd (show ¬ nI (A 246) ≤ nI i from nI_ge (by omega) (by omega)) n_, fun _ => ?_⟩ | refine ⟨fun y_ => absurd y_ (show ¬ nI (A 246) ≤ nI i from nI_ge (by omega) (by omega)), fun _ => ?_⟩ | refine ⟨fun _ => ?_, fun y_ => absurd y_ (show ¬ nI (A 246) ≤ nI i from nI_ge (by omega) (by omega))⟩)
      have lm := tg.2.2.2.2.2
      obtain ⟨v1, v2, _⟩ := lm.2.2.1.2 i hi2
      refine lm_get fg.1 lm rfl (k := 0) rfl hi2 (by omega) ⟨_, rfl, fg.1, ?_⟩
      rw [Nat.add_zero, f_sight v1 hc]
      refine ⟨v_sight fg.1 v1 hc, ?_⟩
      obtain ⟨s1, s2, s3⟩ := sgv_in (tg.2.2.2.2.1 _ _ v1 hc)
      generalize ah_i g 34 (12 * A (60 + 3 * i) + c) = sv at s1 ⊢
      have i1 : nI i + 1 = nI (i + 1) := nI_add _ 1
      rw [i1]
      refine lm_get fg.1 lm rfl (k := 1) rfl hi2 (by omega) ⟨_, rfl, fg.1, ?_⟩
      rw [show 60 + 3 * i + 1 = 61 + 3 * i by omega]
      refine c_ask fg.1 tg.1 tg.2.1 tg.2.2.1 (what := 0) (w := wQ i (A (61 + 3 * i)) k (sgv A (A (60 + 3 * i)) c) 1 mi wi mo) rfl (by omega) (nI_toInt (by omega)) (nI_toInt (by omega)) (nI_toInt (by omega)) s1 rfl (nI_toInt (by omega)) rfl rfl (wQ_rg ⟨by omega, by omega⟩ ⟨by omega, by omega⟩ ⟨by omega, by omega⟩ ⟨by omega, by omega⟩ ⟨by omega, by omega⟩ ⟨by omega, by omega⟩) (fun g1 f1 tp1 => ⟨_, rfl, f1.1, ?_⟩)
      have tg1 := tm_ask f1 tp1 tg
      have fg1 := tmF_t fg (tmF_ak f1)
      rcases ans01 l0 (wQ i (A (61 + 3 * i)) k (sgv A (A (60 + 3 * i)) c) 1 mi wi mo) with y | y
      · rw [y]
        (first | refine ⟨fun _ => ?_, fun n_ => absurd (show nI 0 = 0 by rfl) n_⟩ | refine ⟨fun n_ => absurd (show nI 0 = 0 by rfl) n_, fun _ => ?_⟩ | refine ⟨fun y_ => absurd y_ (show nI 0 = 0 by rfl), fun _ => ?_⟩ | refine ⟨fun _ => ?_, fun y_ => absurd y_ (show nI 0 = 0 by rfl)⟩)
        refine ih (i + 1) g1 v (by omega) fg1 tg1 (fun b hb => (hv b hb).trans ?_)
        refine ⟨fun y2 => ⟨by omega, y2.2⟩, fun y2 => ⟨?_, y2.2⟩⟩
        rcases (by have := y2.1; omega : b < i ∨ b = i) with c | c
        · exact c
        · subst c
          rw [y] at y2
          exact absurd y2.2 (by decide)
      · rw [y]
        (first | refine ⟨fun _ => ?_, fun n_ => absurd (show ¬ nI 1 = 0 by decide) n_⟩ | refine ⟨fun n_ => absurd (show ¬ nI 1 = 0 by decide) n_, fun _ => ?_⟩ | refine ⟨fun y_ => absurd y_ (show ¬ nI 1 = 0 by decide), fun _ => ?_⟩ | refine ⟨fun _ => ?_, fun y_ => absurd y_ (show ¬ nI 1 = 0 by decide)⟩)
        refine ih (i + 1) g1 _ (by omega) fg1 tg1 (fun b hb => (bt_set (by omega) hv b hb).trans ?_)
        refine ⟨fun y2 => ⟨y2.1, ?_⟩, fun y2 => ⟨y2.1, .inl y2.2⟩⟩
        rcases y2.2 with c | c
        · exact c
        · subst c; exact y
  have body : ∀ X : Int32, X = nI P → (vp_in X (ah_n h 41)) ∧ ((¬ (ah_i h 41 (Int32.toNatClampNeg X)) = (-1) → (vp_in X (ah_n h 41)) ∧ Q (some (.int (ah_i h 41 (Int32.toNatClampNeg X)))) h) ∧ ((ah_i h 41 (Int32.toNatClampNeg X)) = (-1) → Wp mX8_fearful Q 0 0 43 [some (.ref 38), some (.int (nI k)), some (.int (nI c)), some (.int (nI mi)), some (.int X), some (.int 0), some (.int 0), none] [] h)) := by
    intro X eX
    subst eX
    rw [nI_clamp (show P < 2 ^ 31 by omega), n41 hs]
    refine ⟨vp, fun z => ⟨vp, ?_⟩, fun z => ?_⟩
    · have := t.2.2.2.1.2.1 mi k c hm hk hc
      rw [← eP] at this
      exact hq h _ (tmF_r hs) t (this.resolve_left z)
    · refine lp (A 246) 0 h 0 (by omega) (tmF_r hs) t (fun b hb => ?_)
      rw [b_0]
      exact ⟨fun y => absurd y (by decide), fun y => absurd y.1 (by omega)⟩
  refine T_X8_fearful hs _ _ _ (c_heeds hs l0 (what := 0) (b := 5) rfl rfl (by omega) (by omega) ⟨_, rfl, hs, ?_⟩)
  unfold hlk at eP
  by_cases z : bt (usd h 0) 5 = true
  · rw [if_pos z] at eP ⊢
    (first | refine ⟨fun _ => ?_, fun n_ => absurd (show ¬ (1 : Int32) = 0 by decide) n_⟩ | refine ⟨fun n_ => absurd (show ¬ (1 : Int32) = 0 by decide) n_, fun _ => ?_⟩ | refine ⟨fun y_ => absurd y_ (show ¬ (1 : Int32) = 0 by decide), fun _ => ?_⟩ | refine ⟨fun _ => ?_, fun y_ => absurd y_ (show ¬ (1 : Int32) = 0 by decide)⟩)
    refine body _ ?_
    rw [show (6 : Int32) = nI 6 from rfl, show (12 : Int32) = nI 12 from rfl, nI_mul, nI_add, nI_mul, nI_add, eP]
  · rw [if_neg z] at eP ⊢
    (first | refine ⟨fun _ => ?_, fun n_ => absurd (show (0 : Int32) = 0 by rfl) n_⟩ | refine ⟨fun n_ => absurd (show (0 : Int32) = 0 by rfl) n_, fun _ => ?_⟩ | refine ⟨fun y_ => absurd y_ (show (0 : Int32) = 0 by rfl), fun _ => ?_⟩ | refine ⟨fun _ => ?_, fun y_ => absurd y_ (show (0 : Int32) = 0 by rfl)⟩)
    refine body _ ?_
    rw [show (0 : Int32) = nI 0 from rfl, show (6 : Int32) = nI 6 from rfl, show (12 : Int32) = nI 12 from rfl, nI_mul, nI_add, nI_mul, nI_add, eP]
theorem c_thirst {Q : Option Value → ah_T → Prop} (hs : Sh h) (t : tmO L wi mo g0 A h) {l mi : Nat} {x1 x2 : Int32} (e1 : x1 = nI l) (e2 : x2 = nI mi) (hl : l < A 246) (hm : mi < 120)
    (hq : ∀ h', tmF h h' → tmO L wi mo g0 A h' → Q (some (.int (nI (thV L wi mo A l mi)))) h') : Mt mX8_thirst [.ref 38, .int x1, .int x2] h Q := by
  subst e1 e2
  have h10 := t.2.2.2.2.2.2.2.1.1
  have l0 := t.1.1
  have n42 : ∀ {g : ah_T}, Sh g → ah_n g 42 = 1200 := fun hs => sh_n hs 42 1200 (by decide) (by decide) rfl
  have hlt := hlk_lt (u := usd h 2) hm
  obtain ⟨P, eP⟩ : ∃ P, P = hlk (usd h 2) mi * 10 + l := ⟨_, rfl⟩
  have hP : P < 1200 := by omega
  have vp : vp_in (nI P) 1200 := (vp_nI (by omega)).mpr hP
  have body : ∀ X : Int32, X = nI P → (vp_in X (ah_n h 42)) ∧ ((¬ (ah_i h 42 (Int32.toNatClampNeg X)) = (-1) → (vp_in X (ah_n h 42)) ∧ Q (some (.int (ah_i h 42 (Int32.toNatClampNeg X)))) h) ∧ ((ah_i h 42 (Int32.toNatClampNeg X)) = (-1) → (Mt mX7_get [.ref 4, .int (nI l), .int 1] h (ab_qi fun v10 h8 => Sh h8 ∧ (Mt mX8_ask [.ref 38, .int 2, .int (nI l), .int v10, .int (-1), .int (-1), .int (-1), .int (nI mi)] h8 (ab_qi fun v13 h11 => Sh h11 ∧ (vp_in X (ah_n h11 42)) ∧ (∀ h15, h15 = ah_si h11 42 (Int32.toNatClampNeg X) v13 → (vp_in X (ah_n h15 42)) ∧ Q (some (.int (ah_i h15 42 (Int32.toNatClampNeg X)))) h15))))))) := by
    intro X eX
    subst eX
    rw [nI_clamp (show P < 2 ^ 31 by omega), n42 hs]
    have lm := t.2.2.2.2.2
    obtain ⟨u1, u2, _⟩ := lm.2.2.1.2 l hl
    refine ⟨vp, fun z => ⟨vp, ?_⟩, fun z => ?_⟩
    · have := t.2.2.2.1.2.2 mi l hm hl
      rw [← eP] at this
      rw [this.resolve_left z]
      exact hq h (tmF_r hs) t
    · refine lm_get hs lm rfl (k := 1) rfl hl (by omega) ⟨_, rfl, hs, ?_⟩
      rw [show 60 + 3 * l + 1 = 61 + 3 * l by omega]
      refine c_ask hs t.1 t.2.1 t.2.2.1 (what := 2) (w := wQ l (A (61 + 3 * l)) (-1) (-1) (-1) mi wi mo) rfl (by omega) (nI_toInt (by omega)) (nI_toInt (by omega)) rfl rfl rfl (nI_toInt (by omega)) rfl rfl (wQ_rg ⟨by omega, by omega⟩ ⟨by omega, by omega⟩ ⟨by omega, by omega⟩ ⟨by omega, by omega⟩ ⟨by omega, by omega⟩ ⟨by omega, by omega⟩) (fun g1 f1 tp1 => ⟨_, rfl, f1.1, ?_⟩)
      have tg1 := tm_ask f1 tp1 t
      rw [n42 f1.1]
      refine ⟨vp, ?_⟩
      rintro h15 rfl
      rw [ah_n_si, n42 f1.1, ah_i_ss]
      have st := tm_st42 (l := l) (mi := mi) (v := nI (thV L wi mo A l mi)) hl hm rfl f1.1 tg1
      rw [usd_fr l0 (tmF_ak f1), ← eP] at st
      exact ⟨vp, hq _ (tmF_t (tmF_ak f1) st.2) st.1⟩
  refine T_X8_thirst hs _ _ (c_heeds hs l0 (what := 2) (b := 5) rfl rfl (by omega) (by omega) ⟨_, rfl, hs, ?_⟩)
  unfold hlk at eP
  by_cases z : bt (usd h 2) 5 = true
  · rw [if_pos z] at eP ⊢
    (first | refine ⟨fun _ => ?_, fun n_ => absurd (show ¬ (1 : Int32) = 0 by decide) n_⟩ | refine ⟨fun n_ => absurd (show ¬ (1 : Int32) = 0 by decide) n_, fun _ => ?_⟩ | refine ⟨fun y_ => absurd y_ (show ¬ (1 : Int32) = 0 by decide), fun _ => ?_⟩ | refine ⟨fun _ => ?_, fun y_ => absurd y_ (show ¬ (1 : Int32) = 0 by decide)⟩)
    refine body _ ?_
    rw [show (10 : Int32) = nI 10 from rfl, nI_mul, nI_add, eP]
  · rw [if_neg z] at eP ⊢
    (first | refine ⟨fun _ => ?_, fun n_ => absurd (show (0 : Int32) = 0 by rfl) n_⟩ | refine ⟨fun n_ => absurd (show (0 : Int32) = 0 by rfl) n_, fun _ => ?_⟩ | refine ⟨fun y_ => absurd y_ (show (0 : Int32) = 0 by rfl), fun _ => ?_⟩ | refine ⟨fun _ => ?_, fun y_ => absurd y_ (show (0 : Int32) = 0 by rfl)⟩)
    refine body _ ?_
    rw [show (0 : Int32) = nI 0 from rfl, show (10 : Int32) = nI 10 from rfl, nI_mul, nI_add, eP]
end TM2
