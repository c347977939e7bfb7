/-! ===== the class surveys its streets ===== -/
abbrev noS : Nat → Prop := fun _ => False
abbrev shS (A : Nat → Nat) : Nat → Prop := fun w => A (3 * w + 2) = 1
/-- rows of neighbours, as bits -/
def nbO (E : Nat → Nat → Prop) (h : ah_T) (a : Nat) : Prop := ∀ c, c < 12 → ∀ i, i < 32 → (bt (ah_i h a c) i = true ↔ E c i)
theorem nbO_mono {E E' : Nat → Nat → Prop} {h : ah_T} {a : Nat} (q : nbO E h a) (e : ∀ c i, E c i ↔ E' c i) : nbO E' h a := fun c hc i hi => (q c hc i hi).trans (e c i)
theorem nbO_add {E E' : Nat → Nat → Prop} {h : ah_T} {a lo hi : Nat} (q : nbO E h a) (h1 : lo < hi) (h2 : hi < 12) (e : ∀ c i, E' c i ↔ (E c i ∨ (c = lo ∧ i = hi) ∨ (c = hi ∧ i = lo))) : nbO E' (ah_si (ah_si h a lo (ah_i h a lo ||| ((1 : Int32) <<< (nI hi &&& 31)))) a hi (ah_i h a hi ||| ((1 : Int32) <<< (nI lo &&& 31)))) a := by
  intro c hc i hi2
  rw [e c i, ah_i_si, ah_i_si]
  by_cases c1 : c = hi
  · subst c1
    rw [if_pos ⟨rfl, rfl⟩, b_or, Bool.or_eq_true, q c hc i hi2, b_1sh (by omega) hi2, decide_eq_true_eq]
    constructor
    · rintro (z | z)
      · exact .inl z
      · exact .inr (.inr ⟨rfl, z⟩)
    · rintro (z | ⟨z1, z2⟩ | ⟨z1, z2⟩)
      · exact .inl z
      · omega
      · exact .inr z2
  · rw [if_neg (fun z => c1 z.2)]
    by_cases c2 : c = lo
    · subst c2
      rw [if_pos ⟨rfl, rfl⟩, b_or, Bool.or_eq_true, q c hc i hi2, b_1sh (by omega) hi2, decide_eq_true_eq]
      constructor
      · rintro (z | z)
        · exact .inl z
        · exact .inr (.inl ⟨rfl, z⟩)
      · rintro (z | ⟨z1, z2⟩ | ⟨z1, z2⟩)
        · exact .inl z
        · exact .inr z2
        · omega
    · rw [if_neg (fun z => c2 z.2), q c hc i hi2]
      constructor
      · exact .inl
      · rintro (z | ⟨z1, _⟩ | ⟨z1, _⟩)
        · exact z
        · exact absurd z1 c2
        · exact absurd z1 c1
theorem EB_s {A : Nat → Nat} {s : Nat → Prop} {n : Nat} (hs : ¬ s n) (c i : Nat) : EB A s (n + 1) c i ↔ (EB A s n c i ∨ (c = A (3 * n) ∧ i = A (3 * n + 1)) ∨ (c = A (3 * n + 1) ∧ i = A (3 * n))) := by
  constructor
  · rintro ⟨v, hv, h1, h2⟩
    rcases Nat.lt_or_ge v n with k | k
    · exact .inl ⟨v, k, h1, h2⟩
    · have : v = n := by omega
      subst this
      rcases h2 with ⟨e1, e2⟩ | ⟨e1, e2⟩
      · exact .inr (.inl ⟨e1.symm, e2.symm⟩)
      · exact .inr (.inr ⟨e2.symm, e1.symm⟩)
  · rintro (⟨v, hv, h1, h2⟩ | ⟨e1, e2⟩ | ⟨e1, e2⟩)
    · exact ⟨v, by omega, h1, h2⟩
    · exact ⟨n, by omega, hs, .inl ⟨e1.symm, e2.symm⟩⟩
    · exact ⟨n, by omega, hs, .inr ⟨e2.symm, e1.symm⟩⟩
theorem EB_n {A : Nat → Nat} {s : Nat → Prop} {n : Nat} (hs : s n) (c i : Nat) : EB A s n c i ↔ EB A s (n + 1) c i := by
  constructor
  · rintro ⟨v, hv, h1, h2⟩
    exact ⟨v, by omega, h1, h2⟩
  · rintro ⟨v, hv, h1, h2⟩
    rcases Nat.lt_or_ge v n with k | k
    · exact ⟨v, k, h1, h2⟩
    · have : v = n := by omega
      subst this
      exact absurd hs h1
/-- a ball: corners within a reach -/
def ballO (E : Nat → Nat → Prop) (c r : Nat) (x : Int32) : Prop := ∀ i, i < 32 → (bt x i = true ↔ ∃ n, n ≤ r ∧ lst E c i n)
/-- what holds of the streets as surveyed -/
def stO (A : Nat → Nat) (h : ah_T) : Prop := nbO (Ew A noS) h 30 ∧ nbO (Ew A (shS A)) h 31 ∧ (∀ x y, x < 12 → y < 12 → dst (Ew A noS) x y (ah_i h 33 (12 * x + y))) ∧ (∀ x y, x < 12 → y < 12 → dst (Ew A (shS A)) x y (ah_i h 34 (12 * x + y))) ∧ ∀ c r, c < 12 → r < 10 → ah_i h 35 (10 * c + r) = -1 ∨ ballO (Ew A (shS A)) c r (ah_i h 35 (10 * c + r))
section SU
variable {A : Nat → Nat} {h0 : ah_T} {Q : Option Value → ah_T → Prop}
/-- the class's row of ways with its shutters -/
def cWs (A : Nat → Nat) (h : ah_T) : Prop := cWy A h ∧ ∀ w, w < A 245 → ah_i h 3 (3 * w + 2) = nI (A (3 * w + 2)) ∧ A (3 * w + 2) ≤ 1
theorem cWs_fr {h h' : ah_T} (e2 : eqc h h' 2) (e3 : eqc h h' 3) (q : cWs A h) : cWs A h' := by
  obtain ⟨⟨q1, q2, q3, q4⟩, q5⟩ := q
  exact ⟨⟨by rw [e2.1]; exact q1, by rw [e2.1]; exact q2, q3, fun w hw => by rw [e3.1, e3.1]; exact q4 w hw⟩, fun w hw => by rw [e3.1]; exact q5 w hw⟩
theorem cWs_of {TX : ah_T → Nat → (Nat → Nat) → (Nat → Nat) → Nat → Prop} {h : ah_T} (wf : WF A) (tn : Tn TX A h 1 84 0) : cWs A h := by
  refine ⟨cWy_of wf tn (fun _ => rfl) (fun _ => rfl), fun w hw => ?_⟩
  have h5 := wf.1.1
  have q6 := tn.1.2.2.2.2.2 (3 * w + 2) (by have := tn.1.2.2.2.2.1; omega)
  simp only [Nat.zero_add] at q6
  exact ⟨q6.1, (wf.1.2.1 w hw).2.2⟩
theorem c_survey (hs0 : Sh h0) (cw : cWs A h0)
    (hq : ∀ h, Sh h → ah_x h = ah_x h0 → (∀ a, a ≠ 29 → a ≠ 30 → a ≠ 31 → a ≠ 33 → a ≠ 34 → a ≠ 35 → eqc h0 h a) → (∀ j, j ≠ 12 → j ≠ 13 → ah_i h 29 j = ah_i h0 29 j) → (∀ j, ah_r h 29 j = ah_r h0 29 j) → ah_i h 29 12 = 0 → ah_i h 29 13 = -1 → stO A h → Q none h) : Mt mX6_survey [.ref 29] h0 Q := by
  have hA20 : A 245 ≤ 20 := cw.1.2.2.1
  have w : ∀ v, v < A 245 → A (3 * v) < A (3 * v + 1) ∧ A (3 * v + 1) < 12 := fun v hv => ⟨(cw.1.2.2.2 v hv).2.2.1, (cw.1.2.2.2 v hv).2.2.2⟩
  -- the spreading
  have l2 : ∀ (q c : Nat) (h : ah_T), c + q = 12 → Sh h → ah_x h = ah_x h0 → (∀ a, a ≠ 30 → a ≠ 31 → a ≠ 33 → a ≠ 34 → eqc h0 h a) → nbO (Ew A noS) h 30 → nbO (Ew A (shS A)) h 31 → (∀ x y, x < c → y < 12 → dst (Ew A noS) x y (ah_i h 33 (12 * x + y))) → (∀ x y, x < c → y < 12 → dst (Ew A (shS A)) x y (ah_i h 34 (12 * x + y))) → Wp mX6_survey Q 0 0 129 [some (.ref 29), some (.int (nI c)), none, none] [] h := by
    intro q
    induction q with
    | zero =>
      intro c h hc hs hx he b1 b2 d1 d2
      refine T_X6_survey_129 hs _ ?_
      (first | refine ⟨fun _ => ?_, fun n_ => absurd (show 12 ≤ nI c from nI_le (a := 12) (by omega) (by omega)) n_⟩ | refine ⟨fun n_ => absurd (show 12 ≤ nI c from nI_le (a := 12) (by omega) (by omega)) n_, fun _ => ?_⟩ | refine ⟨fun y_ => absurd y_ (show 12 ≤ nI c from nI_le (a := 12) (by omega) (by omega)), fun _ => ?_⟩ | refine ⟨fun _ => ?_, fun y_ => absurd y_ (show 12 ≤ nI c from nI_le (a := 12) (by omega) (by omega))⟩)
      have n35 : ah_n h 35 = 120 := sh_n hs 35 120 (by decide) (by decide) rfl
      refine c_fillA hs 35 (-1) (sh_k hs 35 14 (by decide) rfl) (by rw [n35]; decide) ⟨rfl, sh_fl hs, ?_⟩
      rw [n35]
      rintro h42 rfl h45 rfl
      refine hq _ (sh_si (sh_si (sh_fl hs))) (by rw [ah_x_si, ah_x_si, x_fl, hx]) (fun a n1 n2 n3 n4 n5 n6 => eqc_si (eqc_si (eqc_fl (he a n2 n3 n4 n5) n6) n1) n1) (fun j n1 n2 => ?_) (fun j => ?_) ?_ ?_ ⟨?_, ?_, ?_, ?_, ?_⟩
      · rw [ah_i_sn (by omega), ah_i_sn (by omega), ah_i_fl, if_neg (by omega), (he 29 (by decide) (by decide) (by decide) (by decide)).1]
      · rw [ah_r_si, ah_r_si]
        exact (he 29 (by decide) (by decide) (by decide) (by decide)).2.2.1 j
      · rw [ah_i_sn (by omega), ah_i_ss]
      · rw [ah_i_ss]
      · intro c hc i hi
        rw [ah_i_sn (by omega), ah_i_sn (by omega), ah_i_fl, if_neg (by omega)]
        exact b1 c hc i hi
      · intro c hc i hi
        rw [ah_i_sn (by omega), ah_i_sn (by omega), ah_i_fl, if_neg (by omega)]
        exact b2 c hc i hi
      · intro x y hx hy
        rw [ah_i_sn (by omega), ah_i_sn (by omega), ah_i_fl, if_neg (by omega)]
        exact d1 x y (by omega) hy
      · intro x y hx hy
        rw [ah_i_sn (by omega), ah_i_sn (by omega), ah_i_fl, if_neg (by omega)]
        exact d2 x y (by omega) hy
      · intro c r hc hr
        rw [ah_i_sn (by omega), ah_i_sn (by omega), ah_i_fl, if_pos (by omega)]
        exact .inl rfl
    | succ q ih =>
      intro c h hc hs hx he b1 b2 d1 d2
      refine T_X6_survey_129 hs _ ?_
      (first | refine ⟨fun _ => ?_, fun n_ => absurd (show ¬ 12 ≤ nI c from nI_ge (b := 12) (by omega) (by omega)) n_⟩ | refine ⟨fun n_ => absurd (show ¬ 12 ≤ nI c from nI_ge (b := 12) (by omega) (by omega)) n_, fun _ => ?_⟩ | refine ⟨fun y_ => absurd y_ (show ¬ 12 ≤ nI c from nI_ge (b := 12) (by omega) (by omega)), fun _ => ?_⟩ | refine ⟨fun _ => ?_, fun y_ => absurd y_ (show ¬ 12 ≤ nI c from nI_ge (b := 12) (by omega) (by omega))⟩)
      have f1 : nI c * 12 = nI (12 * c) := by rw [n_12, nI_mul]; congr 1; omega
      rw [f1, nI_1]
      have n33 : ah_n h 33 = 144 := sh_n hs 33 144 (by decide) (by decide) rfl
      have n34 : ah_n h 34 = 144 := sh_n hs 34 144 (by decide) (by decide) rfl
      refine c_spread (E := Ew A noS) (st := 12 * c) (fr := c) (Ew_in w) (by decide) hs (sh_k hs 30 14 (by decide) rfl) (sh_k hs 33 14 (by decide) rfl) (sh_n hs 30 12 (by decide) (by decide) rfl) (by omega) (by omega) (by omega) b1 rfl rfl (fun h1 r1 e1 => ⟨rfl, r1.1, ?_⟩)
      have k31 := r1.2.2.1 31 (by decide)
      have k34 := r1.2.2.1 34 (by decide)
      have k30 := r1.2.2.1 30 (by decide)
      refine c_spread (E := Ew A (shS A)) (st := 12 * c) (fr := c) (Ew_in w) (by decide) r1.1 (sh_k r1.1 31 14 (by decide) rfl) (sh_k r1.1 34 14 (by decide) rfl) (sh_n r1.1 31 12 (by decide) (by decide) rfl) (by rw [k34.2.2.2.2]; omega) (by rw [k34.2.2.2.2]; omega) (by omega) (fun c hc i hi => by rw [k31.1]; exact b2 c hc i hi) rfl rfl (fun h2 r2 e2 => ⟨rfl, r2.1, ?_⟩)
      have j30 := r2.2.2.1 30 (by decide)
      have j31 := r2.2.2.1 31 (by decide)
      have j33 := r2.2.2.1 33 (by decide)
      refine ih (c + 1) h2 (by omega) r2.1 (by rw [r2.2.1, r1.2.1, hx]) (fun a n1 n2 n3 n4 => eqc_trans (eqc_trans (he a n1 n2 n3 n4) (r1.2.2.1 a n3)) (r2.2.2.1 a n4)) (fun c hc i hi => by rw [j30.1, k30.1]; exact b1 c hc i hi) (fun c hc i hi => by rw [j31.1, k31.1]; exact b2 c hc i hi) (fun x y hx hy => ?_) (fun x y hx hy => ?_)
      · rw [j33.1]
        rcases Nat.lt_or_ge x c with k | k
        · rw [r1.2.2.2.2.2 _ (by omega)]
          exact d1 x y k hy
        · have : x = c := by omega
          subst this
          exact e1 y hy
      · rcases Nat.lt_or_ge x c with k | k
        · rw [r2.2.2.2.2.2 _ (by omega), k34.1]
          exact d2 x y k hy
        · have : x = c := by omega
          subst this
          exact e2 y hy
  -- the ways
  have l1 : ∀ (q n : Nat) (h : ah_T), n + q = A 245 → Sh h → ah_x h = ah_x h0 → (∀ a, a ≠ 30 → a ≠ 31 → eqc h0 h a) → nbO (EB A noS n) h 30 → nbO (EB A (shS A) n) h 31 → Wp mX6_survey Q 0 0 18 [some (.ref 29), some (.int (nI n)), none, none] [] h := by
    intro q
    induction q with
    | zero =>
      intro n h hn hs hx he b1 b2
      have cw2 := cWs_fr (he 2 (by decide) (by decide)) (he 3 (by decide) (by decide)) cw
      refine T_X6_survey_18 hs _ ?_
      rw [cw2.1.2.1]
      (first | refine ⟨fun _ => ?_, fun n_ => absurd (show nI (A 245) ≤ nI n from nI_le (by omega) (by omega)) n_⟩ | refine ⟨fun n_ => absurd (show nI (A 245) ≤ nI n from nI_le (by omega) (by omega)) n_, fun _ => ?_⟩ | refine ⟨fun y_ => absurd y_ (show nI (A 245) ≤ nI n from nI_le (by omega) (by omega)), fun _ => ?_⟩ | refine ⟨fun _ => ?_, fun y_ => absurd y_ (show nI (A 245) ≤ nI n from nI_le (by omega) (by omega))⟩)
      have hn2 : n = A 245 := by omega
      subst hn2
      exact l2 12 0 h rfl hs hx (fun a n1 n2 _ _ => he a n1 n2) b1 b2 (fun x y hx => by omega) (fun x y hx => by omega)
    | succ q ih =>
      intro n h hn hs hx he b1 b2
      have cw2 := cWs_fr (he 2 (by decide) (by decide)) (he 3 (by decide) (by decide)) cw
      obtain ⟨⟨m0, m1, m2, m3⟩, m4⟩ := cw2
      obtain ⟨r1, r2, r3, r4⟩ := m3 n (by omega)
      obtain ⟨r5, r6⟩ := m4 n (by omega)
      refine T_X6_survey_18 hs _ ?_
      rw [m1]
      (first | refine ⟨fun _ => ?_, fun n_ => absurd (show ¬ nI (A 245) ≤ nI n from nI_ge (by omega) (by omega)) n_⟩ | refine ⟨fun n_ => absurd (show ¬ nI (A 245) ≤ nI n from nI_ge (by omega) (by omega)) n_, fun _ => ?_⟩ | refine ⟨fun y_ => absurd y_ (show ¬ nI (A 245) ≤ nI n from nI_ge (by omega) (by omega)), fun _ => ?_⟩ | refine ⟨fun _ => ?_, fun y_ => absurd y_ (show ¬ nI (A 245) ≤ nI n from nI_ge (by omega) (by omega))⟩)
      have hl60 : 3 * A 245 ≤ sh_N 3 := by show 3 * A 245 ≤ 60; omega
      refine c_getW hs (.inl rfl) rfl (k := 0) rfl m0 m1 hl60 (by omega) (by omega) ⟨_, rfl, hs, ?_⟩
      refine c_getW hs (.inl rfl) rfl (k := 1) rfl m0 m1 hl60 (by omega) (by omega) ⟨_, rfl, hs, ?_⟩
      rw [show ah_i h (2 + 1) (3 * n + 0) = nI (A (3 * n)) from r1, show ah_i h (2 + 1) (3 * n + 1) = nI (A (3 * n + 1)) from r2, nI_clamp (by omega), nI_clamp (by omega), nI_1]
      have v30 : ∀ k, k < 12 → vp_in (nI k) (ah_n h 30) := fun k hk => by rw [sh_n hs 30 12 (by decide) (by decide) rfl]; exact (vp_nI (by omega)).mpr hk
      have v31 : ∀ k, k < 12 → vp_in (nI k) (ah_n h 31) := fun k hk => by rw [sh_n hs 31 12 (by decide) (by decide) rfl]; exact (vp_nI (by omega)).mpr hk
      refine ⟨v30 _ (by omega), v30 _ (by omega), ?_⟩
      rintro h16 rfl
      rw [ah_n_si, ah_i_sn (by omega)]
      refine ⟨v30 _ (by omega), v30 _ (by omega), ?_⟩
      rintro h21 rfl
      have hs2 : Sh (ah_si (ah_si h 30 (A (3 * n)) (ah_i h 30 (A (3 * n)) ||| ((1 : Int32) <<< (nI (A (3 * n + 1)) &&& 31)))) 30 (A (3 * n + 1)) (ah_i h 30 (A (3 * n + 1)) ||| ((1 : Int32) <<< (nI (A (3 * n)) &&& 31)))) := sh_si (sh_si hs)
      have b1' : nbO (EB A noS (n + 1)) _ 30 := nbO_add b1 (show A (3 * n) < A (3 * n + 1) from r3) r4 (EB_s (s := noS) (fun z => z))
      revert hs2 b1'
      generalize hg : ah_si (ah_si h 30 (A (3 * n)) (ah_i h 30 (A (3 * n)) ||| ((1 : Int32) <<< (nI (A (3 * n + 1)) &&& 31)))) 30 (A (3 * n + 1)) (ah_i h 30 (A (3 * n + 1)) ||| ((1 : Int32) <<< (nI (A (3 * n)) &&& 31))) = g
      intro hs2 b1'
      have eg : ∀ a, a ≠ 30 → eqc h g a := fun a n1 => by rw [← hg]; exact eqc_si (eqc_si eqc_rfl n1) n1
      have xg : ah_x g = ah_x h := by rw [← hg, ah_x_si, ah_x_si]
      refine c_getW hs2 (.inl rfl) rfl (k := 2) rfl (by rw [(eg 2 (by decide)).1]; exact m0) (by rw [(eg 2 (by decide)).1]; exact m1) hl60 (by omega) (by omega) ⟨_, rfl, hs2, ?_⟩
      rw [show ah_i g (2 + 1) (3 * n + 2) = nI (A (3 * n + 2)) by rw [(eg 3 (by decide)).1]; exact r5]
      have b2g : nbO (EB A (shS A) n) g 31 := fun c hc i hi => by rw [(eg 31 (by decide)).1]; exact b2 c hc i hi
      rcases (show A (3 * n + 2) = 0 ∨ A (3 * n + 2) = 1 by omega) with z | z
      · rw [z]
        (first | refine ⟨fun _ => ?_, fun n_ => absurd (show nI 0 = 0 by rfl) n_⟩ | refine ⟨fun n_ => absurd (show nI 0 = 0 by rfl) n_, fun _ => ?_⟩ | refine ⟨fun y_ => absurd y_ (show nI 0 = 0 by rfl), fun _ => ?_⟩ | refine ⟨fun _ => ?_, fun y_ => absurd y_ (show nI 0 = 0 by rfl)⟩)
        refine ⟨by rw [(eg 31 (by decide)).2.2.2.2]; exact v31 _ (by omega), by rw [(eg 31 (by decide)).2.2.2.2]; exact v31 _ (by omega), ?_⟩
        rintro h30 rfl
        rw [ah_n_si, ah_i_sn (by omega)]
        refine ⟨by rw [(eg 31 (by decide)).2.2.2.2]; exact v31 _ (by omega), by rw [(eg 31 (by decide)).2.2.2.2]; exact v31 _ (by omega), ?_⟩
        rintro h35 rfl
        refine ih (n + 1) _ (by omega) (sh_si (sh_si hs2)) (by rw [ah_x_si, ah_x_si, xg, hx]) (fun a n1 n2 => eqc_si (eqc_si (eqc_trans (he a n1 n2) (eg a n1)) n2) n2) (fun c hc i hi => by rw [ah_i_sn (by omega), ah_i_sn (by omega)]; exact b1' c hc i hi) ?_
        exact nbO_add b2g r3 r4 (EB_s (s := shS A) (fun q => by have : A (3 * n + 2) = 1 := q; omega))
      · rw [z]
        (first | refine ⟨fun _ => ?_, fun n_ => absurd (show ¬ nI 1 = 0 by decide) n_⟩ | refine ⟨fun n_ => absurd (show ¬ nI 1 = 0 by decide) n_, fun _ => ?_⟩ | refine ⟨fun y_ => absurd y_ (show ¬ nI 1 = 0 by decide), fun _ => ?_⟩ | refine ⟨fun _ => ?_, fun y_ => absurd y_ (show ¬ nI 1 = 0 by decide)⟩)
        exact ih (n + 1) g (by omega) hs2 (by rw [xg, hx]) (fun a n1 n2 => eqc_trans (he a n1 n2) (eg a n1)) b1' (nbO_mono b2g (EB_n (s := shS A) z))
  have n30 : ah_n h0 30 = 12 := sh_n hs0 30 12 (by decide) (by decide) rfl
  refine T_X6_survey hs0 (c_fillA hs0 30 0 (sh_k hs0 30 14 (by decide) rfl) (by rw [n30]; decide) ⟨rfl, sh_fl hs0, ?_⟩)
  rw [n30]
  have n31 : ah_n (ab_fl h0 30 0 12 0) 31 = 12 := sh_n (sh_fl hs0) 31 12 (by decide) (by decide) rfl
  refine c_fillA (sh_fl hs0) 31 0 (sh_k (sh_fl hs0) 31 14 (by decide) rfl) (by rw [n31]; decide) ⟨rfl, sh_fl (sh_fl hs0), ?_⟩
  rw [n31]
  refine l1 (A 245) 0 _ (by omega) (sh_fl (sh_fl hs0)) (by rw [x_fl, x_fl]) (fun a n1 n2 => eqc_fl (eqc_fl eqc_rfl n1) n2) (fun c hc i hi => ?_) (fun c hc i hi => ?_)
  · rw [ah_i_fl, if_neg (by omega), ah_i_fl, if_pos (by omega), b_0]
    constructor
    · intro z; exact absurd z (by decide)
    · rintro ⟨v, hv, _⟩; omega
  · rw [ah_i_fl, if_pos (by omega), b_0]
    constructor
    · intro z; exact absurd z (by decide)
    · rintro ⟨v, hv, _⟩; omega
end SU
