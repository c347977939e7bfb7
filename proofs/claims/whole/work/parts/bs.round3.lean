/-! ===== rounds: the class's stops and costs ===== -/
abbrev coL (A : Nat → Nat) : Nat → Nat := fun l => A (60 + 3 * l)
def spO (A : Nat → Nat) (h : ah_T) : Prop := ∀ x y, x < 12 → y < 12 → dst (Ew A noS) x y (ah_i h 33 (12 * x + y))
def stG (A : Nat → Nat) (k : Nat) (st of : Nat → Nat) (h : ah_T) : Prop := ah_i h 29 10 = nI k ∧ k ≤ A 246 ∧ (∀ t, t < k → ah_i h 36 t = nI (st t) ∧ ∃ l, l < A 246 ∧ st t = coL A l) ∧ ∀ l, l < A 246 → ah_i h 37 l = nI (of l) ∧ of l < k ∧ st (of l) = coL A l
def coO (A : Nat → Nat) (k : Nat) (st : Nat → Nat) (b : Nat) (h : ah_T) : Prop := ∀ s t, s < 2 ^ k → t < k → ah_i h b (s * 10 + t) = nI (rG A k st s (st t))
def kxR (h : ah_T) : Prop := ∀ b, ah_r h 29 11 = some b → 123 ≤ b ∧ b < ah_x h ∧ ah_k h b = 14 ∧ ah_n h b = 10240
section RC
variable {A st of : Nat → Nat} {h g : ah_T} {k a b s m x y c n : Nat}
theorem p2_10 (hk : k ≤ 10) : 2 ^ k ≤ 1024 := Nat.pow_le_pow_right (n := 2) (by decide) hk
theorem c_steps (hx : x < 12) (hy : y < 12) : f_X6_steps h (nI x) (nI y) = ah_i h 33 (12 * x + y) := by
  have e1 : ¬ f_X11_isIn (nI x) 12 = 0 := q_is0 (n := 12) (by decide) hx
  have e2 : ¬ f_X11_isIn (nI y) 12 = 0 := q_is0 (n := 12) (by decide) hy
  unfold f_X6_steps
  rw [if_neg e1, if_neg e2, n_12, nI_mul, nI_add, nI_clamp (by omega), Nat.mul_comm]
theorem c_stepsN (sp : spO A h) (hx : x < 12) (hy : y < 12) (lt : dS A x y < 1000000) : f_X6_steps h (nI x) (nI y) = nI (dS A x y) ∧ dS A x y < 12 := by
  rw [c_steps hx hy]
  rcases dS_v (sp x y hx hy) with q | q
  · omega
  · exact q
theorem c_rest {Q : Option Value → ah_T → Prop} {x1 x2 : Int32} (hs : Sh h) (sp : spO A h) (e10 : ah_i h 29 10 = nI k) (hk : k ≤ 10) (s36 : ∀ t, t < k → ah_i h 36 t = nI (st t) ∧ st t < 12) (rb : ah_r h 29 11 = some b) (kb : ah_k h b = 14) (nbb : ah_n h b = 10240) (hsk : s < 2 ^ k) (ha : a < 12) (e1 : x1 = nI a) (e2 : x2 = nI s) (cs : ∀ t, t < k → s.testBit t = true → ah_i h b ((s ^^^ 2 ^ t) * 10 + t) = nI (rG A k st (s ^^^ 2 ^ t) (st t))) (fin : ∀ t, t < k → dS A a (st t) < 1000000) (hq : Q (some (.int (nI (rG A k st s a)))) h) : Mt mX6_rest [.ref 29, .int x1, .int x2] h Q := by
  subst e1 e2
  have p2 := p2_10 hk
  have lp : ∀ (x0 : Nat), ((x0 = 1000000 ∧ ∃ t, t < k ∧ s.testBit t = true) ∨ (x0 = 0 ∧ s = 0)) → ∀ (q j best : Nat), j + q = k → best ≤ 1000000 → (∀ t, t < j → s.testBit t = true → best ≤ dS A a (st t) + rG A k st (s ^^^ 2 ^ t) (st t)) → (best = x0 ∨ ∃ t, t < j ∧ s.testBit t = true ∧ best = dS A a (st t) + rG A k st (s ^^^ 2 ^ t) (st t)) → Wp mX6_rest Q 0 0 14 [some (.ref 29), some (.int (nI a)), some (.int (nI s)), some (.int (nI best)), some (.int (nI j)), none] [] h := by
    intro x0 hx0 q
    induction q with
    | zero =>
      intro j best hj b1 b2 b3
      have e9 : j = k := by omega
      subst e9
      refine T_X6_rest_14 hs _ _ _ _ ?_
      rw [e10]
      (first | refine ⟨fun _ => ?_, fun n_ => absurd (show nI j ≤ nI j from nI_le (Nat.le_refl _) (by omega)) n_⟩ | refine ⟨fun n_ => absurd (show nI j ≤ nI j from nI_le (Nat.le_refl _) (by omega)) n_, fun _ => ?_⟩ | refine ⟨fun y_ => absurd y_ (show nI j ≤ nI j from nI_le (Nat.le_refl _) (by omega)), fun _ => ?_⟩ | refine ⟨fun _ => ?_, fun y_ => absurd y_ (show nI j ≤ nI j from nI_le (Nat.le_refl _) (by omega))⟩)
      have : best = rG A j st s a := by
        rcases hx0 with ⟨y1, y2⟩ | ⟨y1, y2⟩
        · refine rv_min ⟨hk, fun t ht => (s36 t ht).2⟩ y2 b1 b2 ?_
          rw [y1] at b3
          exact b3
        · subst y2
          rw [rv_0 (fun l _ => Nat.zero_testBit l)]
          rcases b3 with z | ⟨t, _, z, _⟩
          · rw [z, y1]
          · rw [Nat.zero_testBit] at z; exact absurd z (by decide)
      rw [this]
      exact hq
    | succ q ih =>
      intro j best hj b1 b2 b3
      have hjk : j < k := by omega
      obtain ⟨s1, s2⟩ := s36 j hjk
      refine T_X6_rest_14 hs _ _ _ _ ?_
      rw [e10, b_bit _ j (by omega), nb (by omega), nI_1]
      (first | refine ⟨fun _ => ?_, fun n_ => absurd (show ¬ nI k ≤ nI j from nI_ge hjk (by omega)) n_⟩ | refine ⟨fun n_ => absurd (show ¬ nI k ≤ nI j from nI_ge hjk (by omega)) n_, fun _ => ?_⟩ | refine ⟨fun y_ => absurd y_ (show ¬ nI k ≤ nI j from nI_ge hjk (by omega)), fun _ => ?_⟩ | refine ⟨fun _ => ?_, fun y_ => absurd y_ (show ¬ nI k ≤ nI j from nI_ge hjk (by omega))⟩)
      refine ⟨fun z => ?_, fun z => ⟨fun e => (by rw [rb] at e; cases e), fun b' e => ?_⟩⟩
      · refine ih (j + 1) best (by omega) b1 (fun t ht bt => ?_) ?_
        · by_cases w : t = j
          · subst w; rw [z] at bt; exact absurd bt (by decide)
          · exact b2 t (by omega) bt
        · rcases b3 with w | ⟨t, w1, w2⟩
          · exact .inl w
          · exact .inr ⟨t, by omega, w2⟩
      · have eb : b = b' := Option.some.inj (rb.symm.trans e)
        subst eb
        have zt : s.testBit j = true := by cases w : s.testBit j; exact absurd w z; rfl
        have dn := dn_xor (show s < 1024 by omega) (show j < 10 by omega) zt
        obtain ⟨f1, f2⟩ := c_stepsN sp ha s2 (fin j hjk)
        have r1 := rv_le A k st (s ^^^ 2 ^ j) (st j)
        have a1 : nI (s ^^^ 2 ^ j) * 10 + nI j = nI ((s ^^^ 2 ^ j) * 10 + j) := by rw [n_10, nI_mul, nI_add]
        have a2 : nI a * 12 + nI (st j) = nI (a * 12 + st j) := by rw [n_12, nI_mul, nI_add]
        rw [nI_1sh (by omega), nI_xor, a1, nI_clamp (show (s ^^^ 2 ^ j) * 10 + j < 2 ^ 31 by omega), nI_clamp (show j < 2 ^ 31 by omega), s1, f1, cs j hjk zt, nI_add, a2, nbb, sh_n hs 36 10 (by decide) (by decide) rfl, sh_n hs 33 144 (by decide) (by decide) rfl]
        simp only [nI_ltI (show dS A a (st j) + rG A k st (s ^^^ 2 ^ j) (st j) < 2 ^ 31 by omega) (show best < 2 ^ 31 by omega)]
        refine ⟨kb, (vp_nI (by omega)).mpr (by omega), (vp_nI (by omega)).mpr (by omega), fun _ _ => (vp_nI (by omega)).mpr (by omega), ?_⟩
        by_cases lt : dS A a (st j) + rG A k st (s ^^^ 2 ^ j) (st j) < best
        · rw [if_pos lt]
          refine ih (j + 1) _ (by omega) (by omega) (fun t ht bt => ?_) (.inr ⟨j, by omega, zt, rfl⟩)
          by_cases w : t = j
          · subst w; exact Nat.le_refl _
          · have := b2 t (by omega) bt
            omega
        · rw [if_neg lt]
          refine ih (j + 1) best (by omega) b1 (fun t ht bt => ?_) ?_
          · by_cases w : t = j
            · subst w; omega
            · exact b2 t (by omega) bt
          · rcases b3 with w | ⟨t, w1, w2⟩
            · exact .inl w
            · exact .inr ⟨t, by omega, w2⟩
  refine T_X6_rest hs _ _ ⟨fun z => ?_, fun z => ?_⟩
  · have s0 : s ≠ 0 := fun w => z (by rw [w]; rfl)
    have ex : ∃ t, t < k ∧ s.testBit t = true := by
      by_cases w : ∃ t, t < k ∧ s.testBit t = true
      · exact w
      · exfalso
        refine s0 (set_ext (n := k) hsk (Nat.two_pow_pos k) (fun i hi => ?_))
        rw [Nat.zero_testBit]
        cases y : s.testBit i
        · rfl
        · exact absurd ⟨i, hi, y⟩ w
    exact lp 1000000 (.inl ⟨rfl, ex⟩) k 0 1000000 (by omega) (Nat.le_refl _) (fun t ht => absurd ht (by omega)) (.inl rfl)
  · have s0 : s = 0 := by
      have : nI s = nI 0 := z
      rwa [nI_eq (by omega) (by omega)] at this
    exact lp 0 (.inr ⟨rfl, s0⟩) k 0 0 (by omega) (by omega) (fun t ht => absurd ht (by omega)) (.inl rfl)
theorem c_stopsOf {Q : Option Value → ah_T → Prop} {x1 : Int32} (hs : Sh h) (e4 : ah_i h 4 3 = nI (A 246)) (h10 : A 246 ≤ 10) (hk : k ≤ 10) (sg : ∀ l, l < A 246 → ah_i h 37 l = nI (of l) ∧ of l < k) (e1 : x1 = nI m) (hq : ∀ r, r < 2 ^ k → (∀ t, r.testBit t = true ↔ ∃ l, l < A 246 ∧ m.testBit l = true ∧ of l = t) → Q (some (.int (nI r))) h) : Mt mX6_stopsOf [.ref 29, .int x1] h Q := by
  subst e1
  have lp : ∀ (q j r : Nat), j + q = A 246 → r < 2 ^ k → (∀ t, r.testBit t = true ↔ ∃ l, l < j ∧ m.testBit l = true ∧ of l = t) → Wp mX6_stopsOf Q 0 0 4 [some (.ref 29), some (.int (nI m)), some (.int (nI r)), some (.int (nI j))] [] h := by
    intro q
    induction q with
    | zero =>
      intro j r hj hr br
      have e9 : j = A 246 := by omega
      subst e9
      refine T_X6_stopsOf_4 hs _ _ _ ?_
      rw [e4]
      (first | refine ⟨fun _ => ?_, fun n_ => absurd (show nI (A 246) ≤ nI (A 246) from nI_le (Nat.le_refl _) (by omega)) n_⟩ | refine ⟨fun n_ => absurd (show nI (A 246) ≤ nI (A 246) from nI_le (Nat.le_refl _) (by omega)) n_, fun _ => ?_⟩ | refine ⟨fun y_ => absurd y_ (show nI (A 246) ≤ nI (A 246) from nI_le (Nat.le_refl _) (by omega)), fun _ => ?_⟩ | refine ⟨fun _ => ?_, fun y_ => absurd y_ (show nI (A 246) ≤ nI (A 246) from nI_le (Nat.le_refl _) (by omega))⟩)
      exact hq r hr br
    | succ q ih =>
      intro j r hj hr br
      have hjn : j < A 246 := by omega
      obtain ⟨s1, s2⟩ := sg j hjn
      refine T_X6_stopsOf_4 hs _ _ _ ?_
      rw [e4, b_bit _ j (by omega), nb (by omega), nI_1, nI_clamp (show j < 2 ^ 31 by omega), s1, nI_1sh (by omega), nI_or, sh_n hs 37 10 (by decide) (by decide) rfl]
      (first | refine ⟨fun _ => ?_, fun n_ => absurd (show ¬ nI (A 246) ≤ nI j from nI_ge hjn (by omega)) n_⟩ | refine ⟨fun n_ => absurd (show ¬ nI (A 246) ≤ nI j from nI_ge hjn (by omega)) n_, fun _ => ?_⟩ | refine ⟨fun y_ => absurd y_ (show ¬ nI (A 246) ≤ nI j from nI_ge hjn (by omega)), fun _ => ?_⟩ | refine ⟨fun _ => ?_, fun y_ => absurd y_ (show ¬ nI (A 246) ≤ nI j from nI_ge hjn (by omega))⟩)
      refine ⟨fun z => ih (j + 1) r (by omega) hr (fun t => (br t).trans ?_), fun z => ⟨(vp_nI (by omega)).mpr (by omega), ih (j + 1) _ (by omega) (Nat.or_lt_two_pow hr (Nat.pow_lt_pow_right (by decide) s2)) (fun t => ?_)⟩⟩
      · constructor
        · rintro ⟨l, w1, w2⟩
          exact ⟨l, by omega, w2⟩
        · rintro ⟨l, w1, w2, w3⟩
          by_cases y : l = j
          · subst y; rw [z] at w2; exact absurd w2 (by decide)
          · exact ⟨l, by omega, w2, w3⟩
      · have zt : m.testBit j = true := by cases w : m.testBit j; exact absurd w z; rfl
        rw [tb_o, Bool.or_eq_true, br t, decide_eq_true_eq]
        constructor
        · rintro (⟨l, w1, w2⟩ | w)
          · exact ⟨l, by omega, w2⟩
          · exact ⟨j, by omega, zt, w⟩
        · rintro ⟨l, w1, w2, w3⟩
          by_cases y : l = j
          · subst y; exact .inr w3
          · exact .inl ⟨l, by omega, w2, w3⟩
  exact T_X6_stopsOf hs _ (lp (A 246) 0 0 (by omega) (Nat.two_pow_pos k) (fun t => by
    rw [Nat.zero_testBit]
    exact ⟨fun y => absurd y (by decide), fun ⟨l, y, _⟩ => absurd y (by omega)⟩))
/-- the stops of lamps are these lamps' corners -/
theorem rG_stops {r : Nat} (sg : stG A k st of h) (br : ∀ t, r.testBit t = true ↔ ∃ l, l < A 246 ∧ m.testBit l = true ∧ of l = t) : rG A k st r a = rG A (A 246) (coL A) m a := by
  have e : pG k st r = pG (A 246) (coL A) m := by
    refine funext fun c => propext ?_
    constructor
    · rintro ⟨t, h1, h2, h3⟩
      obtain ⟨l, q1, q2, q3⟩ := (br t).mp h2
      refine ⟨l, q1, q2, ?_⟩
      rw [← h3, ← q3]
      exact (sg.2.2.2 l q1).2.2.symm
    · rintro ⟨l, q1, q2, q3⟩
      obtain ⟨_, w1, w2⟩ := sg.2.2.2 l q1
      exact ⟨of l, w1, (br _).mpr ⟨l, q1, q2, rfl⟩, by rw [w2]; exact q3⟩
  unfold rG
  rw [e]
theorem st_12 (wl : wfL A) (sg : stG A k st of h) : ∀ t, t < k → ah_i h 36 t = nI (st t) ∧ st t < 12 := fun t ht => by
  obtain ⟨e, l, q1, q2⟩ := sg.2.2.1 t ht
  refine ⟨e, ?_⟩
  rw [q2]
  exact (wl.2 l q1).1
theorem co_wl (wl : wfL A) : A 246 ≤ 10 ∧ ∀ l, l < A 246 → coL A l < 12 := ⟨wl.1, fun l hl => (wl.2 l hl).1⟩
end RC
