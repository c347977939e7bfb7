/-! ===== the class's tempers: hated, fearful, thirst ===== -/
section TM
variable {h : ah_T} {A : Nat → Nat} {L : Option (List Cl)} {wi mo g0 : Nat}
def lmO (A : Nat → Nat) (h : ah_T) : Prop := ah_i h 4 1 = nI 3 ∧ ah_i h 4 3 = nI (A 246) ∧ wfL A ∧ ∀ j, j < 3 * A 246 → ah_i h 5 j = nI (A (60 + j))
def sgO (A : Nat → Nat) (h : ah_T) : Prop := ∀ x y, x < 12 → y < 12 → dst (Ew A (shS A)) x y (ah_i h 34 (12 * x + y))
def tmO (L : Option (List Cl)) (wi mo g0 : Nat) (A : Nat → Nat) (h : ah_T) : Prop := tpO L wi mo g0 h ∧ g0 < 2 ^ 30 ∧ wB h ∧ hfO L wi mo A h ∧ sgO A h ∧ lmO A h
def tmF (h h' : ah_T) : Prop := Sh h' ∧ ah_x h' = ah_x h ∧ (∀ a, a ≠ 26 → a ≠ 27 → a ≠ 28 → a ≠ 39 → a ≠ 40 → a ≠ 41 → a ≠ 42 → eqc h h' a) ∧ (wB h → wB h')
theorem tmF_r (hs : Sh h) : tmF h h := ⟨hs, rfl, fun _ _ _ _ _ _ _ _ => eqc_rfl, fun w => w⟩
theorem tmF_t {h1 h2 : ah_T} (p : tmF h h1) (q : tmF h1 h2) : tmF h h2 := ⟨q.1, by rw [q.2.1, p.2.1], fun a n1 n2 n3 n4 n5 n6 n7 => eqc_trans (p.2.2.1 a n1 n2 n3 n4 n5 n6 n7) (q.2.2.1 a n1 n2 n3 n4 n5 n6 n7), fun w => q.2.2.2 (p.2.2.2 w)⟩
theorem tmF_ak {h1 : ah_T} (p : akF h h1) : tmF h h1 := ⟨p.1, p.2.1, fun a n1 n2 n3 n4 _ _ _ => p.2.2.1 a n1 n2 n3 n4, p.2.2.2⟩
theorem lw_123 (l0 : lwO L h) {x : Nat} (e : ah_r h 38 3 = some x) : 123 ≤ x := by
  cases L with
  | none =>
    have l1 : ah_r h 38 3 = none := l0
    rw [e] at l1; cases l1
  | some cls =>
    obtain ⟨y, ey, tt, _⟩ := l0
    have : x = y := Option.some.inj (e.symm.trans ey)
    have := tt.1.1
    omega
theorem usd_fr {h1 : ah_T} (l0 : lwO L h) (f : tmF h h1) (what : Nat) : usd h1 what = usd h what := by
  unfold usd
  rw [(f.2.2.1 38 (by decide) (by decide) (by decide) (by decide) (by decide) (by decide) (by decide)).2.2.1]
  cases e : ah_r h 38 3 with
  | none => rfl
  | some x =>
    have := lw_123 l0 e
    exact (f.2.2.1 (x + 3) (by omega) (by omega) (by omega) (by omega) (by omega) (by omega) (by omega)).1 what
theorem lmO_fr {h1 : ah_T} (e4 : ∀ j, ah_i h1 4 j = ah_i h 4 j) (e5 : ∀ j, ah_i h1 5 j = ah_i h 5 j) (m : lmO A h) : lmO A h1 := ⟨by rw [e4]; exact m.1, by rw [e4]; exact m.2.1, m.2.2.1, fun j hj => by rw [e5]; exact m.2.2.2 j hj⟩
theorem sgO_fr {h1 : ah_T} (e : ∀ j, ah_i h1 34 j = ah_i h 34 j) (m : sgO A h) : sgO A h1 := fun x y hx hy => by rw [e]; exact m x y hx hy
theorem tm_ask {h1 : ah_T} (f : akF h h1) (tp : tpO L wi mo g0 h1) (t : tmO L wi mo g0 A h) : tmO L wi mo g0 A h1 := by
  obtain ⟨t1, t2, t3, t4, t5, t6⟩ := t
  have e : ∀ a, a ≠ 26 → a ≠ 27 → a ≠ 28 → a ≠ 39 → ∀ j, ah_i h1 a j = ah_i h a j := fun a n1 n2 n3 n4 => (f.2.2.1 a n1 n2 n3 n4).1
  have u := usd_fr t1.1 (tmF_ak f)
  refine ⟨tp, t2, f.2.2.2 t3, ?_, sgO_fr (e 34 (by decide) (by decide) (by decide) (by decide)) t5, lmO_fr (e 4 (by decide) (by decide) (by decide) (by decide)) (e 5 (by decide) (by decide) (by decide) (by decide)) t6⟩
  unfold hfO at t4 ⊢
  simp only [u, e 40 (by decide) (by decide) (by decide) (by decide), e 41 (by decide) (by decide) (by decide) (by decide), e 42 (by decide) (by decide) (by decide) (by decide)]
  exact t4
/-- a law that doesn't look at minutes -/
theorem ans_mi (l0 : lwO L h) {what : Nat} (hb : ¬ bt (usd h what) 5 = true) {w w' : Nat → Int} (e : ∀ k, k < 8 → k ≠ 5 → w k = w' k) : ansA L what w = ansA L what w' := by
  cases L with
  | none =>
    unfold ansA
    have : ansS none w = ansS none w' := by
      unfold ansS
      dsimp only
      rw [e 1 (by omega) (by omega), e 2 (by omega) (by omega), e 3 (by omega) (by omega)]
    rw [this]
    rfl
  | some cls =>
    obtain ⟨x, ex, tt, hL⟩ := l0
    have a1 := ansA_some (what := what) (w := w) hL
    have a2 := ansA_some (what := what) (w := w') hL
    rw [usd_s ex] at hb
    have : ansV cls what w = ansV cls what w' := ans_dep (tx_dep tt what) hL (fun k hk b => e k hk (fun y => by subst y; exact hb b)) _
    omega
theorem ans01 (l0 : lwO L h) (w : Nat → Int) : ansA L 0 w = 0 ∨ ansA L 0 w = 1 := by
  unfold ansA
  rw [if_pos rfl]
  split
  · exact .inr rfl
  · exact .inl rfl
theorem f_sight {a b : Nat} (ha : a < 12) (hb : b < 12) : f_X6_sight h (nI a) (nI b) = ah_i h 34 (12 * a + b) := by
  unfold f_X6_sight
  have q1 : ¬ f_X11_isIn (nI a) 12 = 0 := q_is0 (n := 12) (by decide) ha
  have q2 : ¬ f_X11_isIn (nI b) 12 = 0 := q_is0 (n := 12) (by decide) hb
  rw [if_neg q1, if_neg q2, n_12, nI_mul, nI_add, nI_clamp (by omega), Nat.mul_comm]
theorem v_sight (hs : Sh h) {a b : Nat} (ha : a < 12) (hb : b < 12) : (¬ (f_X11_isIn (nI a) 12) = 0 → (¬ (f_X11_isIn (nI b) 12) = 0 → vp_in ((nI a * 12) + nI b) (ah_n h 34))) := by
  intro _ _
  rw [sh_n hs 34 144 (by decide) (by decide) rfl, n_12, nI_mul, nI_add]
  exact (vp_nI (by omega)).mpr (by omega)
theorem lm_get {Q : Option Value → ah_T → Prop} (hs : Sh h) (m : lmO A h) {l k : Nat} {x1 x2 : Int32} (e1 : x1 = nI l) (e2 : x2 = nI k) (hl : l < A 246) (hk : k < 3) (hq : Q (some (.int (nI (A (60 + 3 * l + k))))) h) : Mt mX7_get [.ref 4, .int x1, .int x2] h Q := by
  have w10 := m.2.2.1.1
  refine c_getW hs (t := 4) (n := A 246) (r := l) (k := k) (by omega) e1 e2 m.1 m.2.1 (by show 3 * A 246 ≤ 30; omega) hl hk ?_
  rw [m.2.2.2 (3 * l + k) (by omega), ← Nat.add_assoc]
  exact hq
theorem bt_set {i : Nat} (hi : i < 10) {v : Int32} {P : Nat → Prop} (hv : ∀ b, b < 32 → (bt v b = true ↔ b < i ∧ P b)) : ∀ b, b < 32 → (bt (v ||| ((1 : Int32) <<< (nI i &&& 31))) b = true ↔ b < i + 1 ∧ (P b ∨ b = i)) := by
  intro b hb
  rw [b_or, b_1sh (by omega) hb]
  by_cases z : b = i
  · rw [decide_eq_true z, Bool.or_true]
    exact ⟨fun _ => ⟨by omega, .inr z⟩, fun _ => rfl⟩
  · rw [decide_eq_false z, Bool.or_false, hv b hb]
    exact ⟨fun y => ⟨by omega, .inl y.2⟩, fun y => ⟨by omega, y.2.resolve_right z⟩⟩
theorem htB_m1 {l la mi : Nat} {v : Int32} (h10 : A 246 ≤ 10) (q : htB L wi mo A l la mi v) : ¬ v = -1 := by
  intro e
  have := (q 31 (by omega)).mp (by rw [e]; decide +kernel)
  omega
theorem feB_m1 {k c mi : Nat} {v : Int32} (h10 : A 246 ≤ 10) (q : feB L wi mo A k c mi v) : ¬ v = -1 := by
  intro e
  have := (q 31 (by omega)).mp (by rw [e]; decide +kernel)
  omega
theorem hlk_eq {u : Int32} {a b : Nat} (e : hlk u a = hlk u b) : a = b ∨ ¬ bt u 5 = true := by
  unfold hlk at e
  by_cases z : bt u 5 = true
  · rw [if_pos z, if_pos z] at e; exact .inl e
  · exact .inr z
/-- a row of bits is laid -/
theorem tm_st {l la mi : Nat} {v : Int32} (hl : l < A 246) (hla : la < 2) (hm : mi < 120) (q : htB L wi mo A l la mi v) (hs : Sh h) (t : tmO L wi mo g0 A h) : tmO L wi mo g0 A (ah_si h 40 ((hlk (usd h 0) mi * 2 + la) * 10 + l) v) ∧ tmF h (ah_si h 40 ((hlk (usd h 0) mi * 2 + la) * 10 + l) v) := by
  obtain ⟨u, eu⟩ : ∃ u, u = ah_si h 40 ((hlk (usd h 0) mi * 2 + la) * 10 + l) v := ⟨_, rfl⟩
  have ce : ∀ a, a ≠ 40 → eqc h u a := fun a n => by rw [eu]; exact eqc_si eqc_rfl n
  have xu : ah_x u = ah_x h := by rw [eu]; rfl
  have su : Sh u := by rw [eu]; exact sh_si hs
  have iu : ∀ j, ah_i u 40 j = if j = (hlk (usd h 0) mi * 2 + la) * 10 + l then v else ah_i h 40 j := by
    intro j
    rw [eu, ah_i_si]
    simp only [true_and]
  rw [← eu]
  clear eu
  obtain ⟨t1, t2, t3, t4, t5, t6⟩ := t
  have h10 := t6.2.2.1.1
  have ff : tmF h u := ⟨su, xu, fun a _ _ _ _ n _ _ => ce a n, wB_of (ce 27 (by decide)).1⟩
  have us := usd_fr t1.1 ff
  obtain ⟨f1, f2, f3⟩ := t4
  refine ⟨⟨tp_fr (ce 38 (by decide)) (ce 39 (by decide)).2.1 (fun a ha => ce a (by omega)) (Nat.le_of_eq xu.symm) t1, t2, ff.2.2.2 t3, ⟨fun mi' la' l' hm' hla' hl' => ?_, fun mi' k c hm' hk hc => ?_, fun mi' l' hm' hl' => ?_⟩, sgO_fr (ce 34 (by decide)).1 t5, lmO_fr (ce 4 (by decide)).1 (ce 5 (by decide)).1 t6⟩, ff⟩
  · rw [us, iu]
    by_cases z : (hlk (usd h 0) mi' * 2 + la') * 10 + l' = (hlk (usd h 0) mi * 2 + la) * 10 + l
    · rw [if_pos z]
      refine .inr ?_
      have e1 : l' = l := by omega
      have e2 : la' = la := by omega
      have e3 : hlk (usd h 0) mi' = hlk (usd h 0) mi := by omega
      subst e1 e2
      rcases hlk_eq e3 with y | y
      · subst y; exact q
      · intro i hi
        rw [q i hi, ans_mi t1.1 y (w' := wQ l' (A (61 + 3 * l')) (A (61 + 3 * i)) (sgv A (A (60 + 3 * l')) (A (60 + 3 * i))) la' mi' wi mo) (fun k _ n5 => by unfold wQ; simp only [if_neg n5])]
    · rw [if_neg z]
      exact f1 mi' la' l' hm' hla' hl'
  · rw [us, (ce 41 (by decide)).1]
    exact f2 mi' k c hm' hk hc
  · rw [us, (ce 42 (by decide)).1]
    exact f3 mi' l' hm' hl'

theorem tm_st41 {k c mi : Nat} {v : Int32} (hk : k < 6) (hc : c < 12) (hm : mi < 120) (q : feB L wi mo A k c mi v) (hs : Sh h) (t : tmO L wi mo g0 A h) : tmO L wi mo g0 A (ah_si h 41 ((hlk (usd h 0) mi * 6 + k) * 12 + c) v) ∧ tmF h (ah_si h 41 ((hlk (usd h 0) mi * 6 + k) * 12 + c) v) := by
  obtain ⟨u, eu⟩ : ∃ u, u = ah_si h 41 ((hlk (usd h 0) mi * 6 + k) * 12 + c) v := ⟨_, rfl⟩
  have ce : ∀ a, a ≠ 41 → eqc h u a := fun a n => by rw [eu]; exact eqc_si eqc_rfl n
  have xu : ah_x u = ah_x h := by rw [eu]; rfl
  have su : Sh u := by rw [eu]; exact sh_si hs
  have iu : ∀ j, ah_i u 41 j = if j = (hlk (usd h 0) mi * 6 + k) * 12 + c then v else ah_i h 41 j := by
    intro j
    rw [eu, ah_i_si]
    simp only [true_and]
  rw [← eu]
  clear eu
  obtain ⟨t1, t2, t3, t4, t5, t6⟩ := t
  have h10 := t6.2.2.1.1
  have ff : tmF h u := ⟨su, xu, fun a _ _ _ _ _ n _ => ce a n, wB_of (ce 27 (by decide)).1⟩
  have us := usd_fr t1.1 ff
  obtain ⟨f1, f2, f3⟩ := t4
  refine ⟨⟨tp_fr (ce 38 (by decide)) (ce 39 (by decide)).2.1 (fun a ha => ce a (by omega)) (Nat.le_of_eq xu.symm) t1, t2, ff.2.2.2 t3, ⟨fun mi' la' l' hm' hla' hl' => ?_, fun mi' k' c' hm' hk' hc' => ?_, fun mi' l' hm' hl' => ?_⟩, sgO_fr (ce 34 (by decide)).1 t5, lmO_fr (ce 4 (by decide)).1 (ce 5 (by decide)).1 t6⟩, ff⟩
  · rw [us, (ce 40 (by decide)).1]
    exact f1 mi' la' l' hm' hla' hl'
  · rw [us, iu]
    by_cases z : (hlk (usd h 0) mi' * 6 + k') * 12 + c' = (hlk (usd h 0) mi * 6 + k) * 12 + c
    · rw [if_pos z]
      refine .inr ?_
      have e1 : c' = c := by omega
      have e2 : k' = k := by omega
      have e3 : hlk (usd h 0) mi' = hlk (usd h 0) mi := by omega
      subst e1 e2
      rcases hlk_eq e3 with y | y
      · subst y; exact q
      · intro i hi
        rw [q i hi, ans_mi t1.1 y (w' := wQ i (A (61 + 3 * i)) k' (sgv A (A (60 + 3 * i)) c') 1 mi' wi mo) (fun k _ n5 => by unfold wQ; simp only [if_neg n5])]
    · rw [if_neg z]
      exact f2 mi' k' c' hm' hk' hc'
  · rw [us, (ce 42 (by decide)).1]
    exact f3 mi' l' hm' hl'

theorem tm_st42 {l mi : Nat} {v : Int32} (hl : l < A 246) (hm : mi < 120) (q : v = nI (thV L wi mo A l mi)) (hs : Sh h) (t : tmO L wi mo g0 A h) : tmO L wi mo g0 A (ah_si h 42 (hlk (usd h 2) mi * 10 + l) v) ∧ tmF h (ah_si h 42 (hlk (usd h 2) mi * 10 + l) v) := by
  obtain ⟨u, eu⟩ : ∃ u, u = ah_si h 42 (hlk (usd h 2) mi * 10 + l) v := ⟨_, rfl⟩
  have ce : ∀ a, a ≠ 42 → eqc h u a := fun a n => by rw [eu]; exact eqc_si eqc_rfl n
  have xu : ah_x u = ah_x h := by rw [eu]; rfl
  have su : Sh u := by rw [eu]; exact sh_si hs
  have iu : ∀ j, ah_i u 42 j = if j = hlk (usd h 2) mi * 10 + l then v else ah_i h 42 j := by
    intro j
    rw [eu, ah_i_si]
    simp only [true_and]
  rw [← eu]
  clear eu
  obtain ⟨t1, t2, t3, t4, t5, t6⟩ := t
  have h10 := t6.2.2.1.1
  have ff : tmF h u := ⟨su, xu, fun a _ _ _ _ _ _ n => ce a n, wB_of (ce 27 (by decide)).1⟩
  have us := usd_fr t1.1 ff
  obtain ⟨f1, f2, f3⟩ := t4
  refine ⟨⟨tp_fr (ce 38 (by decide)) (ce 39 (by decide)).2.1 (fun a ha => ce a (by omega)) (Nat.le_of_eq xu.symm) t1, t2, ff.2.2.2 t3, ⟨fun mi' la' l' hm' hla' hl' => ?_, fun mi' k c hm' hk hc => ?_, fun mi' l' hm' hl' => ?_⟩, sgO_fr (ce 34 (by decide)).1 t5, lmO_fr (ce 4 (by decide)).1 (ce 5 (by decide)).1 t6⟩, ff⟩
  · rw [us, (ce 40 (by decide)).1]
    exact f1 mi' la' l' hm' hla' hl'
  · rw [us, (ce 41 (by decide)).1]
    exact f2 mi' k c hm' hk hc
  · rw [us, iu]
    by_cases z : hlk (usd h 2) mi' * 10 + l' = hlk (usd h 2) mi * 10 + l
    · rw [if_pos z]
      refine .inr ?_
      have e1 : l' = l := by omega
      have e3 : hlk (usd h 2) mi' = hlk (usd h 2) mi := by omega
      subst e1
      rcases hlk_eq e3 with y | y
      · subst y; exact q
      · rw [q]
        unfold thV
        rw [ans_mi t1.1 y (w' := wQ l' (A (61 + 3 * l')) (-1) (-1) (-1) mi' wi mo) (fun k _ n5 => by unfold wQ; simp only [if_neg n5])]
    · rw [if_neg z]
      exact f3 mi' l' hm' hl'
end TM
