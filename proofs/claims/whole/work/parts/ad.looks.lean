/-! ===== nights: what they are run over; the model looks ===== -/
noncomputable def sgN (A : Nat → Nat) (a b : Nat) : Nat := @dite Nat (∃ n, lst (Ew A (shS A)) a b n) (Classical.propDecidable _) (fun p => Classical.choose p + 1) (fun _ => 0)
theorem sgN_v (A : Nat → Nat) {a b : Nat} (hs : ∀ n, lst (Ew A (shS A)) a b n → n < 12) : sgv A a b = (sgN A a b : Int) - 1 ∧ sgN A a b < 13 := by
  unfold sgv dsI sgN
  by_cases c : ∃ n, lst (Ew A (shS A)) a b n
  · rw [dif_pos c, dif_pos c]
    have := hs _ (Classical.choose_spec c)
    rw [nI_toInt (by omega)]
    omega
  · rw [dif_neg c, dif_neg c]
    exact ⟨rfl, by omega⟩
theorem sgN_d {A : Nat → Nat} {a b : Nat} {v : Int32} (d : dst (Ew A (shS A)) a b v) : v = nO (sgN A a b) ∧ sgN A a b < 13 ∧ sgv A a b = (sgN A a b : Int) - 1 := by
  have hs : ∀ n, lst (Ew A (shS A)) a b n → n < 12 := by
    intro n y
    rcases d with ⟨_, q⟩ | ⟨m, _, hm, q⟩
    · exact absurd y.1 (q n)
    · rw [lst_u y q]; exact hm
  have h1 := sgN_v A hs
  refine ⟨?_, h1.2, h1.1⟩
  rw [dst_I d]
  unfold dsI sgN
  by_cases c : ∃ n, lst (Ew A (shS A)) a b n
  · rw [dif_pos c, dif_pos c, nO_s]
  · rw [dif_neg c, dif_neg c]; rfl
/-- what a night is run over -/
abbrev Nd := Nat × (Nat → Nat) × (Nat → Nat) × Nat × (Nat → Nat) × (Nat → Nat → Nat) × Bool
abbrev Nd.n (N : Nd) : Nat := N.1
abbrev Nd.co (N : Nd) : Nat → Nat := N.2.1
abbrev Nd.ki (N : Nd) : Nat → Nat := N.2.2.1
abbrev Nd.q (N : Nd) : Nat := N.2.2.2.1
abbrev Nd.lk (N : Nd) : Nat → Nat := N.2.2.2.2.1
abbrev Nd.pl (N : Nd) : Nat → Nat → Nat := N.2.2.2.2.2.1
abbrev Nd.gu (N : Nd) : Bool := N.2.2.2.2.2.2
def plA (A : Nat → Nat) (k m : Nat) : Nat := if m < A (163 + 19 * k) then 0 else A (165 + 19 * k + min (m - A (163 + 19 * k)) (A (164 + 19 * k) - 1)) + 1
def nd0 (A : Nat → Nat) : Nd := ⟨A 246, fun l => A (60 + 3 * l), fun l => A (61 + 3 * l), A 248, fun k => A (162 + 19 * k), plA A, false⟩
def wfD (N : Nd) : Prop := N.n ≤ 10 ∧ (∀ l, l < N.n → N.co l < 12 ∧ N.ki l < 6) ∧ N.q ≤ 3 ∧ ∀ k, k < N.q → N.lk k < 6 ∧ ∀ m, m < 120 → N.pl k m ≤ 12
/-- the model holds it -/
def mND (A : Nat → Nat) (N : Nd) (h : ah_T) : Prop := wfD N ∧ ah_i h 82 41 = nI N.n ∧ ah_i h 82 42 = nI N.q ∧ ah_i h 82 43 = (if N.gu = true then 1 else 0) ∧ (∀ l, l < N.n → ah_i h 100 l = nI (N.co l) ∧ ah_i h 101 l = nI (N.ki l)) ∧ (∀ k, k < N.q → ah_i h 108 k = nI (N.lk k) ∧ ∀ m, m < 120 → ah_i h 107 (120 * k + m) = nO (N.pl k m)) ∧ ∀ x y, x < 12 → y < 12 → dst (Ew A (shS A)) x y (ah_i h 99 (12 * x + y))
theorem mND_fr {A : Nat → Nat} {N : Nd} {h h' : ah_T} (e : ∀ a, (a = 99 ∨ a = 100 ∨ a = 101 ∨ a = 107 ∨ a = 108) → ∀ j, ah_i h' a j = ah_i h a j) (e2 : ∀ j, (j = 41 ∨ j = 42 ∨ j = 43) → ah_i h' 82 j = ah_i h 82 j) (m : mND A N h) : mND A N h' := by
  obtain ⟨m1, m2, m3, m4, m5, m6, m7⟩ := m
  refine ⟨m1, by rw [e2 41 (by omega)]; exact m2, by rw [e2 42 (by omega)]; exact m3, by rw [e2 43 (by omega)]; exact m4, fun l hl => by rw [e 100 (by omega), e 101 (by omega)]; exact m5 l hl, fun k hk => ⟨by rw [e 108 (by omega)]; exact (m6 k hk).1, fun m hm => by rw [e 107 (by omega)]; exact (m6 k hk).2 m hm⟩, fun x y hx hy => by rw [e 99 (by omega)]; exact m7 x y hx hy⟩
theorem wfD_0 {A : Nat → Nat} (wl : wfL A) (wn : wfN A) : wfD (nd0 A) := by
  refine ⟨wl.1, fun l hl => ⟨(wl.2 l hl).1, (wl.2 l hl).2.1⟩, by show A 248 ≤ 3; have := wn.1; omega, fun k hk => ⟨(wn.2 k hk).1, fun m hm => ?_⟩⟩
  obtain ⟨w1, w2, w3, w4, w5⟩ := wn.2 k hk
  show plA A k m ≤ 12
  unfold plA
  split
  · omega
  · have := w5 (min (m - A (163 + 19 * k)) (A (164 + 19 * k) - 1)) (by omega)
    omega
/-- the model's town, as nights look at it -/
def mTw (A : Nat → Nat) (h : ah_T) : Prop := mWy A h ∧ (∀ w, w < A 245 → ah_i h 84 (3 * w + 2) = nI (A (3 * w + 2)) ∧ A (3 * w + 2) ≤ 1) ∧ ah_i h 84 246 = nI (A 246) ∧ wfL A ∧ (∀ j, j < 3 * A 246 → ah_i h 84 (60 + j) = nI (A (60 + j))) ∧ ah_i h 84 248 = nI (A 248) ∧ wfN A ∧ ∀ l, l < A 248 → ah_i h 84 (162 + 19 * l) = nI (A (162 + 19 * l)) ∧ ah_i h 84 (163 + 19 * l) = nI (A (163 + 19 * l)) ∧ ah_i h 84 (164 + 19 * l) = nI (A (164 + 19 * l)) ∧ ∀ i, i < A (164 + 19 * l) → ah_i h 84 (165 + 19 * l + i) = nI (A (165 + 19 * l + i))
theorem mTw_fr {A : Nat → Nat} {h h' : ah_T} (e : ∀ j, ah_i h' 84 j = ah_i h 84 j) (m : mTw A h) : mTw A h' := by
  unfold mTw mWy at m ⊢
  simp only [e]
  exact m
theorem mTw_of {A : Nat → Nat} {h : ah_T} (wf : WF A) (tn : Tn TXm A h 1 84 0) : mTw A h := by
  have mw := mWy_of wf tn (h2 := h) (fun _ => rfl)
  obtain ⟨⟨p1, p2, p3, p4, p5, p6⟩, ⟨q1, q2, q3, q4, q5, q6⟩, t3, ⟨r1, r2, r3, r4, r5⟩, t5⟩ := tn
  refine ⟨mw, fun w hw => ⟨?_, (wf.1.2.1 w hw).2.2⟩, ?_, wf.2.1, fun j hj => ?_, ?_, wf.2.2.2.1, fun l hl => ?_⟩
  · have := (p6 (3 * w + 2) (by omega)).2.1
    rw [Nat.zero_add, Nat.zero_add] at this
    exact this
  · rw [Nat.zero_add] at q4; exact q4
  · have := (q6 j hj).2.1
    rw [Nat.zero_add] at this
    exact this
  · rw [Nat.zero_add] at r4; exact r4
  · obtain ⟨_, _, _, _, _, s6, s7, s8, s9⟩ := r5 l hl
    rw [Nat.zero_add] at s6 s7 s8
    exact ⟨s6, s7, s8, fun i hi => by have := s9 i hi; rw [Nat.zero_add] at this; exact this⟩
theorem lesserN {a b : Nat} (ha : a < 2 ^ 31) (hb : b < 2 ^ 31) : f_X12_lesser (nI a) (nI b) = nI (min a b) := by
  unfold f_X12_lesser
  by_cases c : b ≤ a
  · rw [if_pos (nI_le (by omega) (by omega)), Nat.min_eq_right c]
  · rw [if_neg (nI_ge (by omega) (by omega)), Nat.min_eq_left (by omega)]
def lkF (h h' : ah_T) : Prop := Sh h' ∧ ah_x h' = ah_x h ∧ (∀ a, a ≠ 82 → a ≠ 99 → a ≠ 100 → a ≠ 101 → a ≠ 107 → a ≠ 108 → eqc h h' a) ∧ ∀ j, j ≠ 41 → j ≠ 42 → j ≠ 43 → ah_i h' 82 j = ah_i h 82 j
def lkK (A : Nat → Nat) (h g : ah_T) : Prop := lkF h g ∧ ah_i g 82 41 = nI (A 246) ∧ ah_i g 82 42 = nI (A 248) ∧ ah_i g 82 43 = 0
def lkL (A : Nat → Nat) (l : Nat) (g : ah_T) : Prop := ∀ l', l' < l → ah_i g 100 l' = nI (A (60 + 3 * l')) ∧ ah_i g 101 l' = nI (A (61 + 3 * l'))
def lkN (A : Nat → Nat) (k : Nat) (g : ah_T) : Prop := ∀ k', k' < k → ah_i g 108 k' = nI (A (162 + 19 * k')) ∧ ∀ m, m < 120 → ah_i g 107 (120 * k' + m) = nO (plA A k' m)
section ML
variable {A : Nat → Nat} {h g : ah_T}
theorem lkK_84 (k : lkK A h g) : ∀ j, ah_i g 84 j = ah_i h 84 j := (k.1.2.2.1 84 (by decide) (by decide) (by decide) (by decide) (by decide) (by decide)).1
theorem lkK_s {a j : Nat} {x : Int32} (ha : a = 100 ∨ a = 101 ∨ a = 107 ∨ a = 108) (k : lkK A h g) : lkK A h (ah_si g a j x) := by
  obtain ⟨⟨f1, f2, f3, f4⟩, f5, f6, f7⟩ := k
  have nn : ∀ j', ¬ ((82 : Nat) = a ∧ j' = j) := fun j' y => by omega
  exact ⟨⟨sh_si f1, by rw [ah_x_si, f2], fun b n1 n2 n3 n4 n5 n6 => eqc_si (f3 b n1 n2 n3 n4 n5 n6) (by omega), fun j' a1 a2 a3 => by rw [ah_i_sn (nn j')]; exact f4 j' a1 a2 a3⟩, by rw [ah_i_sn (nn _)]; exact f5, by rw [ah_i_sn (nn _)]; exact f6, by rw [ah_i_sn (nn _)]; exact f7⟩
theorem m_looks {Q : Option Value → ah_T → Prop} (hs : Sh h) (m : mTw A h) (hq : ∀ h', lkF h h' → mND A (nd0 A) h' → Q none h') : Mt mX12_looks [.ref 82] h Q := by
  have m' := m
  obtain ⟨mw, ms, k1, wl, k2, k3, wn, k4⟩ := m'
  have n100 : ∀ {g : ah_T}, Sh g → ah_n g 100 = 10 := fun hs => sh_n hs 100 10 (by decide) (by decide) rfl
  have n101 : ∀ {g : ah_T}, Sh g → ah_n g 101 = 10 := fun hs => sh_n hs 101 10 (by decide) (by decide) rfl
  have n107 : ∀ {g : ah_T}, Sh g → ah_n g 107 = 360 := fun hs => sh_n hs 107 360 (by decide) (by decide) rfl
  have n108 : ∀ {g : ah_T}, Sh g → ah_n g 108 = 3 := fun hs => sh_n hs 108 3 (by decide) (by decide) rfl
  have h10 := wl.1
  have h2 := wn.1
  have l114 : ∀ (q mi k : Nat) (g : ah_T), mi + q = 120 → k < A 248 → lkK A h g → lkL A (A 246) g → lkN A k g → ah_i g 108 k = nI (A (162 + 19 * k)) → (∀ m, m < mi → ah_i g 107 (120 * k + m) = nO (plA A k m)) → (∀ g', lkK A h g' → lkL A (A 246) g' → lkN A (k + 1) g' → Wp mX12_looks Q 0 0 83 [some (.ref 82), some (.int (nI (k + 1))), none, none] [] g') → Wp mX12_looks Q 0 0 114 [some (.ref 82), some (.int (nI k)), some (.int (nI (162 + 19 * k))), some (.int (nI mi))] [] g := by
    intro q
    induction q with
    | zero =>
      intro mi k g hm hk kg lg ng i8 i7 nx
      refine T_X12_looks_114 kg.1.1 _ _ _ ?_
      (first | refine ⟨fun _ => ?_, fun n_ => absurd (show 120 ≤ nI mi from nI_le (a := 120) (by omega) (by omega)) n_⟩ | refine ⟨fun n_ => absurd (show 120 ≤ nI mi from nI_le (a := 120) (by omega) (by omega)) n_, fun _ => ?_⟩ | refine ⟨fun y_ => absurd y_ (show 120 ≤ nI mi from nI_le (a := 120) (by omega) (by omega)), fun _ => ?_⟩ | refine ⟨fun _ => ?_, fun y_ => absurd y_ (show 120 ≤ nI mi from nI_le (a := 120) (by omega) (by omega))⟩)
      rw [show nI k + 1 = nI (k + 1) from nI_add _ 1]
      refine nx g kg lg (fun k' hk' => ?_)
      by_cases z : k' = k
      · subst z
        exact ⟨i8, fun m hm' => i7 m (by omega)⟩
      · exact ng k' (by omega)
    | succ q ih =>
      intro mi k g hm hk kg lg ng i8 i7 nx
      obtain ⟨a1, a2, a3, a4⟩ := k4 k hk
      obtain ⟨w1, w2, w3, w4, w5⟩ := wn.2 k hk
      have c1 : nI (162 + 19 * k) + 1 = nI (163 + 19 * k) := (nI_add _ 1).trans (congrArg nI (by omega))
      have c2 : nI (162 + 19 * k) + 2 = nI (164 + 19 * k) := (nI_add _ 2).trans (congrArg nI (by omega))
      have c3 : nI (162 + 19 * k) + 3 = nI (165 + 19 * k) := (nI_add _ 3).trans (congrArg nI (by omega))
      have c4 : (120 : Int32) * nI k + nI mi = nI (120 * k + mi) := by rw [n_120, nI_mul, nI_add]
      have c5 : nI mi + 1 = nI (mi + 1) := nI_add _ 1
      have vp7 : vp_in (nI (120 * k + mi)) 360 := (vp_nI (by omega)).mpr (by omega)
      have st : ∀ v, v = nO (plA A k mi) → Wp mX12_looks Q 0 0 114 [some (.ref 82), some (.int (nI k)), some (.int (nI (162 + 19 * k))), some (.int (nI (mi + 1)))] [] (ah_si g 107 (120 * k + mi) v) := by
        intro v ev
        subst ev
        refine ih (mi + 1) k _ (by omega) hk (lkK_s (by omega) kg) (fun l' hl' => ?_) (fun k' hk' => ?_) ?_ (fun m hm' => ?_) nx
        · rw [ah_i_sn (by omega), ah_i_sn (by omega)]; exact lg l' hl'
        · rw [ah_i_sn (by omega)]
          exact ⟨(ng k' hk').1, fun m hm' => by rw [ah_i_sn (by omega)]; exact (ng k' hk').2 m hm'⟩
        · rw [ah_i_sn (by omega)]; exact i8
        · rw [ah_i_si]
          by_cases z : m = mi
          · subst z
            rw [if_pos ⟨rfl, rfl⟩]
          · rw [if_neg (by omega)]
            exact i7 m (by omega)
      refine T_X12_looks_114 kg.1.1 _ _ _ ?_
      (first | refine ⟨fun _ => ?_, fun n_ => absurd (show ¬ 120 ≤ nI mi from nI_ge (b := 120) (by omega) (by omega)) n_⟩ | refine ⟨fun n_ => absurd (show ¬ 120 ≤ nI mi from nI_ge (b := 120) (by omega) (by omega)) n_, fun _ => ?_⟩ | refine ⟨fun y_ => absurd y_ (show ¬ 120 ≤ nI mi from nI_ge (b := 120) (by omega) (by omega)), fun _ => ?_⟩ | refine ⟨fun _ => ?_, fun y_ => absurd y_ (show ¬ 120 ≤ nI mi from nI_ge (b := 120) (by omega) (by omega))⟩)
      rw [c1, c2, c3, c4, c5, nI_clamp (show 163 + 19 * k < 2 ^ 31 by omega), nI_clamp (show 164 + 19 * k < 2 ^ 31 by omega), lkK_84 kg (163 + 19 * k), lkK_84 kg (164 + 19 * k), a2, a3, n84 kg.1.1, n107 kg.1.1, nI_clamp (show 120 * k + mi < 2 ^ 31 by omega)]
      refine ⟨(vp_nI (by omega)).mpr (by omega), ?_⟩
      by_cases z : A (163 + 19 * k) ≤ mi
      · (first | refine ⟨fun _ => ?_, fun n_ => absurd (show nI (A (163 + 19 * k)) ≤ nI mi from nI_le (by omega) (by omega)) n_⟩ | refine ⟨fun n_ => absurd (show nI (A (163 + 19 * k)) ≤ nI mi from nI_le (by omega) (by omega)) n_, fun _ => ?_⟩ | refine ⟨fun y_ => absurd y_ (show nI (A (163 + 19 * k)) ≤ nI mi from nI_le (by omega) (by omega)), fun _ => ?_⟩ | refine ⟨fun _ => ?_, fun y_ => absurd y_ (show nI (A (163 + 19 * k)) ≤ nI mi from nI_le (by omega) (by omega))⟩)
        have c6 : nI (A (164 + 19 * k)) - 1 = nI (A (164 + 19 * k) - 1) := nI_sub (b := 1) w3
        rw [nI_sub z, c6, lesserN (by omega) (by omega), nI_add, nI_clamp (show 165 + 19 * k + min (mi - A (163 + 19 * k)) (A (164 + 19 * k) - 1) < 2 ^ 31 by omega), lkK_84 kg, a4 _ (by omega)]
        refine ⟨(vp_nI (by omega)).mpr (by omega), (vp_nI (by omega)).mpr (by omega), (vp_nI (by omega)).mpr (by omega), vp7, ?_⟩
        rintro h40 rfl
        refine st _ ?_
        unfold plA
        rw [if_neg (by omega), nO_s]
      · (first | refine ⟨fun _ => ?_, fun n_ => absurd (show ¬ nI (A (163 + 19 * k)) ≤ nI mi from nI_ge (by omega) (by omega)) n_⟩ | refine ⟨fun n_ => absurd (show ¬ nI (A (163 + 19 * k)) ≤ nI mi from nI_ge (by omega) (by omega)) n_, fun _ => ?_⟩ | refine ⟨fun y_ => absurd y_ (show ¬ nI (A (163 + 19 * k)) ≤ nI mi from nI_ge (by omega) (by omega)), fun _ => ?_⟩ | refine ⟨fun _ => ?_, fun y_ => absurd y_ (show ¬ nI (A (163 + 19 * k)) ≤ nI mi from nI_ge (by omega) (by omega))⟩)
        refine ⟨vp7, ?_⟩
        rintro h44 rfl
        refine st _ ?_
        unfold plA
        rw [if_pos (by omega)]
        rfl
  have l83 : ∀ (q k : Nat) (g : ah_T), k + q = A 248 → lkK A h g → lkL A (A 246) g → lkN A k g → Wp mX12_looks Q 0 0 83 [some (.ref 82), some (.int (nI k)), none, none] [] g := by
    intro q
    induction q with
    | zero =>
      intro k g hk kg lg ng
      refine T_X12_looks_83 kg.1.1 _ ?_
      rw [kg.2.2.1]
      (first | refine ⟨fun _ => ?_, fun n_ => absurd (show nI (A 248) ≤ nI k from nI_le (by omega) (by omega)) n_⟩ | refine ⟨fun n_ => absurd (show nI (A 248) ≤ nI k from nI_le (by omega) (by omega)) n_, fun _ => ?_⟩ | refine ⟨fun y_ => absurd y_ (show nI (A 248) ≤ nI k from nI_le (by omega) (by omega)), fun _ => ?_⟩ | refine ⟨fun _ => ?_, fun y_ => absurd y_ (show nI (A 248) ≤ nI k from nI_le (by omega) (by omega))⟩)
      have mg := mTw_fr (lkK_84 kg) m
      refine m_shutNow kg.1.1 mg.1.1 mg.1.2.1 mg.2.1 (fun x hx => ⟨_, rfl, kg.1.1, ?_⟩)
      have eE : Ew A (fun v => v < A 245 ∧ A (3 * v + 2) = 1) = Ew A (shS A) := by
        refine funext fun a => funext fun b => propext ?_
        exact ⟨fun ⟨w, y1, y2, y3⟩ => ⟨w, y1, fun y => y2 ⟨y1, y⟩, y3⟩, fun ⟨w, y1, y2, y3⟩ => ⟨w, y1, fun y => y2 y.2, y3⟩⟩
      refine m_measures (s := fun v => v < A 245 ∧ A (3 * v + 2) = 1) (.inr rfl) kg.1.1 mg.1 x (fun v hv => ?_) (fun g' s' x' e' d' => ⟨rfl, s', ?_⟩)
      · show f_X12_isIn x (nI v) = 0 ↔ ¬ (v < A 245 ∧ A (3 * v + 2) = 1)
        rw [isIn_bt x (by omega), ← hx v (by omega)]
        cases bt x v
        · exact ⟨fun _ y => absurd y (by decide), fun _ => rfl⟩
        · exact ⟨fun y => absurd y (by decide), fun y => absurd rfl y⟩
      · rw [eE] at d'
        have ce : ∀ a, a ≠ 99 → ∀ j, ah_i g' a j = ah_i g a j := fun a ha => (e' a ha).1
        obtain ⟨⟨f1, f2, f3, f4⟩, f5, f6, f7⟩ := kg
        refine hq g' ⟨s', x'.trans f2, fun a n1 n2 n3 n4 n5 n6 => eqc_trans (f3 a n1 n2 n3 n4 n5 n6) (e' a n2), fun j a1 a2 a3 => by rw [ce 82 (by decide)]; exact f4 j a1 a2 a3⟩ ⟨wfD_0 wl wn, ?_, ?_, ?_, fun l hl => ?_, fun k' hk' => ?_, d'⟩
        · rw [ce 82 (by decide)]; exact f5
        · rw [ce 82 (by decide)]; exact f6
        · rw [ce 82 (by decide), f7]; rfl
        · rw [ce 100 (by decide), ce 101 (by decide)]; exact lg l hl
        · have e9 : k = A 248 := by omega
          rw [ce 108 (by decide)]
          refine ⟨(ng k' (by rw [e9]; exact hk')).1, fun mi hmi => ?_⟩
          rw [ce 107 (by decide)]
          exact (ng k' (by rw [e9]; exact hk')).2 mi hmi
    | succ q ih =>
      intro k g hk kg lg ng
      refine T_X12_looks_83 kg.1.1 _ ?_
      obtain ⟨a1, a2, a3, a4⟩ := k4 k (by omega)
      have c1 : (162 : Int32) + 19 * nI k = nI (162 + 19 * k) := by rw [n_162, n_19, nI_mul, nI_add]
      rw [kg.2.2.1]
      (first | refine ⟨fun _ => ?_, fun n_ => absurd (show ¬ nI (A 248) ≤ nI k from nI_ge (by omega) (by omega)) n_⟩ | refine ⟨fun n_ => absurd (show ¬ nI (A 248) ≤ nI k from nI_ge (by omega) (by omega)) n_, fun _ => ?_⟩ | refine ⟨fun y_ => absurd y_ (show ¬ nI (A 248) ≤ nI k from nI_ge (by omega) (by omega)), fun _ => ?_⟩ | refine ⟨fun _ => ?_, fun y_ => absurd y_ (show ¬ nI (A 248) ≤ nI k from nI_ge (by omega) (by omega))⟩)
      rw [c1, nI_clamp (show 162 + 19 * k < 2 ^ 31 by omega), nI_clamp (show k < 2 ^ 31 by omega), n84 kg.1.1, n108 kg.1.1, lkK_84 kg, a1]
      refine ⟨(vp_nI (by omega)).mpr (by omega), (vp_nI (by omega)).mpr (by omega), ?_⟩
      rintro h30 rfl
      refine l114 120 0 k _ (by omega) (by omega) (lkK_s (by omega) kg) (fun l' hl' => ?_) (fun k' hk' => ?_) (ah_i_ss ..) (fun m hm' => absurd hm' (by omega)) (fun g' y1 y2 y3 => ih (k + 1) g' (by omega) y1 y2 y3)
      · rw [ah_i_sn (by omega), ah_i_sn (by omega)]; exact lg l' hl'
      · rw [ah_i_sn (by omega)]
        exact ⟨(ng k' hk').1, fun m hm' => by rw [ah_i_sn (by omega)]; exact (ng k' hk').2 m hm'⟩
  have l31 : ∀ (q l : Nat) (g : ah_T), l + q = A 246 → lkK A h g → lkL A l g → Wp mX12_looks Q 0 0 31 [some (.ref 82), some (.int (nI l)), none, none] [] g := by
    intro q
    induction q with
    | zero =>
      intro l g hl kg lg
      refine T_X12_looks_31 kg.1.1 _ ?_
      rw [kg.2.1]
      (first | refine ⟨fun _ => ?_, fun n_ => absurd (show nI (A 246) ≤ nI l from nI_le (by omega) (by omega)) n_⟩ | refine ⟨fun n_ => absurd (show nI (A 246) ≤ nI l from nI_le (by omega) (by omega)) n_, fun _ => ?_⟩ | refine ⟨fun y_ => absurd y_ (show nI (A 246) ≤ nI l from nI_le (by omega) (by omega)), fun _ => ?_⟩ | refine ⟨fun _ => ?_, fun y_ => absurd y_ (show nI (A 246) ≤ nI l from nI_le (by omega) (by omega))⟩)
      have e9 : l = A 246 := by omega
      subst e9
      exact l83 (A 248) 0 g (by omega) kg lg (fun k' hk' => absurd hk' (by omega))
    | succ q ih =>
      intro l g hl kg lg
      refine T_X12_looks_31 kg.1.1 _ ?_
      have c1 : (60 : Int32) + 3 * nI l = nI (60 + 3 * l) := by rw [n_60, n_3, nI_mul, nI_add]
      have c2 : nI (60 + 3 * l) + 1 = nI (61 + 3 * l) := (nI_add _ 1).trans (congrArg nI (by omega))
      have c3 : nI l + 1 = nI (l + 1) := nI_add _ 1
      rw [kg.2.1]
      (first | refine ⟨fun _ => ?_, fun n_ => absurd (show ¬ nI (A 246) ≤ nI l from nI_ge (by omega) (by omega)) n_⟩ | refine ⟨fun n_ => absurd (show ¬ nI (A 246) ≤ nI l from nI_ge (by omega) (by omega)) n_, fun _ => ?_⟩ | refine ⟨fun y_ => absurd y_ (show ¬ nI (A 246) ≤ nI l from nI_ge (by omega) (by omega)), fun _ => ?_⟩ | refine ⟨fun _ => ?_, fun y_ => absurd y_ (show ¬ nI (A 246) ≤ nI l from nI_ge (by omega) (by omega))⟩)
      rw [c1, c2, c3, nI_clamp (show 60 + 3 * l < 2 ^ 31 by omega), nI_clamp (show 61 + 3 * l < 2 ^ 31 by omega), nI_clamp (show l < 2 ^ 31 by omega), n84 kg.1.1, n100 kg.1.1, lkK_84 kg, k2 (3 * l) (by omega)]
      refine ⟨(vp_nI (by omega)).mpr (by omega), (vp_nI (by omega)).mpr (by omega), ?_⟩
      rintro h13 rfl
      have kg2 : lkK A h (ah_si g 100 l (nI (A (60 + 3 * l)))) := lkK_s (by omega) kg
      have k21 := k2 (3 * l + 1) (by omega)
      rw [show 60 + (3 * l + 1) = 61 + 3 * l by omega] at k21
      rw [n84 kg2.1.1, n101 kg2.1.1, lkK_84 kg2, k21]
      refine ⟨(vp_nI (by omega)).mpr (by omega), (vp_nI (by omega)).mpr (by omega), ?_⟩
      rintro h18 rfl
      refine ih (l + 1) _ (by omega) (lkK_s (by omega) kg2) (fun l' hl' => ?_)
      rw [ah_i_sn (by omega), ah_i_si, ah_i_si, ah_i_sn (by omega)]
      by_cases z : l' = l
      · subst z
        rw [if_pos ⟨rfl, rfl⟩, if_pos ⟨rfl, rfl⟩]
        exact ⟨rfl, rfl⟩
      · rw [if_neg (fun y => z y.2), if_neg (fun y => z y.2)]
        exact lg l' (by omega)
  refine T_X12_looks hs ?_
  have c246 : Int32.toNatClampNeg 246 = 246 := by decide +kernel
  have c248 : Int32.toNatClampNeg 248 = 248 := by decide +kernel
  rw [c246, c248, k1]
  rintro h1 rfl
  rw [ah_i_sn (by omega), k3]
  rintro h4 rfl h7 rfl
  refine l31 (A 246) 0 _ (by omega) ⟨⟨sh_si (sh_si (sh_si hs)), by simp only [ah_x_si], fun a n1 _ _ _ _ _ => eqc_si (eqc_si (eqc_si eqc_rfl n1) n1) n1, fun j a1 a2 a3 => by rw [ah_i_sn (by omega), ah_i_sn (by omega), ah_i_sn (by omega)]⟩, by rw [ah_i_sn (by omega), ah_i_sn (by omega), ah_i_ss], by rw [ah_i_sn (by omega), ah_i_ss], ah_i_ss ..⟩ (fun l' hl' => absurd hl' (by omega))
end ML
