/-! ===== nights: what they are run over; the model looks ===== -/
noncomputable def sgN (A : Nat → Nat) (a b : Nat) : Nat := @dite Nat (∃ n, lst (Ew A (shS A)) a b n) (Classical.propDecidable _) (fun p => Classical.choose p + 1) (fun _ => 0)
theorem sgN_v (A : Nat → Nat) {a b : Nat} (hs : ∀ n, lst (Ew A (shS A)) a b n → n < 12) : sgv A a b = (sgN A a b : Int) - 1 ∧ sgN A a b < 13 := by
  unfold sgv dsI sgN
  by_cases c : ∃ n, lst (Ew A (shS A)) a b n
  · rw [dif_pos c, dif_pos c]
    have := hs _ (Classical.choose_spec c)
    rw [nI_toInt (by omega)]
    omega
  · rw [dif_neg c, dif_neg c]
    exact ⟨rfl, by omega⟩
theorem sgN_d {A : Nat → Nat} {a b : Nat} {v : Int32} (d : dst (Ew A (shS A)) a b v) : v = nO (sgN A a b) ∧ sgN A a b < 13 ∧ sgv A a b = (sgN A a b : Int) - 1 := by
  have hs : ∀ n, lst (Ew A (shS A)) a b n → n < 12 := by
    intro n y
    rcases d with ⟨_, q⟩ | ⟨m, _, hm, q⟩
    · exact absurd y.1 (q n)
    · rw [lst_u y q]; exact hm
  have h1 := sgN_v A hs
  refine ⟨?_, h1.2, h1.1⟩
  rw [dst_I d]
  unfold dsI sgN
  by_cases c : ∃ n, lst (Ew A (shS A)) a b n
  · rw [dif_pos c, dif_pos c, nO_s]
  · rw [dif_neg c, dif_neg c]; rfl
/-- what a night is run over -/
abbrev Nd := Nat × (Nat → Nat) × (Nat → Nat) × Nat × (Nat → Nat) × (Nat → Nat → Nat) × Bool
abbrev Nd.n (N : Nd) : Nat := N.1
abbrev Nd.co (N : Nd) : Nat → Nat := N.2.1
abbrev Nd.ki (N : Nd) : Nat → Nat := N.2.2.1
abbrev Nd.q (N : Nd) : Nat := N.2.2.2.1
abbrev Nd.lk (N : Nd) : Nat → Nat := N.2.2.2.2.1
abbrev Nd.pl (N : Nd) : Nat → Nat → Nat := N.2.2.2.2.2.1
abbrev Nd.gu (N : Nd) : Bool := N.2.2.2.2.2.2
def plA (A : Nat → Nat) (k m : Nat) : Nat := if m < A (163 + 19 * k) then 0 else A (165 + 19 * k + min (m - A (163 + 19 * k)) (A (164 + 19 * k) - 1)) + 1
def nd0 (A : Nat → Nat) : Nd := ⟨A 246, fun l => A (60 + 3 * l), fun l => A (61 + 3 * l), A 248, fun k => A (162 + 19 * k), plA A, false⟩
def wfD (N : Nd) : Prop := N.n ≤ 10 ∧ (∀ l, l < N.n → N.co l < 12 ∧ N.ki l < 6) ∧ N.q ≤ 3 ∧ ∀ k, k < N.q → N.lk k < 6 ∧ ∀ m, m < 120 → N.pl k m ≤ 12
/-- the model holds it -/
def mND (A : Nat → Nat) (N : Nd) (h : ah_T) : Prop := wfD N ∧ ah_i h 82 41 = nI N.n ∧ ah_i h 82 42 = nI N.q ∧ ah_i h 82 43 = (if N.gu = true then 1 else 0) ∧ (∀ l, l < N.n → ah_i h 100 l = nI (N.co l) ∧ ah_i h 101 l = nI (N.ki l)) ∧ (∀ k, k < N.q → ah_i h 108 k = nI (N.lk k) ∧ ∀ m, m < 120 → ah_i h 107 (120 * k + m) = nO (N.pl k m)) ∧ ∀ x y, x < 12 → y < 12 → dst (Ew A (shS A)) x y (ah_i h 99 (12 * x + y))
theorem mND_fr {A : Nat → Nat} {N : Nd} {h h' : ah_T} (e : ∀ a, (a = 99 ∨ a = 100 ∨ a = 101 ∨ a = 107 ∨ a = 108) → ∀ j, ah_i h' a j = ah_i h a j) (e2 : ∀ j, (j = 41 ∨ j = 42 ∨ j = 43) → ah_i h' 82 j = ah_i h 82 j) (m : mND A N h) : mND A N h' := by
  obtain ⟨m1, m2, m3, m4, m5, m6, m7⟩ := m
  refine ⟨m1, by rw [e2 41 (by omega)]; exact m2, by rw [e2 42 (by omega)]; exact m3, by rw [e2 43 (by omega)]; exact m4, fun l hl => by rw [e 100 (by omega), e 101 (by omega)]; exact m5 l hl, fun k hk => ⟨by rw [e 108 (by omega)]; exact (m6 k hk).1, fun m hm => by rw [e 107 (by omega)]; exact (m6 k hk).2 m hm⟩, fun x y hx hy => by rw [e 99 (by omega)]; exact m7 x y hx hy⟩
theorem wfD_0 {A : Nat → Nat} (wl : wfL A) (wn : wfN A) : wfD (nd0 A) := by
  refine ⟨wl.1, fun l hl => ⟨(wl.2 l hl).1, (wl.2 l hl).2.1⟩, by show A 248 ≤ 3; have := wn.1; omega, fun k hk => ⟨(wn.2 k hk).1, fun m hm => ?_⟩⟩
  obtain ⟨w1, w2, w3, w4, w5⟩ := wn.2 k hk
  show plA A k m ≤ 12
  unfold plA
  split
  · omega
  · have := w5 (min (m - A (163 + 19 * k)) (A (164 + 19 * k) - 1)) (by omega)
    omega
