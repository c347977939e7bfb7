/-! ===== to hang: what is asked for, as numbers ===== -/
abbrev sS (s : Nat) : Nat → Bool := fun i => s.testBit i
noncomputable def nth (f : Nat → Bool) (i : Nat) : Nat := @dite Nat (∃ j, j < 20 ∧ f j = true ∧ cb f j = i) (Classical.propDecidable _) (fun y => Classical.choose y) (fun _ => 0)
abbrev hN (s : Nat) : Nat := cb (sS s) 20
abbrev hC (k : Nat) : Nat := cb (sS k) 20 + 1
def hch (s k r i : Nat) : Nat := r / hC k ^ (hN s - 1 - i) % hC k
noncomputable def hkd (s k r i : Nat) : Nat := if hch s k r i = 0 then 100 else nth (sS k) (hch s k r i - 1)
def okH (A : Nat → Nat) (s k w m r : Nat) : Prop := (∀ a b, a < hN s → b < hN s → a ≠ b → hch s k r a ≠ 0 → hch s k r b ≠ 0 → shS9 A a (hkd s k r a) (hkd s k r b) (sgN A (nth (sS s) a) (nth (sS s) b)) 0 m = false) ∧ ∀ x, x < 12 → w.testBit x = true → ∃ a, a < hN s ∧ hch s k r a ≠ 0 ∧ reB A (a + 1) (hkd s k r a) m (nth (sS s) a) x = true
def hcn (s k r : Nat) : Nat := cb (fun i => decide (hch s k r i ≠ 0)) (hN s)
noncomputable def hF (A : Nat → Nat) (s k w m : Nat) : Nat → Nat × Nat × Nat
  | 0 => (hN s + 1, 0, 0)
  | r + 1 => @ite _ (okH A s k w m r) (Classical.propDecidable _) (if hcn s k r < (hF A s k w m r).1 then (hcn s k r, 1, r) else if hcn s k r = (hF A s k w m r).1 then ((hF A s k w m r).1, (hF A s k w m r).2.1 + 1, (hF A s k w m r).2.2) else hF A s k w m r) (hF A s k w m r)
/-- an answer -/
def hA (A : Nat → Nat) (s k w m : Nat) (x v : Int32) : Prop := (x = 1 ∧ v = nI (hF A s k w m (hC k ^ hN s)).2.1) ∨ (¬ x = 1 ∧ (hF A s k w m (hC k ^ hN s)).2.1 = 0 ∧ v = -1) ∨ (¬ x = 1 ∧ (hF A s k w m (hC k ^ hN s)).2.1 ≠ 0 ∧ x = 0 ∧ v = nI (hF A s k w m (hC k ^ hN s)).1) ∨ (¬ x = 1 ∧ (hF A s k w m (hC k ^ hN s)).2.1 ≠ 0 ∧ ∃ i, i < hN s ∧ x = nI (2 + i) ∧ v = nI (hkd s k (hF A s k w m (hC k ^ hN s)).2.2 i))
section HG
variable {A : Nat → Nat} {h g : ah_T} {s k w m r i j a b n c : Nat} {f : Nat → Bool}
theorem cb_mn (f : Nat → Bool) {a b : Nat} (h : a ≤ b) : cb f a ≤ cb f b := by
  rw [show b = a + (b - a) by omega, cb_ad2]
  omega
theorem cb_t1 (h : f j = true) : cb f (j + 1) = cb f j + 1 := by
  show cb f j + (if f j = true then 1 else 0) = _
  rw [if_pos h]
theorem cb_t0 (h : f j = false) : cb f (j + 1) = cb f j := by
  show cb f j + (if f j = true then 1 else 0) = _
  rw [if_neg (by rw [h]; decide)]; rfl
theorem nth_ex : ∀ N, i < cb f N → ∃ j, j < N ∧ f j = true ∧ cb f j = i
  | 0, h => absurd h (Nat.not_lt_zero _)
  | N + 1, h => by
    by_cases z : i < cb f N
    · obtain ⟨j, h1, h2⟩ := nth_ex N z
      exact ⟨j, by omega, h2⟩
    · cases y : f N
      · rw [cb_t0 y] at h; exact absurd h z
      · rw [cb_t1 y] at h
        exact ⟨N, by omega, y, by omega⟩
theorem nth_sp (h : i < cb f 20) : nth f i < 20 ∧ f (nth f i) = true ∧ cb f (nth f i) = i := by
  have y := nth_ex 20 h
  have e : nth f i = Classical.choose y := dif_pos y
  rw [e]
  exact Classical.choose_spec y
theorem cb_inj (h1 : f a = true) (h2 : f b = true) (e : cb f a = cb f b) : a = b := by
  rcases Nat.lt_trichotomy a b with z | z | z
  · have := cb_mn f (show a + 1 ≤ b by omega)
    rw [cb_t1 h1] at this
    omega
  · exact z
  · have := cb_mn f (show b + 1 ≤ a by omega)
    rw [cb_t1 h2] at this
    omega
theorem nth_u (hj : j < 20) (h : f j = true) : nth f (cb f j) = j := by
  have lt : cb f j < cb f 20 := by
    have := cb_mn f (show j + 1 ≤ 20 by omega)
    rw [cb_t1 h] at this
    omega
  obtain ⟨_, h2, h3⟩ := nth_sp lt
  exact cb_inj h2 h h3
theorem hN_le (s : Nat) : hN s ≤ 20 := cb_le _ _
theorem nth_bd {K : Nat} (hs : s < 2 ^ K) (hi : i < hN s) : nth (sS s) i < K := by
  obtain ⟨_, h2, _⟩ := nth_sp (f := sS s) hi
  rcases Nat.lt_or_ge (nth (sS s) i) K with z | z
  · exact z
  · have : sS s (nth (sS s) i) = false := Nat.testBit_lt_two_pow (Nat.lt_of_lt_of_le hs (Nat.pow_le_pow_right (by decide) z))
    rw [this] at h2
    exact absurd h2 (by decide)
theorem hN_bd {K : Nat} (hs : s < 2 ^ K) (hK : K ≤ 20) : hN s = cb (sS s) K := by
  have e : 20 = K + (20 - K) := by omega
  show cb (sS s) 20 = _
  rw [e, cb_ad2]
  have z : cb (fun i => sS s (K + i)) (20 - K) = cb (fun _ => false) (20 - K) := cb_ext (fun x _ => by
    show s.testBit (K + x) = false
    exact Nat.testBit_lt_two_pow (Nat.lt_of_lt_of_le hs (Nat.pow_le_pow_right (by decide) (by omega))))
  have z2 : ∀ n, cb (fun _ => false) n = 0 := by
    intro n
    induction n with
    | zero => rfl
    | succ n ih => rw [cb_t0 rfl, ih]
  rw [z, z2]
  omega
theorem c_bitOf {Q : Option Value → ah_T → Prop} {x0 x1 : Int32} (hs : Sh h) (e0 : x0 = nI s) (e1 : x1 = nI i) (hi : i < 2 ^ 31) (hq1 : i < hN s → Q (some (.int (nI (nth (sS s) i)))) h) (hq2 : hN s ≤ i → Q (some (.int (-1))) h) : Mt mX4_placeOf [.int x0, .int x1] h Q := by
  subst e0 e1
  have lp : ∀ (q j : Nat), j + q = 20 → cb (sS s) j ≤ i → Wp mX4_placeOf Q 0 0 4 [some (.int (nI s)), some (.int (nI i)), some (.int (nI (cb (sS s) j))), some (.int (nI j))] [] h := by
    intro q
    induction q with
    | zero =>
      intro j hj le
      have e9 : j = 20 := by omega
      subst e9
      refine T_X4_placeOf_4 hs _ _ _ _ ?_
      (first | refine ⟨fun _ => ?_, fun n_ => absurd (show 20 ≤ nI 20 from nI_le (a := 20) (by omega) (by omega)) n_⟩ | refine ⟨fun n_ => absurd (show 20 ≤ nI 20 from nI_le (a := 20) (by omega) (by omega)) n_, fun _ => ?_⟩ | refine ⟨fun y_ => absurd y_ (show 20 ≤ nI 20 from nI_le (a := 20) (by omega) (by omega)), fun _ => ?_⟩ | refine ⟨fun _ => ?_, fun y_ => absurd y_ (show 20 ≤ nI 20 from nI_le (a := 20) (by omega) (by omega))⟩)
      exact hq2 le
    | succ q ih =>
      intro j hj le
      have cl := cb_le (sS s) j
      refine T_X4_placeOf_4 hs _ _ _ _ ?_
      (first | refine ⟨fun _ => ?_, fun n_ => absurd (show ¬ 20 ≤ nI j from nI_ge (b := 20) (by omega) (by omega)) n_⟩ | refine ⟨fun n_ => absurd (show ¬ 20 ≤ nI j from nI_ge (b := 20) (by omega) (by omega)) n_, fun _ => ?_⟩ | refine ⟨fun y_ => absurd y_ (show ¬ 20 ≤ nI j from nI_ge (b := 20) (by omega) (by omega)), fun _ => ?_⟩ | refine ⟨fun _ => ?_, fun y_ => absurd y_ (show ¬ 20 ≤ nI j from nI_ge (b := 20) (by omega) (by omega))⟩)
      rw [b_bit _ j (by omega), nb (by omega), nI_1, nI_1, nI_eq (show cb (sS s) j < 2 ^ 31 by omega) hi]
      refine ⟨fun z => ?_, fun z => ?_⟩
      · have zt : sS s j = true := by cases y : s.testBit j; exact absurd y z; exact y
        have cs := cb_t1 (f := sS s) zt
        refine ⟨fun y => ?_, fun y => ?_⟩
        · rw [← cs]
          exact ih (j + 1) (by omega) (by omega)
        · have lt : i < hN s := by
            have := cb_mn (sS s) (show j + 1 ≤ 20 by omega)
            show i < cb (sS s) 20
            omega
          have e := nth_u (f := sS s) (show j < 20 by omega) zt
          rw [y] at e
          rw [← e]
          exact hq1 lt
      · have cs := cb_t0 (f := sS s) z
        have g := ih (j + 1) (by omega) (by omega)
        rw [cs] at g
        exact g
  exact T_X4_placeOf hs _ _ (lp 20 0 (by omega) (Nat.zero_le _))
theorem hA_u {x v v' : Int32} (p : hA A s k w m x v) (q : hA A s k w m x v') : v = v' := by
  rcases p with ⟨p1, p2⟩ | ⟨p1, p2, p3⟩ | ⟨p1, p2, p3, p4⟩ | ⟨p1, p2, i, p3, p4, p5⟩ <;> rcases q with ⟨q1, q2⟩ | ⟨q1, q2, q3⟩ | ⟨q1, q2, q3, q4⟩ | ⟨q1, q2, j, q3, q4, q5⟩
  · rw [p2, q2]
  · exact absurd p1 q1
  · exact absurd p1 q1
  · exact absurd p1 q1
  · exact absurd q1 p1
  · rw [p3, q3]
  · exact absurd p2 q2
  · exact absurd p2 q2
  · exact absurd q1 p1
  · exact absurd q2 p2
  · rw [p4, q4]
  · have n := hN_le s
    rw [p3, n_0, nI_eq (by omega) (by omega)] at q4
    omega
  · exact absurd q1 p1
  · exact absurd q2 p2
  · have n := hN_le s
    rw [q3, n_0, nI_eq (by omega) (by omega)] at p4
    omega
  · have n := hN_le s
    rw [p4, nI_eq (by omega) (by omega)] at q4
    have e : i = j := by omega
    rw [p5, q5, e]
theorem hcn_le (s k r : Nat) : hcn s k r ≤ hN s := cb_le _ _
theorem hF_in (A : Nat → Nat) (s k w m : Nat) : ∀ r, (hF A s k w m r).1 ≤ hN s + 1 ∧ (hF A s k w m r).2.1 ≤ r ∧ ((hF A s k w m r).2.1 = 0 ↔ (hF A s k w m r).1 = hN s + 1)
  | 0 => ⟨Nat.le_refl _, Nat.le_refl _, ⟨fun _ => rfl, fun _ => rfl⟩⟩
  | r + 1 => by
    obtain ⟨i1, i2, i3⟩ := hF_in A s k w m r
    have c := hcn_le s k r
    unfold hF
    by_cases z : okH A s k w m r
    · rw [if_pos z]
      by_cases y : hcn s k r < (hF A s k w m r).1
      · rw [if_pos y]
        exact ⟨by show hcn s k r ≤ _; omega, by show 1 ≤ r + 1; omega, ⟨fun q => absurd q (by show ¬ 1 = 0; omega), fun q => by
          have q' : hcn s k r = hN s + 1 := q
          omega⟩⟩
      · rw [if_neg y]
        by_cases y2 : hcn s k r = (hF A s k w m r).1
        · rw [if_pos y2]
          exact ⟨i1, by show _ + 1 ≤ r + 1; omega, ⟨fun q => absurd q (by show ¬ _ + 1 = 0; omega), fun q => by
            have q' : (hF A s k w m r).1 = hN s + 1 := q
            omega⟩⟩
        · rw [if_neg y2]; exact ⟨i1, by omega, i3⟩
    · rw [if_neg z]; exact ⟨i1, by omega, i3⟩
theorem hF_no (z : ¬ okH A s k w m r) : hF A s k w m (r + 1) = hF A s k w m r := if_neg z
theorem hF_ok (z : okH A s k w m r) : hF A s k w m (r + 1) = (if hcn s k r < (hF A s k w m r).1 then (hcn s k r, 1, r) else if hcn s k r = (hF A s k w m r).1 then ((hF A s k w m r).1, (hF A s k w m r).2.1 + 1, (hF A s k w m r).2.2) else hF A s k w m r) := if_pos z
end HG
