/-! ===== told: lamps, errands, soot, switches ===== -/
theorem qf0 (x : Int32) : f_X12_isFact 0 x = f_X11_isIn x 12 := by unfold f_X12_isFact; rw [if_pos rfl, q_corner]
theorem qf1 (x : Int32) : f_X12_isFact 1 x = f_X11_isIn x 6 := by unfold f_X12_isFact; rw [if_neg (by decide), if_pos rfl, q_kind]
theorem qf2 (x : Int32) : f_X12_isFact 2 x = if x < 1 then 0 else if 240 < x then 0 else 1 := by
  unfold f_X12_isFact f_X12_lies
  rw [if_neg (by decide), if_neg (by decide), if_pos rfl]
  by_cases c1 : x < 1
  · rw [if_pos c1, if_pos rfl]
  · rw [if_neg c1]
    by_cases c2 : 240 < x
    · rw [if_pos c2, if_pos rfl]
    · rw [if_neg c2, if_neg (by decide)]
theorem c_isFact {Q : Option Value → ah_T → Prop} {h : ah_T} (hs : Sh h) (x0 x1 : Int32) (hq : Q (some (.int (f_X12_isFact x0 x1))) h) : Mt mX11_isFact [.int x0, .int x1] h Q := by
  refine T_X11_isFact hs x0 x1 ⟨fun e => ?_, fun e => ?_, fun e => ⟨fun c => ?_, fun c => ⟨fun c2 => ?_, fun c2 => ?_⟩⟩, fun e0 e1 e2 => ?_⟩
  · subst e; rw [qf0] at hq; exact hq
  · subst e; rw [qf1] at hq; exact hq
  · subst e; rw [qf2, if_pos c] at hq; exact hq
  · subst e; rw [qf2, if_neg c, if_pos c2] at hq; exact hq
  · subst e; rw [qf2, if_neg c, if_neg c2] at hq; exact hq
  · unfold f_X12_isFact at hq; rw [if_neg e0, if_neg e1, if_neg e2] at hq; exact hq
theorem q_240 {x : Int32} (h1 : ¬ x < 1) (h2 : x ≤ 240) : ∃ j, 1 ≤ j ∧ j ≤ 240 ∧ x = nI j := by
  obtain ⟨j, hj, e⟩ := nI_of (x := x) (by grind)
  subst e
  exact ⟨j, by grind, by grind, rfl⟩
/-- no room in a table -/
theorem c_addF {Q : Option Value → ah_T → Prop} {h : ah_T} (hs : Sh h) (t cc : Nat) (x1 x2 x3 : Int32) (hk_t : ah_k h t = 7) (hk_cc : ah_k h cc = 14) (hr_t : ah_r h t 2 = some cc) {r : Nat} (hr : ah_i h t 0 = nI r) (hn : ah_i h t 3 = nI r) (hq : Q (some (.int (-1))) h) : Mt mX7_add [.ref t, .int x1, .int x2, .int x3] h Q := by
  refine T_X7_add hs t cc _ _ _ hk_t hk_cc hr_t ?_
  rw [hn, hr]
  exact ⟨fun _ => hq, fun q => absurd (Int32.le_refl _) q⟩
section TE
variable {A : Nat → Nat} {h : ah_T}
/-- a switch is told, or not -/
theorem c_tell {Q : Option Value → ah_T → Prop} (hs : Sh h) {nl ns : Nat} (e4 : ah_i h 4 3 = nI nl) (hl : nl ≤ 10) (e60 : ah_i h 6 0 = nI 24) (e61 : ah_i h 6 1 = nI 3) (e6 : ah_i h 6 3 = nI ns) (hn : ns ≤ 24) (x1 x2 x3 : Int32)
    (q1 : (f_X11_isIn x2 120 = 0 ∨ f_X11_isIn x3 2 = 0) → Q (some (.int (-1))) h) (q2 : ¬ f_X11_isIn x2 120 = 0 → ¬ f_X11_isIn x3 2 = 0 → ¬ (0 ≤ x1 ∧ x1 < nI nl) → Q (some (.int (-2))) h)
    (q5 : ∀ l m o, l < nl → m < 120 → o < 2 → x1 = nI l → x2 = nI m → x3 = nI o → ns = 24 → Q (some (.int (-5))) h) (q0 : ∀ l m o, l < nl → m < 120 → o < 2 → x1 = nI l → x2 = nI m → x3 = nI o → ns < 24 → Q (some (.int 0)) (cA h 6 ns l m o)) : Mt mX10_tell [.ref 1, .int x1, .int x2, .int x3] h Q := by
  refine T_X10_tell hs x1 x2 x3 ?_
  by_cases c1 : f_X11_isIn x2 120 = 0
  · (first | refine ⟨fun _ => ?_, fun n_ => absurd (c1) n_⟩ | refine ⟨fun n_ => absurd (c1) n_, fun _ => ?_⟩ | refine ⟨fun y_ => absurd y_ (c1), fun _ => ?_⟩ | refine ⟨fun _ => ?_, fun y_ => absurd y_ (c1)⟩)
    exact q1 (.inl c1)
  (first | refine ⟨fun _ => ?_, fun n_ => absurd (c1) n_⟩ | refine ⟨fun n_ => absurd (c1) n_, fun _ => ?_⟩ | refine ⟨fun y_ => absurd y_ (c1), fun _ => ?_⟩ | refine ⟨fun _ => ?_, fun y_ => absurd y_ (c1)⟩)
  by_cases c2 : f_X11_isIn x3 2 = 0
  · (first | refine ⟨fun _ => ?_, fun n_ => absurd (c2) n_⟩ | refine ⟨fun n_ => absurd (c2) n_, fun _ => ?_⟩ | refine ⟨fun y_ => absurd y_ (c2), fun _ => ?_⟩ | refine ⟨fun _ => ?_, fun y_ => absurd y_ (c2)⟩)
    exact q1 (.inr c2)
  (first | refine ⟨fun _ => ?_, fun n_ => absurd (c2) n_⟩ | refine ⟨fun n_ => absurd (c2) n_, fun _ => ?_⟩ | refine ⟨fun y_ => absurd y_ (c2), fun _ => ?_⟩ | refine ⟨fun _ => ?_, fun y_ => absurd y_ (c2)⟩)
  refine c_has3 hs (.inr (.inl rfl)) e4 (by omega) (fun l hl2 el => ?_) (fun c => ?_)
  · refine ⟨_, rfl, hs, ?_⟩
    (first | refine ⟨fun _ => ?_, fun n_ => absurd (show ¬ (1 : Int32) = 0 by decide) n_⟩ | refine ⟨fun n_ => absurd (show ¬ (1 : Int32) = 0 by decide) n_, fun _ => ?_⟩ | refine ⟨fun y_ => absurd y_ (show ¬ (1 : Int32) = 0 by decide), fun _ => ?_⟩ | refine ⟨fun _ => ?_, fun y_ => absurd y_ (show ¬ (1 : Int32) = 0 by decide)⟩)
    obtain ⟨m, hm, em⟩ := q_isn (n := 120) (by decide) c1
    obtain ⟨o, ho, eo⟩ := q_isn (n := 2) (by decide) c2
    obtain ⟨k1, k2, k3, k4⟩ := tk hs 6 (by omega)
    rcases Nat.lt_or_ge ns 24 with k | k
    · subst el em eo
      refine c_add hs 6 7 _ _ _ k1 k2 k3 (r := 24) (w := 3) (n := ns) e60 e61 e6 (by rw [k4]; rfl) (.inl rfl) (by omega) k (by omega) ?_
      refine ⟨_, rfl, sh_cA hs (t := 6) (n := ns) (x := l) (y := m) (z := o), ?_⟩
      (first | refine ⟨fun _ => ?_, fun n_ => absurd (nI_m1 (show ns < 2 ^ 31 by omega)) n_⟩ | refine ⟨fun n_ => absurd (nI_m1 (show ns < 2 ^ 31 by omega)) n_, fun _ => ?_⟩ | refine ⟨fun y_ => absurd y_ (nI_m1 (show ns < 2 ^ 31 by omega)), fun _ => ?_⟩ | refine ⟨fun _ => ?_, fun y_ => absurd y_ (nI_m1 (show ns < 2 ^ 31 by omega))⟩)
      exact q0 l m o hl2 hm ho rfl rfl rfl k
    · have e24 : ns = 24 := by omega
      refine c_addF hs 6 7 _ _ _ k1 k2 k3 e60 (by rw [e6, e24]) ⟨_, rfl, hs, ?_⟩
      (first | refine ⟨fun _ => ?_, fun n_ => absurd (show (-1 : Int32) = -1 by rfl) n_⟩ | refine ⟨fun n_ => absurd (show (-1 : Int32) = -1 by rfl) n_, fun _ => ?_⟩ | refine ⟨fun y_ => absurd y_ (show (-1 : Int32) = -1 by rfl), fun _ => ?_⟩ | refine ⟨fun _ => ?_, fun y_ => absurd y_ (show (-1 : Int32) = -1 by rfl)⟩)
      exact q5 l m o hl2 hm ho el em eo e24
  · refine ⟨_, rfl, hs, ?_⟩
    (first | refine ⟨fun _ => ?_, fun n_ => absurd (show (0 : Int32) = 0 by rfl) n_⟩ | refine ⟨fun n_ => absurd (show (0 : Int32) = 0 by rfl) n_, fun _ => ?_⟩ | refine ⟨fun y_ => absurd y_ (show (0 : Int32) = 0 by rfl), fun _ => ?_⟩ | refine ⟨fun _ => ?_, fun y_ => absurd y_ (show (0 : Int32) = 0 by rfl)⟩)
    exact q2 c1 c2 c
theorem m_tells {Q : Option Value → ah_T → Prop} (hs : Sh h) {nl ns : Nat} (e4 : ah_i h 84 246 = nI nl) (hl : nl ≤ 10) (e6 : ah_i h 84 247 = nI ns) (hn : ns ≤ 24) (x1 x2 x3 : Int32)
    (q1 : (f_X11_isIn x2 120 = 0 ∨ f_X11_isIn x3 2 = 0) → Q (some (.int (-1))) h) (q2 : ¬ f_X11_isIn x2 120 = 0 → ¬ f_X11_isIn x3 2 = 0 → ¬ (0 ≤ x1 ∧ x1 < nI nl) → Q (some (.int (-2))) h)
    (q5 : ∀ l m o, l < nl → m < 120 → o < 2 → x1 = nI l → x2 = nI m → x3 = nI o → ns = 24 → Q (some (.int (-5))) h) (q0 : ∀ l m o, l < nl → m < 120 → o < 2 → x1 = nI l → x2 = nI m → x3 = nI o → ns < 24 → Q (some (.int 0)) (mA h 90 247 ns l m o)) : Mt mX12_tellsSwitch [.ref 82, .int x1, .int x2, .int x3] h Q := by
  refine T_X12_tellsSwitch hs x1 x2 x3 ?_
  simp only [q_minute, q_two]
  by_cases c1 : f_X11_isIn x2 120 = 0
  · (first | refine ⟨fun _ => ?_, fun n_ => absurd (c1) n_⟩ | refine ⟨fun n_ => absurd (c1) n_, fun _ => ?_⟩ | refine ⟨fun y_ => absurd y_ (c1), fun _ => ?_⟩ | refine ⟨fun _ => ?_, fun y_ => absurd y_ (c1)⟩)
    exact q1 (.inl c1)
  (first | refine ⟨fun _ => ?_, fun n_ => absurd (c1) n_⟩ | refine ⟨fun n_ => absurd (c1) n_, fun _ => ?_⟩ | refine ⟨fun y_ => absurd y_ (c1), fun _ => ?_⟩ | refine ⟨fun _ => ?_, fun y_ => absurd y_ (c1)⟩)
  by_cases c2 : f_X11_isIn x3 2 = 0
  · (first | refine ⟨fun _ => ?_, fun n_ => absurd (c2) n_⟩ | refine ⟨fun n_ => absurd (c2) n_, fun _ => ?_⟩ | refine ⟨fun y_ => absurd y_ (c2), fun _ => ?_⟩ | refine ⟨fun _ => ?_, fun y_ => absurd y_ (c2)⟩)
    exact q1 (.inr c2)
  (first | refine ⟨fun _ => ?_, fun n_ => absurd (c2) n_⟩ | refine ⟨fun n_ => absurd (c2) n_, fun _ => ?_⟩ | refine ⟨fun y_ => absurd y_ (c2), fun _ => ?_⟩ | refine ⟨fun _ => ?_, fun y_ => absurd y_ (c2)⟩)
  have e5 : f_X12_isLamp h x1 = if 0 ≤ x1 ∧ x1 < nI nl then 1 else 0 := by unfold f_X12_isLamp; rw [cl_246, e4, q_has (by omega)]
  rw [e5, cl_247, e6]
  by_cases c : 0 ≤ x1 ∧ x1 < nI nl
  · rw [if_pos c]
    (first | refine ⟨fun _ => ?_, fun n_ => absurd (show ¬ (1 : Int32) = 0 by decide) n_⟩ | refine ⟨fun n_ => absurd (show ¬ (1 : Int32) = 0 by decide) n_, fun _ => ?_⟩ | refine ⟨fun y_ => absurd y_ (show ¬ (1 : Int32) = 0 by decide), fun _ => ?_⟩ | refine ⟨fun _ => ?_, fun y_ => absurd y_ (show ¬ (1 : Int32) = 0 by decide)⟩)
    obtain ⟨l, hl2, el⟩ := q_hasn (by omega) c
    obtain ⟨m, hm, em⟩ := q_isn (n := 120) (by decide) c1
    obtain ⟨o, ho, eo⟩ := q_isn (n := 2) (by decide) c2
    rcases Nat.lt_or_ge ns 24 with k | k
    · (first | refine ⟨fun _ => ?_, fun n_ => absurd (show ¬ nI ns = 24 by rw [n_24, nI_eq (by omega) (by omega)]; omega) n_⟩ | refine ⟨fun n_ => absurd (show ¬ nI ns = 24 by rw [n_24, nI_eq (by omega) (by omega)]; omega) n_, fun _ => ?_⟩ | refine ⟨fun y_ => absurd y_ (show ¬ nI ns = 24 by rw [n_24, nI_eq (by omega) (by omega)]; omega), fun _ => ?_⟩ | refine ⟨fun _ => ?_, fun y_ => absurd y_ (show ¬ nI ns = 24 by rw [n_24, nI_eq (by omega) (by omega)]; omega)⟩)
      subst el em eo
      refine m_comesBehind hs _ _ _ _ _ 90 247 ns rfl rfl e6 (by omega) (by omega) ⟨_, rfl, sh_mA hs (b := 90) (m := 247) (n := ns) (x := l) (y := m) (z := o), ?_⟩
      exact q0 l m o hl2 hm ho rfl rfl rfl k
    · have e24 : ns = 24 := by omega
      (first | refine ⟨fun _ => ?_, fun n_ => absurd (show nI ns = 24 by rw [e24]; rfl) n_⟩ | refine ⟨fun n_ => absurd (show nI ns = 24 by rw [e24]; rfl) n_, fun _ => ?_⟩ | refine ⟨fun y_ => absurd y_ (show nI ns = 24 by rw [e24]; rfl), fun _ => ?_⟩ | refine ⟨fun _ => ?_, fun y_ => absurd y_ (show nI ns = 24 by rw [e24]; rfl)⟩)
      exact q5 l m o hl2 hm ho el em eo e24
  · rw [if_neg c]
    (first | refine ⟨fun _ => ?_, fun n_ => absurd (show (0 : Int32) = 0 by rfl) n_⟩ | refine ⟨fun n_ => absurd (show (0 : Int32) = 0 by rfl) n_, fun _ => ?_⟩ | refine ⟨fun y_ => absurd y_ (show (0 : Int32) = 0 by rfl), fun _ => ?_⟩ | refine ⟨fun _ => ?_, fun y_ => absurd y_ (show (0 : Int32) = 0 by rfl)⟩)
    exact q2 c1 c2 c
end TE
theorem tl_no {b c : Int32} (n1 : ¬ f_X11_isIn b 120 = 0) (n2 : ¬ f_X11_isIn c 2 = 0) : ¬ (f_X11_isIn b 120 = 0 ∨ f_X11_isIn c 2 = 0) := fun q => q.elim n1 n2
theorem tl_ok {b c : Int32} {m o : Nat} (hm : m < 120) (ho : o < 2) (e2 : b = nI m) (e3 : c = nI o) : ¬ (f_X11_isIn b 120 = 0 ∨ f_X11_isIn c 2 = 0) := by
  subst e2 e3
  exact tl_no (q_is0 (n := 120) (by decide) hm) (q_is0 (n := 2) (by decide) ho)
section RW
variable {TX : ah_T → Nat → (Nat → Nat) → (Nat → Nat) → Nat → Prop} {CC : (Nat → Nat) → ah_T → Prop} {CM : Nat → (Nat → Nat) → ah_T → Prop} {n : Nat}
theorem rel_lamp (hTX : TXp TX) (hCC : CCp CC) (hCM : CMp CM) (a b c : Int32) : lw_RC (Inv TX CC CM (n + 1)) (Inv TX CC CM n) mX11_lamp mX12_lamp [.int a, .int b, .int c] := by
  intro h hI
  have hI' := hI
  obtain ⟨hs, A, B0, B1, d, D, wf, tn, im, sc, tp, dr, cc, cm⟩ := hI'
  refine T_X11_lamp hs a b c ?_
  by_cases c1 : f_X11_isIn a 12 = 0
  · (first | refine ⟨fun _ => ?_, fun n_ => absurd (c1) n_⟩ | refine ⟨fun n_ => absurd (c1) n_, fun _ => ?_⟩ | refine ⟨fun y_ => absurd y_ (c1), fun _ => ?_⟩ | refine ⟨fun _ => ?_, fun y_ => absurd y_ (c1)⟩)
    (refine rl_rf hs why1 (T_X12_lamp (sh_cRf hs) a b c ?_); try simp only [q_corner, q_kind, q_minute, q_two, q_three, q_ten, qf0, qf1, qf2]; (first | refine ⟨fun _ => ?_, fun n_ => absurd (c1) n_⟩ | refine ⟨fun n_ => absurd (c1) n_, fun _ => ?_⟩ | refine ⟨fun y_ => absurd y_ (c1), fun _ => ?_⟩ | refine ⟨fun _ => ?_, fun y_ => absurd y_ (c1)⟩); exact rl_mf hTX hCC hCM hI why1)
  (first | refine ⟨fun _ => ?_, fun n_ => absurd (c1) n_⟩ | refine ⟨fun n_ => absurd (c1) n_, fun _ => ?_⟩ | refine ⟨fun y_ => absurd y_ (c1), fun _ => ?_⟩ | refine ⟨fun _ => ?_, fun y_ => absurd y_ (c1)⟩)
  by_cases c2 : f_X11_isIn b 6 = 0
  · (first | refine ⟨fun _ => ?_, fun n_ => absurd (c2) n_⟩ | refine ⟨fun n_ => absurd (c2) n_, fun _ => ?_⟩ | refine ⟨fun y_ => absurd y_ (c2), fun _ => ?_⟩ | refine ⟨fun _ => ?_, fun y_ => absurd y_ (c2)⟩)
    (refine rl_rf hs why1 (T_X12_lamp (sh_cRf hs) a b c ?_); try simp only [q_corner, q_kind, q_minute, q_two, q_three, q_ten, qf0, qf1, qf2]; (first | refine ⟨fun _ => ?_, fun n_ => absurd (c1) n_⟩ | refine ⟨fun n_ => absurd (c1) n_, fun _ => ?_⟩ | refine ⟨fun y_ => absurd y_ (c1), fun _ => ?_⟩ | refine ⟨fun _ => ?_, fun y_ => absurd y_ (c1)⟩); (first | refine ⟨fun _ => ?_, fun n_ => absurd (c2) n_⟩ | refine ⟨fun n_ => absurd (c2) n_, fun _ => ?_⟩ | refine ⟨fun y_ => absurd y_ (c2), fun _ => ?_⟩ | refine ⟨fun _ => ?_, fun y_ => absurd y_ (c2)⟩); exact rl_mf hTX hCC hCM hI why1)
  (first | refine ⟨fun _ => ?_, fun n_ => absurd (c2) n_⟩ | refine ⟨fun n_ => absurd (c2) n_, fun _ => ?_⟩ | refine ⟨fun y_ => absurd y_ (c2), fun _ => ?_⟩ | refine ⟨fun _ => ?_, fun y_ => absurd y_ (c2)⟩)
  by_cases c3 : c < 1
  · (first | refine ⟨fun _ => ?_, fun n_ => absurd (c3) n_⟩ | refine ⟨fun n_ => absurd (c3) n_, fun _ => ?_⟩ | refine ⟨fun y_ => absurd y_ (c3), fun _ => ?_⟩ | refine ⟨fun _ => ?_, fun y_ => absurd y_ (c3)⟩)
    have k3 : (if c < 1 then (0 : Int32) else if 240 < c then 0 else 1) = 0 := if_pos c3
    (refine rl_rf hs why1 (T_X12_lamp (sh_cRf hs) a b c ?_); try simp only [q_corner, q_kind, q_minute, q_two, q_three, q_ten, qf0, qf1, qf2]; (first | refine ⟨fun _ => ?_, fun n_ => absurd (c1) n_⟩ | refine ⟨fun n_ => absurd (c1) n_, fun _ => ?_⟩ | refine ⟨fun y_ => absurd y_ (c1), fun _ => ?_⟩ | refine ⟨fun _ => ?_, fun y_ => absurd y_ (c1)⟩); (first | refine ⟨fun _ => ?_, fun n_ => absurd (c2) n_⟩ | refine ⟨fun n_ => absurd (c2) n_, fun _ => ?_⟩ | refine ⟨fun y_ => absurd y_ (c2), fun _ => ?_⟩ | refine ⟨fun _ => ?_, fun y_ => absurd y_ (c2)⟩); (first | refine ⟨fun _ => ?_, fun n_ => absurd (k3) n_⟩ | refine ⟨fun n_ => absurd (k3) n_, fun _ => ?_⟩ | refine ⟨fun y_ => absurd y_ (k3), fun _ => ?_⟩ | refine ⟨fun _ => ?_, fun y_ => absurd y_ (k3)⟩); exact rl_mf hTX hCC hCM hI why1)
  (first | refine ⟨fun _ => ?_, fun n_ => absurd (c3) n_⟩ | refine ⟨fun n_ => absurd (c3) n_, fun _ => ?_⟩ | refine ⟨fun y_ => absurd y_ (c3), fun _ => ?_⟩ | refine ⟨fun _ => ?_, fun y_ => absurd y_ (c3)⟩)
  by_cases c4 : c ≤ 240
  · (first | refine ⟨fun _ => ?_, fun n_ => absurd (c4) n_⟩ | refine ⟨fun n_ => absurd (c4) n_, fun _ => ?_⟩ | refine ⟨fun y_ => absurd y_ (c4), fun _ => ?_⟩ | refine ⟨fun _ => ?_, fun y_ => absurd y_ (c4)⟩)
    have k3 : ¬ (if c < 1 then (0 : Int32) else if 240 < c then 0 else 1) = 0 := by rw [if_neg c3, if_neg (by grind)]; decide
    obtain ⟨a, ha, rfl⟩ := q_isn (n := 12) (by decide) c1
    obtain ⟨b, hb, rfl⟩ := q_isn (n := 6) (by decide) c2
    obtain ⟨c, hc1, hc2, rfl⟩ := q_240 c3 c4
    obtain ⟨p0, p1, p3, p4, p5⟩ := cp3_m tn.2.1
    obtain ⟨k1, k2, k3', k4⟩ := tk hs 4 (by omega)
    refine c_full3 hs (.inr (.inl rfl)) p0 p3 (by omega) p5 (fun c5 => ?_) (fun c5 => ?_)
    · refine ⟨_, rfl, hs, ?_⟩
      (first | refine ⟨fun _ => ?_, fun n_ => absurd (show ¬ (1 : Int32) = 0 by decide) n_⟩ | refine ⟨fun n_ => absurd (show ¬ (1 : Int32) = 0 by decide) n_, fun _ => ?_⟩ | refine ⟨fun y_ => absurd y_ (show ¬ (1 : Int32) = 0 by decide), fun _ => ?_⟩ | refine ⟨fun _ => ?_, fun y_ => absurd y_ (show ¬ (1 : Int32) = 0 by decide)⟩)
      have k5 : ah_i (cRf h (-5) 3) 84 (Int32.toNatClampNeg 246) = 10 := by rw [cl_246, rf_84 (by decide) (by decide), p4, c5]; rfl
      (refine rl_rf hs why5 (T_X12_lamp (sh_cRf hs) _ _ _ ?_); try simp only [q_corner, q_kind, q_minute, q_two, q_three, q_ten, qf0, qf1, qf2]; (first | refine ⟨fun _ => ?_, fun n_ => absurd (c1) n_⟩ | refine ⟨fun n_ => absurd (c1) n_, fun _ => ?_⟩ | refine ⟨fun y_ => absurd y_ (c1), fun _ => ?_⟩ | refine ⟨fun _ => ?_, fun y_ => absurd y_ (c1)⟩); (first | refine ⟨fun _ => ?_, fun n_ => absurd (c2) n_⟩ | refine ⟨fun n_ => absurd (c2) n_, fun _ => ?_⟩ | refine ⟨fun y_ => absurd y_ (c2), fun _ => ?_⟩ | refine ⟨fun _ => ?_, fun y_ => absurd y_ (c2)⟩); (first | refine ⟨fun _ => ?_, fun n_ => absurd (k3) n_⟩ | refine ⟨fun n_ => absurd (k3) n_, fun _ => ?_⟩ | refine ⟨fun y_ => absurd y_ (k3), fun _ => ?_⟩ | refine ⟨fun _ => ?_, fun y_ => absurd y_ (k3)⟩); (first | refine ⟨fun _ => ?_, fun n_ => absurd (k5) n_⟩ | refine ⟨fun n_ => absurd (k5) n_, fun _ => ?_⟩ | refine ⟨fun y_ => absurd y_ (k5), fun _ => ?_⟩ | refine ⟨fun _ => ?_, fun y_ => absurd y_ (k5)⟩); exact rl_mf hTX hCC hCM hI why5)
    refine ⟨_, rfl, hs, ?_⟩
    (first | refine ⟨fun _ => ?_, fun n_ => absurd (show (0 : Int32) = 0 by rfl) n_⟩ | refine ⟨fun n_ => absurd (show (0 : Int32) = 0 by rfl) n_, fun _ => ?_⟩ | refine ⟨fun y_ => absurd y_ (show (0 : Int32) = 0 by rfl), fun _ => ?_⟩ | refine ⟨fun _ => ?_, fun y_ => absurd y_ (show (0 : Int32) = 0 by rfl)⟩)
    rintro h18 rfl
    refine c_add (h := ah_si h 0 18 1) hs 4 5 _ _ _ k1 k2 k3' (r := 10) (w := 3) (n := A 246) p0 p1 p3 (by rw [show ah_n (ah_si h 0 18 1) 5 = ah_n h 5 from rfl, k4]; rfl) (.inl rfl) (by omega) c5 (by omega) ?_
    have hs1 : Sh (cA (ah_si h 0 18 1) 4 (A 246) a b c) := sh_cA (sh_si hs)
    refine ⟨_, rfl, hs1, ?_⟩
    refine rl_ch hs1 ?_
    have hs2 := sh_chg hs1
    have e84 : ∀ j, ah_i (chg (cA (ah_si h 0 18 1) 4 (A 246) a b c)) 84 j = ah_i h 84 j := fun j => by rw [chg_i (by decide), cA_i (by decide) (by decide), ah_i_sn (by omega)]
    refine T_X12_lamp hs2 _ _ _ ?_
    simp only [qf0, qf1, qf2]
    (first | refine ⟨fun _ => ?_, fun n_ => absurd (c1) n_⟩ | refine ⟨fun n_ => absurd (c1) n_, fun _ => ?_⟩ | refine ⟨fun y_ => absurd y_ (c1), fun _ => ?_⟩ | refine ⟨fun _ => ?_, fun y_ => absurd y_ (c1)⟩)
    (first | refine ⟨fun _ => ?_, fun n_ => absurd (c2) n_⟩ | refine ⟨fun n_ => absurd (c2) n_, fun _ => ?_⟩ | refine ⟨fun y_ => absurd y_ (c2), fun _ => ?_⟩ | refine ⟨fun _ => ?_, fun y_ => absurd y_ (c2)⟩)
    (first | refine ⟨fun _ => ?_, fun n_ => absurd (k3) n_⟩ | refine ⟨fun n_ => absurd (k3) n_, fun _ => ?_⟩ | refine ⟨fun y_ => absurd y_ (k3), fun _ => ?_⟩ | refine ⟨fun _ => ?_, fun y_ => absurd y_ (k3)⟩)
    rw [cl_246, e84, p4]
    (first | refine ⟨fun _ => ?_, fun n_ => absurd (show ¬ nI (A 246) = 10 by rw [n_10, nI_eq (by omega) (by omega)]; omega) n_⟩ | refine ⟨fun n_ => absurd (show ¬ nI (A 246) = 10 by rw [n_10, nI_eq (by omega) (by omega)]; omega) n_, fun _ => ?_⟩ | refine ⟨fun y_ => absurd y_ (show ¬ nI (A 246) = 10 by rw [n_10, nI_eq (by omega) (by omega)]; omega), fun _ => ?_⟩ | refine ⟨fun _ => ?_, fun y_ => absurd y_ (show ¬ nI (A 246) = 10 by rw [n_10, nI_eq (by omega) (by omega)]; omega)⟩)
    have hs3 := sh_mA (b := 60) (m := 246) (n := A 246) (x := a) (y := b) (z := c) hs2
    refine m_comesBehind hs2 _ _ _ _ _ 60 246 (A 246) rfl rfl (by rw [e84, p4]) (by omega) (by omega) ⟨_, rfl, hs3, ?_⟩
    refine rl_go hs3 (by rw [nI_pred]) ?_
    exact inv_told hTX hCC hCM (sh_god hs3) im sc tp dr cc cm (wf_lamp wf c5 ha hb hc1 hc2) (Tn_lamp (x := a) (y := b) (z := c) hTX wf tn c5 (by omega) (by omega) (by omega)) tl_lamp rb_lamp
  · (first | refine ⟨fun _ => ?_, fun n_ => absurd (c4) n_⟩ | refine ⟨fun n_ => absurd (c4) n_, fun _ => ?_⟩ | refine ⟨fun y_ => absurd y_ (c4), fun _ => ?_⟩ | refine ⟨fun _ => ?_, fun y_ => absurd y_ (c4)⟩)
    have k3 : (if c < 1 then (0 : Int32) else if 240 < c then 0 else 1) = 0 := by rw [if_neg c3, if_pos (by grind)]
    (refine rl_rf hs why1 (T_X12_lamp (sh_cRf hs) a b c ?_); try simp only [q_corner, q_kind, q_minute, q_two, q_three, q_ten, qf0, qf1, qf2]; (first | refine ⟨fun _ => ?_, fun n_ => absurd (c1) n_⟩ | refine ⟨fun n_ => absurd (c1) n_, fun _ => ?_⟩ | refine ⟨fun y_ => absurd y_ (c1), fun _ => ?_⟩ | refine ⟨fun _ => ?_, fun y_ => absurd y_ (c1)⟩); (first | refine ⟨fun _ => ?_, fun n_ => absurd (c2) n_⟩ | refine ⟨fun n_ => absurd (c2) n_, fun _ => ?_⟩ | refine ⟨fun y_ => absurd y_ (c2), fun _ => ?_⟩ | refine ⟨fun _ => ?_, fun y_ => absurd y_ (c2)⟩); (first | refine ⟨fun _ => ?_, fun n_ => absurd (k3) n_⟩ | refine ⟨fun n_ => absurd (k3) n_, fun _ => ?_⟩ | refine ⟨fun y_ => absurd y_ (k3), fun _ => ?_⟩ | refine ⟨fun _ => ?_, fun y_ => absurd y_ (k3)⟩); exact rl_mf hTX hCC hCM hI why1)
theorem rel_errand (hTX : TXp TX) (hCC : CCp CC) (hCM : CMp CM) (a b c : Int32) : lw_RC (Inv TX CC CM (n + 1)) (Inv TX CC CM n) mX11_errand mX12_errand [.int a, .int b, .int c] := by
  intro h hI
  have hI' := hI
  obtain ⟨hs, A, B0, B1, d, D, wf, tn, im, sc, tp, dr, cc, cm⟩ := hI'
  refine T_X11_errand hs a b c ?_
  by_cases c1 : f_X11_isIn a 12 = 0
  · (first | refine ⟨fun _ => ?_, fun n_ => absurd (c1) n_⟩ | refine ⟨fun n_ => absurd (c1) n_, fun _ => ?_⟩ | refine ⟨fun y_ => absurd y_ (c1), fun _ => ?_⟩ | refine ⟨fun _ => ?_, fun y_ => absurd y_ (c1)⟩)
    (refine rl_rf hs why1 (T_X12_errand (sh_cRf hs) a b c ?_); try simp only [q_corner, q_kind, q_minute, q_two, q_three, q_ten, qf0, qf1, qf2]; (first | refine ⟨fun _ => ?_, fun n_ => absurd (c1) n_⟩ | refine ⟨fun n_ => absurd (c1) n_, fun _ => ?_⟩ | refine ⟨fun y_ => absurd y_ (c1), fun _ => ?_⟩ | refine ⟨fun _ => ?_, fun y_ => absurd y_ (c1)⟩); exact rl_mf hTX hCC hCM hI why1)
  (first | refine ⟨fun _ => ?_, fun n_ => absurd (c1) n_⟩ | refine ⟨fun n_ => absurd (c1) n_, fun _ => ?_⟩ | refine ⟨fun y_ => absurd y_ (c1), fun _ => ?_⟩ | refine ⟨fun _ => ?_, fun y_ => absurd y_ (c1)⟩)
  by_cases c2 : f_X11_isIn b 120 = 0
  · (first | refine ⟨fun _ => ?_, fun n_ => absurd (c2) n_⟩ | refine ⟨fun n_ => absurd (c2) n_, fun _ => ?_⟩ | refine ⟨fun y_ => absurd y_ (c2), fun _ => ?_⟩ | refine ⟨fun _ => ?_, fun y_ => absurd y_ (c2)⟩)
    (refine rl_rf hs why1 (T_X12_errand (sh_cRf hs) a b c ?_); try simp only [q_corner, q_kind, q_minute, q_two, q_three, q_ten, qf0, qf1, qf2]; (first | refine ⟨fun _ => ?_, fun n_ => absurd (c1) n_⟩ | refine ⟨fun n_ => absurd (c1) n_, fun _ => ?_⟩ | refine ⟨fun y_ => absurd y_ (c1), fun _ => ?_⟩ | refine ⟨fun _ => ?_, fun y_ => absurd y_ (c1)⟩); (first | refine ⟨fun _ => ?_, fun n_ => absurd (c2) n_⟩ | refine ⟨fun n_ => absurd (c2) n_, fun _ => ?_⟩ | refine ⟨fun y_ => absurd y_ (c2), fun _ => ?_⟩ | refine ⟨fun _ => ?_, fun y_ => absurd y_ (c2)⟩); exact rl_mf hTX hCC hCM hI why1)
  (first | refine ⟨fun _ => ?_, fun n_ => absurd (c2) n_⟩ | refine ⟨fun n_ => absurd (c2) n_, fun _ => ?_⟩ | refine ⟨fun y_ => absurd y_ (c2), fun _ => ?_⟩ | refine ⟨fun _ => ?_, fun y_ => absurd y_ (c2)⟩)
  obtain ⟨b, hb, rfl⟩ := q_isn (n := 120) (by decide) c2
  by_cases c3 : f_X11_isIn c 120 = 0
  · (first | refine ⟨fun _ => ?_, fun n_ => absurd (c3) n_⟩ | refine ⟨fun n_ => absurd (c3) n_, fun _ => ?_⟩ | refine ⟨fun y_ => absurd y_ (c3), fun _ => ?_⟩ | refine ⟨fun _ => ?_, fun y_ => absurd y_ (c3)⟩)
    have k3 : f_X12_lies c (nI b) 119 = 0 := by unfold f_X11_isIn at c3; unfold f_X12_lies; grind
    (refine rl_rf hs why1 (T_X12_errand (sh_cRf hs) a _ c ?_); try simp only [q_corner, q_kind, q_minute, q_two, q_three, q_ten, qf0, qf1, qf2]; (first | refine ⟨fun _ => ?_, fun n_ => absurd (c1) n_⟩ | refine ⟨fun n_ => absurd (c1) n_, fun _ => ?_⟩ | refine ⟨fun y_ => absurd y_ (c1), fun _ => ?_⟩ | refine ⟨fun _ => ?_, fun y_ => absurd y_ (c1)⟩); (first | refine ⟨fun _ => ?_, fun n_ => absurd (c2) n_⟩ | refine ⟨fun n_ => absurd (c2) n_, fun _ => ?_⟩ | refine ⟨fun y_ => absurd y_ (c2), fun _ => ?_⟩ | refine ⟨fun _ => ?_, fun y_ => absurd y_ (c2)⟩); (first | refine ⟨fun _ => ?_, fun n_ => absurd (k3) n_⟩ | refine ⟨fun n_ => absurd (k3) n_, fun _ => ?_⟩ | refine ⟨fun y_ => absurd y_ (k3), fun _ => ?_⟩ | refine ⟨fun _ => ?_, fun y_ => absurd y_ (k3)⟩); exact rl_mf hTX hCC hCM hI why1)
  (first | refine ⟨fun _ => ?_, fun n_ => absurd (c3) n_⟩ | refine ⟨fun n_ => absurd (c3) n_, fun _ => ?_⟩ | refine ⟨fun y_ => absurd y_ (c3), fun _ => ?_⟩ | refine ⟨fun _ => ?_, fun y_ => absurd y_ (c3)⟩)
  obtain ⟨c, hc, rfl⟩ := q_isn (n := 120) (by decide) c3
  by_cases c4 : nI b ≤ nI c
  · (first | refine ⟨fun _ => ?_, fun n_ => absurd (c4) n_⟩ | refine ⟨fun n_ => absurd (c4) n_, fun _ => ?_⟩ | refine ⟨fun y_ => absurd y_ (c4), fun _ => ?_⟩ | refine ⟨fun _ => ?_, fun y_ => absurd y_ (c4)⟩)
    have hbc : b ≤ c := (nI_leI (by omega) (by omega)).mp c4
    have k3 : ¬ f_X12_lies (nI c) (nI b) 119 = 0 := by unfold f_X12_lies; grind
    obtain ⟨a, ha, rfl⟩ := q_isn (n := 12) (by decide) c1
    obtain ⟨p0, p1, p3, p4, p5⟩ := cp3_m tn.2.2.2.2.1
    obtain ⟨k1, k2, k3', k4⟩ := tk hs 10 (by omega)
    refine c_full3 hs (by omega) p0 p3 (by omega) p5 (fun c5 => ?_) (fun c5 => ?_)
    · refine ⟨_, rfl, hs, ?_⟩
      (first | refine ⟨fun _ => ?_, fun n_ => absurd (show ¬ (1 : Int32) = 0 by decide) n_⟩ | refine ⟨fun n_ => absurd (show ¬ (1 : Int32) = 0 by decide) n_, fun _ => ?_⟩ | refine ⟨fun y_ => absurd y_ (show ¬ (1 : Int32) = 0 by decide), fun _ => ?_⟩ | refine ⟨fun _ => ?_, fun y_ => absurd y_ (show ¬ (1 : Int32) = 0 by decide)⟩)
      have k5 : ah_i (cRf h (-5) 3) 84 (Int32.toNatClampNeg 249) = 6 := by rw [cl_249, rf_84 (by decide) (by decide), p4, c5]; rfl
      (refine rl_rf hs why5 (T_X12_errand (sh_cRf hs) _ _ _ ?_); try simp only [q_corner, q_kind, q_minute, q_two, q_three, q_ten, qf0, qf1, qf2]; (first | refine ⟨fun _ => ?_, fun n_ => absurd (c1) n_⟩ | refine ⟨fun n_ => absurd (c1) n_, fun _ => ?_⟩ | refine ⟨fun y_ => absurd y_ (c1), fun _ => ?_⟩ | refine ⟨fun _ => ?_, fun y_ => absurd y_ (c1)⟩); (first | refine ⟨fun _ => ?_, fun n_ => absurd (c2) n_⟩ | refine ⟨fun n_ => absurd (c2) n_, fun _ => ?_⟩ | refine ⟨fun y_ => absurd y_ (c2), fun _ => ?_⟩ | refine ⟨fun _ => ?_, fun y_ => absurd y_ (c2)⟩); (first | refine ⟨fun _ => ?_, fun n_ => absurd (k3) n_⟩ | refine ⟨fun n_ => absurd (k3) n_, fun _ => ?_⟩ | refine ⟨fun y_ => absurd y_ (k3), fun _ => ?_⟩ | refine ⟨fun _ => ?_, fun y_ => absurd y_ (k3)⟩); (first | refine ⟨fun _ => ?_, fun n_ => absurd (k5) n_⟩ | refine ⟨fun n_ => absurd (k5) n_, fun _ => ?_⟩ | refine ⟨fun y_ => absurd y_ (k5), fun _ => ?_⟩ | refine ⟨fun _ => ?_, fun y_ => absurd y_ (k5)⟩); exact rl_mf hTX hCC hCM hI why5)
    refine ⟨_, rfl, hs, ?_⟩
    (first | refine ⟨fun _ => ?_, fun n_ => absurd (show (0 : Int32) = 0 by rfl) n_⟩ | refine ⟨fun n_ => absurd (show (0 : Int32) = 0 by rfl) n_, fun _ => ?_⟩ | refine ⟨fun y_ => absurd y_ (show (0 : Int32) = 0 by rfl), fun _ => ?_⟩ | refine ⟨fun _ => ?_, fun y_ => absurd y_ (show (0 : Int32) = 0 by rfl)⟩)
    refine c_add hs 10 11 _ _ _ k1 k2 k3' (r := 6) (w := 3) (n := A 249) p0 p1 p3 (by rw [k4]; rfl) (.inl rfl) (by omega) c5 (by omega) ?_
    have hs1 : Sh (cA h 10 (A 249) a b c) := sh_cA hs
    refine ⟨_, rfl, hs1, ?_⟩
    refine rl_ch hs1 ?_
    have hs2 := sh_chg hs1
    have e84 : ∀ j, ah_i (chg (cA h 10 (A 249) a b c)) 84 j = ah_i h 84 j := fun j => by rw [chg_i (by decide), cA_i (by decide) (by decide)]
    refine T_X12_errand hs2 _ _ _ ?_
    simp only [q_corner, q_minute]
    (first | refine ⟨fun _ => ?_, fun n_ => absurd (c1) n_⟩ | refine ⟨fun n_ => absurd (c1) n_, fun _ => ?_⟩ | refine ⟨fun y_ => absurd y_ (c1), fun _ => ?_⟩ | refine ⟨fun _ => ?_, fun y_ => absurd y_ (c1)⟩)
    (first | refine ⟨fun _ => ?_, fun n_ => absurd (c2) n_⟩ | refine ⟨fun n_ => absurd (c2) n_, fun _ => ?_⟩ | refine ⟨fun y_ => absurd y_ (c2), fun _ => ?_⟩ | refine ⟨fun _ => ?_, fun y_ => absurd y_ (c2)⟩)
    (first | refine ⟨fun _ => ?_, fun n_ => absurd (k3) n_⟩ | refine ⟨fun n_ => absurd (k3) n_, fun _ => ?_⟩ | refine ⟨fun y_ => absurd y_ (k3), fun _ => ?_⟩ | refine ⟨fun _ => ?_, fun y_ => absurd y_ (k3)⟩)
    rw [cl_249, e84, p4]
    (first | refine ⟨fun _ => ?_, fun n_ => absurd (show ¬ nI (A 249) = 6 by rw [n_6, nI_eq (by omega) (by omega)]; omega) n_⟩ | refine ⟨fun n_ => absurd (show ¬ nI (A 249) = 6 by rw [n_6, nI_eq (by omega) (by omega)]; omega) n_, fun _ => ?_⟩ | refine ⟨fun y_ => absurd y_ (show ¬ nI (A 249) = 6 by rw [n_6, nI_eq (by omega) (by omega)]; omega), fun _ => ?_⟩ | refine ⟨fun _ => ?_, fun y_ => absurd y_ (show ¬ nI (A 249) = 6 by rw [n_6, nI_eq (by omega) (by omega)]; omega)⟩)
    have hs3 := sh_mA (b := 200) (m := 249) (n := A 249) (x := a) (y := b) (z := c) hs2
    refine m_comesBehind hs2 _ _ _ _ _ 200 249 (A 249) rfl rfl (by rw [e84, p4]) (by omega) (by omega) ⟨_, rfl, hs3, ?_⟩
    refine rl_go hs3 (by rw [nI_pred]) ?_
    exact inv_told hTX hCC hCM (sh_god hs3) im sc tp dr cc cm (wf_errand wf c5 ha hbc hc) (Tn_errand (x := a) (y := b) (z := c) hTX wf tn c5 (by omega) (by omega) (by omega)) tl_errand (rb_errand c5)
  · (first | refine ⟨fun _ => ?_, fun n_ => absurd (c4) n_⟩ | refine ⟨fun n_ => absurd (c4) n_, fun _ => ?_⟩ | refine ⟨fun y_ => absurd y_ (c4), fun _ => ?_⟩ | refine ⟨fun _ => ?_, fun y_ => absurd y_ (c4)⟩)
    have k3 : f_X12_lies (nI c) (nI b) 119 = 0 := by unfold f_X12_lies; grind
    (refine rl_rf hs why1 (T_X12_errand (sh_cRf hs) a _ _ ?_); try simp only [q_corner, q_kind, q_minute, q_two, q_three, q_ten, qf0, qf1, qf2]; (first | refine ⟨fun _ => ?_, fun n_ => absurd (c1) n_⟩ | refine ⟨fun n_ => absurd (c1) n_, fun _ => ?_⟩ | refine ⟨fun y_ => absurd y_ (c1), fun _ => ?_⟩ | refine ⟨fun _ => ?_, fun y_ => absurd y_ (c1)⟩); (first | refine ⟨fun _ => ?_, fun n_ => absurd (c2) n_⟩ | refine ⟨fun n_ => absurd (c2) n_, fun _ => ?_⟩ | refine ⟨fun y_ => absurd y_ (c2), fun _ => ?_⟩ | refine ⟨fun _ => ?_, fun y_ => absurd y_ (c2)⟩); (first | refine ⟨fun _ => ?_, fun n_ => absurd (k3) n_⟩ | refine ⟨fun n_ => absurd (k3) n_, fun _ => ?_⟩ | refine ⟨fun y_ => absurd y_ (k3), fun _ => ?_⟩ | refine ⟨fun _ => ?_, fun y_ => absurd y_ (k3)⟩); exact rl_mf hTX hCC hCM hI why1)
theorem rel_soot (hTX : TXp TX) (hCC : CCp CC) (hCM : CMp CM) (a b c : Int32) : lw_RC (Inv TX CC CM (n + 1)) (Inv TX CC CM n) mX11_soot mX12_soot [.int a, .int b, .int c] := by
  intro h hI
  have hI' := hI
  obtain ⟨hs, A, B0, B1, d, D, wf, tn, im, sc, tp, dr, cc, cm⟩ := hI'
  refine T_X11_soot hs a b c ?_
  by_cases c1 : f_X11_isIn b 120 = 0
  · (first | refine ⟨fun _ => ?_, fun n_ => absurd (c1) n_⟩ | refine ⟨fun n_ => absurd (c1) n_, fun _ => ?_⟩ | refine ⟨fun y_ => absurd y_ (c1), fun _ => ?_⟩ | refine ⟨fun _ => ?_, fun y_ => absurd y_ (c1)⟩)
    (refine rl_rf hs why1 (T_X12_soot (sh_cRf hs) a b c ?_); try simp only [q_corner, q_kind, q_minute, q_two, q_three, q_ten, qf0, qf1, qf2]; (first | refine ⟨fun _ => ?_, fun n_ => absurd (c1) n_⟩ | refine ⟨fun n_ => absurd (c1) n_, fun _ => ?_⟩ | refine ⟨fun y_ => absurd y_ (c1), fun _ => ?_⟩ | refine ⟨fun _ => ?_, fun y_ => absurd y_ (c1)⟩); exact rl_mf hTX hCC hCM hI why1)
  (first | refine ⟨fun _ => ?_, fun n_ => absurd (c1) n_⟩ | refine ⟨fun n_ => absurd (c1) n_, fun _ => ?_⟩ | refine ⟨fun y_ => absurd y_ (c1), fun _ => ?_⟩ | refine ⟨fun _ => ?_, fun y_ => absurd y_ (c1)⟩)
  by_cases c2 : f_X11_isIn c 2 = 0
  · (first | refine ⟨fun _ => ?_, fun n_ => absurd (c2) n_⟩ | refine ⟨fun n_ => absurd (c2) n_, fun _ => ?_⟩ | refine ⟨fun y_ => absurd y_ (c2), fun _ => ?_⟩ | refine ⟨fun _ => ?_, fun y_ => absurd y_ (c2)⟩)
    (refine rl_rf hs why1 (T_X12_soot (sh_cRf hs) a b c ?_); try simp only [q_corner, q_kind, q_minute, q_two, q_three, q_ten, qf0, qf1, qf2]; (first | refine ⟨fun _ => ?_, fun n_ => absurd (c1) n_⟩ | refine ⟨fun n_ => absurd (c1) n_, fun _ => ?_⟩ | refine ⟨fun y_ => absurd y_ (c1), fun _ => ?_⟩ | refine ⟨fun _ => ?_, fun y_ => absurd y_ (c1)⟩); (first | refine ⟨fun _ => ?_, fun n_ => absurd (c2) n_⟩ | refine ⟨fun n_ => absurd (c2) n_, fun _ => ?_⟩ | refine ⟨fun y_ => absurd y_ (c2), fun _ => ?_⟩ | refine ⟨fun _ => ?_, fun y_ => absurd y_ (c2)⟩); exact rl_mf hTX hCC hCM hI why1)
  (first | refine ⟨fun _ => ?_, fun n_ => absurd (c2) n_⟩ | refine ⟨fun n_ => absurd (c2) n_, fun _ => ?_⟩ | refine ⟨fun y_ => absurd y_ (c2), fun _ => ?_⟩ | refine ⟨fun _ => ?_, fun y_ => absurd y_ (c2)⟩)
  obtain ⟨b, hb, rfl⟩ := q_isn (n := 120) (by decide) c1
  obtain ⟨c, hc, rfl⟩ := q_isn (n := 2) (by decide) c2
  obtain ⟨l0, l1, l3, l4, l5⟩ := cp3_m tn.2.1
  obtain ⟨p0, p1, p3, p4, p5⟩ := cp3_m tn.2.2.2.2.2.1
  have isl : ∀ h', (∀ j, ah_i h' 84 j = ah_i h 84 j) → f_X12_isLamp h' a = if 0 ≤ a ∧ a < nI (A 246) then 1 else 0 := fun h' e => by unfold f_X12_isLamp; rw [cl_246, e, l4, q_has (by omega)]
  refine c_has3 hs (.inr (.inl rfl)) l3 (by omega) (fun l hl el => ?_) (fun c3 => ?_)
  · refine ⟨_, rfl, hs, ?_⟩
    (first | refine ⟨fun _ => ?_, fun n_ => absurd (show ¬ (1 : Int32) = 0 by decide) n_⟩ | refine ⟨fun n_ => absurd (show ¬ (1 : Int32) = 0 by decide) n_, fun _ => ?_⟩ | refine ⟨fun y_ => absurd y_ (show ¬ (1 : Int32) = 0 by decide), fun _ => ?_⟩ | refine ⟨fun _ => ?_, fun y_ => absurd y_ (show ¬ (1 : Int32) = 0 by decide)⟩)
    have hin : 0 ≤ a ∧ a < nI (A 246) := by subst el; grind
    have isl1 : ∀ h', (∀ j, ah_i h' 84 j = ah_i h 84 j) → ¬ f_X12_isLamp h' a = 0 := fun h' e => by rw [isl h' e, if_pos hin]; decide
    obtain ⟨k1, k2, k3', k4⟩ := tk hs 12 (by omega)
    refine c_full3 hs (by omega) p0 p3 (by omega) p5 (fun c5 => ?_) (fun c5 => ?_)
    · refine ⟨_, rfl, hs, ?_⟩
      (first | refine ⟨fun _ => ?_, fun n_ => absurd (show ¬ (1 : Int32) = 0 by decide) n_⟩ | refine ⟨fun n_ => absurd (show ¬ (1 : Int32) = 0 by decide) n_, fun _ => ?_⟩ | refine ⟨fun y_ => absurd y_ (show ¬ (1 : Int32) = 0 by decide), fun _ => ?_⟩ | refine ⟨fun _ => ?_, fun y_ => absurd y_ (show ¬ (1 : Int32) = 0 by decide)⟩)
      have k5 : ah_i (cRf h (-5) 3) 84 (Int32.toNatClampNeg 250) = 8 := by rw [cl_250, rf_84 (by decide) (by decide), p4, c5]; rfl
      have k4 := isl1 (cRf h (-5) 3) (fun j => rf_84 (by decide) (by decide))
      (refine rl_rf hs why5 (T_X12_soot (sh_cRf hs) _ _ _ ?_); try simp only [q_corner, q_kind, q_minute, q_two, q_three, q_ten, qf0, qf1, qf2]; (first | refine ⟨fun _ => ?_, fun n_ => absurd (c1) n_⟩ | refine ⟨fun n_ => absurd (c1) n_, fun _ => ?_⟩ | refine ⟨fun y_ => absurd y_ (c1), fun _ => ?_⟩ | refine ⟨fun _ => ?_, fun y_ => absurd y_ (c1)⟩); (first | refine ⟨fun _ => ?_, fun n_ => absurd (c2) n_⟩ | refine ⟨fun n_ => absurd (c2) n_, fun _ => ?_⟩ | refine ⟨fun y_ => absurd y_ (c2), fun _ => ?_⟩ | refine ⟨fun _ => ?_, fun y_ => absurd y_ (c2)⟩); (first | refine ⟨fun _ => ?_, fun n_ => absurd (k4) n_⟩ | refine ⟨fun n_ => absurd (k4) n_, fun _ => ?_⟩ | refine ⟨fun y_ => absurd y_ (k4), fun _ => ?_⟩ | refine ⟨fun _ => ?_, fun y_ => absurd y_ (k4)⟩); (first | refine ⟨fun _ => ?_, fun n_ => absurd (k5) n_⟩ | refine ⟨fun n_ => absurd (k5) n_, fun _ => ?_⟩ | refine ⟨fun y_ => absurd y_ (k5), fun _ => ?_⟩ | refine ⟨fun _ => ?_, fun y_ => absurd y_ (k5)⟩); exact rl_mf hTX hCC hCM hI why5)
    refine ⟨_, rfl, hs, ?_⟩
    (first | refine ⟨fun _ => ?_, fun n_ => absurd (show (0 : Int32) = 0 by rfl) n_⟩ | refine ⟨fun n_ => absurd (show (0 : Int32) = 0 by rfl) n_, fun _ => ?_⟩ | refine ⟨fun y_ => absurd y_ (show (0 : Int32) = 0 by rfl), fun _ => ?_⟩ | refine ⟨fun _ => ?_, fun y_ => absurd y_ (show (0 : Int32) = 0 by rfl)⟩)
    subst el
    refine c_add hs 12 13 _ _ _ k1 k2 k3' (r := 8) (w := 3) (n := A 250) p0 p1 p3 (by rw [k4]; rfl) (.inl rfl) (by omega) c5 (by omega) ?_
    have hs1 : Sh (cA h 12 (A 250) l b c) := sh_cA hs
    refine ⟨_, rfl, hs1, ?_⟩
    refine rl_ch hs1 ?_
    have hs2 := sh_chg hs1
    have e84 : ∀ j, ah_i (chg (cA h 12 (A 250) l b c)) 84 j = ah_i h 84 j := fun j => by rw [chg_i (by decide), cA_i (by decide) (by decide)]
    refine T_X12_soot hs2 _ _ _ ?_
    simp only [q_two, q_minute]
    (first | refine ⟨fun _ => ?_, fun n_ => absurd (c1) n_⟩ | refine ⟨fun n_ => absurd (c1) n_, fun _ => ?_⟩ | refine ⟨fun y_ => absurd y_ (c1), fun _ => ?_⟩ | refine ⟨fun _ => ?_, fun y_ => absurd y_ (c1)⟩)
    (first | refine ⟨fun _ => ?_, fun n_ => absurd (c2) n_⟩ | refine ⟨fun n_ => absurd (c2) n_, fun _ => ?_⟩ | refine ⟨fun y_ => absurd y_ (c2), fun _ => ?_⟩ | refine ⟨fun _ => ?_, fun y_ => absurd y_ (c2)⟩)
    (first | refine ⟨fun _ => ?_, fun n_ => absurd (isl1 _ e84) n_⟩ | refine ⟨fun n_ => absurd (isl1 _ e84) n_, fun _ => ?_⟩ | refine ⟨fun y_ => absurd y_ (isl1 _ e84), fun _ => ?_⟩ | refine ⟨fun _ => ?_, fun y_ => absurd y_ (isl1 _ e84)⟩)
    rw [cl_250, e84, p4]
    (first | refine ⟨fun _ => ?_, fun n_ => absurd (show ¬ nI (A 250) = 8 by rw [n_8, nI_eq (by omega) (by omega)]; omega) n_⟩ | refine ⟨fun n_ => absurd (show ¬ nI (A 250) = 8 by rw [n_8, nI_eq (by omega) (by omega)]; omega) n_, fun _ => ?_⟩ | refine ⟨fun y_ => absurd y_ (show ¬ nI (A 250) = 8 by rw [n_8, nI_eq (by omega) (by omega)]; omega), fun _ => ?_⟩ | refine ⟨fun _ => ?_, fun y_ => absurd y_ (show ¬ nI (A 250) = 8 by rw [n_8, nI_eq (by omega) (by omega)]; omega)⟩)
    have hs3 := sh_mA (b := 218) (m := 250) (n := A 250) (x := l) (y := b) (z := c) hs2
    refine m_comesBehind hs2 _ _ _ _ _ 218 250 (A 250) rfl rfl (by rw [e84, p4]) (by omega) (by omega) ⟨_, rfl, hs3, ?_⟩
    refine rl_go hs3 (by rw [nI_1]) ?_
    exact inv_told hTX hCC hCM (sh_god hs3) im sc tp dr cc cm (wf_soot wf c5 hl hb (by omega)) (Tn_soot (x := l) (y := b) (z := c) hTX wf tn c5 (by omega) (by omega) (by omega)) tl_soot (rb_soot c5)
  · refine ⟨_, rfl, hs, ?_⟩
    (first | refine ⟨fun _ => ?_, fun n_ => absurd (show (0 : Int32) = 0 by rfl) n_⟩ | refine ⟨fun n_ => absurd (show (0 : Int32) = 0 by rfl) n_, fun _ => ?_⟩ | refine ⟨fun y_ => absurd y_ (show (0 : Int32) = 0 by rfl), fun _ => ?_⟩ | refine ⟨fun _ => ?_, fun y_ => absurd y_ (show (0 : Int32) = 0 by rfl)⟩)
    have k4 : f_X12_isLamp (cRf h (-2) 1) a = 0 := by rw [isl _ (fun j => rf_84 (by decide) (by decide)), if_neg c3]
    (refine rl_rf hs why2 (T_X12_soot (sh_cRf hs) _ _ _ ?_); try simp only [q_corner, q_kind, q_minute, q_two, q_three, q_ten, qf0, qf1, qf2]; (first | refine ⟨fun _ => ?_, fun n_ => absurd (c1) n_⟩ | refine ⟨fun n_ => absurd (c1) n_, fun _ => ?_⟩ | refine ⟨fun y_ => absurd y_ (c1), fun _ => ?_⟩ | refine ⟨fun _ => ?_, fun y_ => absurd y_ (c1)⟩); (first | refine ⟨fun _ => ?_, fun n_ => absurd (c2) n_⟩ | refine ⟨fun n_ => absurd (c2) n_, fun _ => ?_⟩ | refine ⟨fun y_ => absurd y_ (c2), fun _ => ?_⟩ | refine ⟨fun _ => ?_, fun y_ => absurd y_ (c2)⟩); (first | refine ⟨fun _ => ?_, fun n_ => absurd (k4) n_⟩ | refine ⟨fun n_ => absurd (k4) n_, fun _ => ?_⟩ | refine ⟨fun y_ => absurd y_ (k4), fun _ => ?_⟩ | refine ⟨fun _ => ?_, fun y_ => absurd y_ (k4)⟩); exact rl_mf hTX hCC hCM hI why2)
theorem rel_turn (hTX : TXp TX) (hCC : CCp CC) (hCM : CMp CM) (a b c : Int32) : lw_RC (Inv TX CC CM (n + 1)) (Inv TX CC CM n) mX11_turn mX12_turn [.int a, .int b, .int c] := by
  intro h hI
  have hI' := hI
  obtain ⟨hs, A, B0, B1, d, D, wf, tn, im, sc, tp, dr, cc, cm⟩ := hI'
  obtain ⟨l0, l1, l3, l4, l5⟩ := cp3_m tn.2.1
  obtain ⟨p0, p1, p3, p4, p5⟩ := cp3_m tn.2.2.1
  refine T_X11_turn hs a b c ?_
  have g4 : ∀ x p, ah_i (cRf h x p) 84 246 = nI (A 246) := fun x p => by rw [rf_84 (by decide) (by decide), l4]
  have g6 : ∀ x p, ah_i (cRf h x p) 84 247 = nI (A 247) := fun x p => by rw [rf_84 (by decide) (by decide), p4]
  refine c_tell hs l3 l5 p0 p1 p3 p5 a b c (fun k => ⟨_, rfl, hs, ?_⟩) (fun n1 n2 k => ⟨_, rfl, hs, ?_⟩) (fun l m o hl hm ho e1 e2 e3 k => ⟨_, rfl, hs, ?_⟩) (fun l m o hl hm ho e1 e2 e3 k => ?_)
  · (first | refine ⟨fun _ => ?_, fun n_ => absurd (show ¬ (-1 : Int32) = 0 by decide) n_⟩ | refine ⟨fun n_ => absurd (show ¬ (-1 : Int32) = 0 by decide) n_, fun _ => ?_⟩ | refine ⟨fun y_ => absurd y_ (show ¬ (-1 : Int32) = 0 by decide), fun _ => ?_⟩ | refine ⟨fun _ => ?_, fun y_ => absurd y_ (show ¬ (-1 : Int32) = 0 by decide)⟩)
    refine rl_rf hs why1 (T_X12_turn (sh_cRf hs) a b c (m_tells (sh_cRf hs) (g4 _ _) l5 (g6 _ _) p5 a b c (fun _ => ⟨_, rfl, sh_cRf hs, ?_⟩) (fun n1 n2 _ => absurd k (tl_no n1 n2)) (fun l m o hl hm ho e1 e2 e3 _ => absurd k (tl_ok hm ho e2 e3)) (fun l m o hl hm ho e1 e2 e3 _ => absurd k (tl_ok hm ho e2 e3))))
    (first | refine ⟨fun _ => ?_, fun n_ => absurd (show ¬ (0 : Int32) ≤ -1 by decide) n_⟩ | refine ⟨fun n_ => absurd (show ¬ (0 : Int32) ≤ -1 by decide) n_, fun _ => ?_⟩ | refine ⟨fun y_ => absurd y_ (show ¬ (0 : Int32) ≤ -1 by decide), fun _ => ?_⟩ | refine ⟨fun _ => ?_, fun y_ => absurd y_ (show ¬ (0 : Int32) ≤ -1 by decide)⟩)
    exact rl_mf hTX hCC hCM hI why1
  · (first | refine ⟨fun _ => ?_, fun n_ => absurd (show ¬ (-2 : Int32) = 0 by decide) n_⟩ | refine ⟨fun n_ => absurd (show ¬ (-2 : Int32) = 0 by decide) n_, fun _ => ?_⟩ | refine ⟨fun y_ => absurd y_ (show ¬ (-2 : Int32) = 0 by decide), fun _ => ?_⟩ | refine ⟨fun _ => ?_, fun y_ => absurd y_ (show ¬ (-2 : Int32) = 0 by decide)⟩)
    refine rl_rf hs why2 (T_X12_turn (sh_cRf hs) a b c (m_tells (sh_cRf hs) (g4 _ _) l5 (g6 _ _) p5 a b c (fun q => absurd q (tl_no n1 n2)) (fun _ _ _ => ⟨_, rfl, sh_cRf hs, ?_⟩) (fun l m o hl hm ho e1 e2 e3 _ => absurd (by subst e1; grind) k) (fun l m o hl hm ho e1 e2 e3 _ => absurd (by subst e1; grind) k)))
    (first | refine ⟨fun _ => ?_, fun n_ => absurd (show ¬ (0 : Int32) ≤ -2 by decide) n_⟩ | refine ⟨fun n_ => absurd (show ¬ (0 : Int32) ≤ -2 by decide) n_, fun _ => ?_⟩ | refine ⟨fun y_ => absurd y_ (show ¬ (0 : Int32) ≤ -2 by decide), fun _ => ?_⟩ | refine ⟨fun _ => ?_, fun y_ => absurd y_ (show ¬ (0 : Int32) ≤ -2 by decide)⟩)
    exact rl_mf hTX hCC hCM hI why2
  · (first | refine ⟨fun _ => ?_, fun n_ => absurd (show ¬ (-5 : Int32) = 0 by decide) n_⟩ | refine ⟨fun n_ => absurd (show ¬ (-5 : Int32) = 0 by decide) n_, fun _ => ?_⟩ | refine ⟨fun y_ => absurd y_ (show ¬ (-5 : Int32) = 0 by decide), fun _ => ?_⟩ | refine ⟨fun _ => ?_, fun y_ => absurd y_ (show ¬ (-5 : Int32) = 0 by decide)⟩)
    refine rl_rf hs why5 (T_X12_turn (sh_cRf hs) a b c (m_tells (sh_cRf hs) (g4 _ _) l5 (g6 _ _) p5 a b c (fun q => absurd q (tl_ok hm ho e2 e3)) (fun _ _ q => absurd (by subst e1; grind) q) (fun _ _ _ _ _ _ _ _ _ _ => ⟨_, rfl, sh_cRf hs, ?_⟩) (fun _ _ _ _ _ _ _ _ _ q => by omega)))
    (first | refine ⟨fun _ => ?_, fun n_ => absurd (show ¬ (0 : Int32) ≤ -5 by decide) n_⟩ | refine ⟨fun n_ => absurd (show ¬ (0 : Int32) ≤ -5 by decide) n_, fun _ => ?_⟩ | refine ⟨fun y_ => absurd y_ (show ¬ (0 : Int32) ≤ -5 by decide), fun _ => ?_⟩ | refine ⟨fun _ => ?_, fun y_ => absurd y_ (show ¬ (0 : Int32) ≤ -5 by decide)⟩)
    exact rl_mf hTX hCC hCM hI why5
  · have hs1 : Sh (cA h 6 (A 247) l m o) := sh_cA hs
    refine ⟨_, rfl, hs1, ?_⟩
    (first | refine ⟨fun _ => ?_, fun n_ => absurd (show (0 : Int32) = 0 by rfl) n_⟩ | refine ⟨fun n_ => absurd (show (0 : Int32) = 0 by rfl) n_, fun _ => ?_⟩ | refine ⟨fun y_ => absurd y_ (show (0 : Int32) = 0 by rfl), fun _ => ?_⟩ | refine ⟨fun _ => ?_, fun y_ => absurd y_ (show (0 : Int32) = 0 by rfl)⟩)
    refine rl_ch hs1 ?_
    have hs2 := sh_chg hs1
    have e84 : ∀ j, ah_i (chg (cA h 6 (A 247) l m o)) 84 j = ah_i h 84 j := fun j => by rw [chg_i (by decide), cA_i (by decide) (by decide)]
    refine T_X12_turn hs2 a b c (m_tells hs2 (by rw [e84, l4]) l5 (by rw [e84, p4]) p5 a b c (fun q => absurd q (tl_ok hm ho e2 e3)) (fun _ _ q => absurd (by subst e1; grind) q) (fun _ _ _ _ _ _ _ _ _ q => by omega) (fun l' m' o' hl' hm' ho' e1' e2' e3' _ => ?_))
    have el : l' = l := by rw [e1, nI_eq (by omega) (by omega)] at e1'; omega
    have em : m' = m := by rw [e2, nI_eq (by omega) (by omega)] at e2'; omega
    have eo : o' = o := by rw [e3, nI_eq (by omega) (by omega)] at e3'; omega
    subst el em eo
    have hs3 := sh_mA (b := 90) (m := 247) (n := A 247) (x := l') (y := m') (z := o') hs2
    refine ⟨_, rfl, hs3, ?_⟩
    (first | refine ⟨fun _ => ?_, fun n_ => absurd (show (0 : Int32) ≤ 0 by decide) n_⟩ | refine ⟨fun n_ => absurd (show (0 : Int32) ≤ 0 by decide) n_, fun _ => ?_⟩ | refine ⟨fun y_ => absurd y_ (show (0 : Int32) ≤ 0 by decide), fun _ => ?_⟩ | refine ⟨fun _ => ?_, fun y_ => absurd y_ (show (0 : Int32) ≤ 0 by decide)⟩)
    refine rl_go hs3 ?_ ?_
    · rw [cl_247, mA_i, if_pos rfl, cA_t, if_pos rfl]
    · exact inv_told hTX hCC hCM (sh_god hs3) im sc tp dr cc cm (wf_switch wf k hl hm (by omega)) (Tn_switch (x := l') (y := m') (z := o') hTX wf tn k (by omega) (by omega) (by omega)) tl_switch (rb_switch k)
end RW
