/-! ===== the model's minute to its end ===== -/
section MM2
variable {A : Nat → Nat} {N : Nd} {h g h1 : ah_T} {S : Ns}
theorem m_tail {Q : Option Value → ah_T → Prop} {u : ah_T} (hs : Sh u) {m x o P : Nat} {lt gg : Bool} (hx : x < 10) (hP : P < 1200) (e9 : ah_i u 109 P = bI lt) (e6 : ah_i u 106 x = bI gg) (e2 : ah_i u 102 x = nI o) (ho : o ≤ 240)
    (nx : ∀ w, Sh w → ah_x w = ah_x u → (∀ a, a ≠ 82 → a ≠ 104 → a ≠ 105 → a ≠ 110 → eqc u w a) → (∀ j, j ≠ 47 → j ≠ 48 → ah_i w 82 j = ah_i u 82 j) → ah_i w 82 47 = ah_i u 82 47 + bI lt → ah_i w 82 48 = ah_i u 82 48 + bI gg → (∀ j, ah_i w 104 j = if j = x ∧ gg = true then nI m else ah_i u 104 j) → (∀ j, ah_i w 105 j = if j = x then bI (lt && decide (0 < o)) else ah_i u 105 j) → (∀ j, ah_i w 110 j = if j = P then nI o else ah_i u 110 j) → Wp mX12_minuteOf Q 0 0 187 [some (.ref 82), some (.int (nI m)), some (.int (nI (x + 1))), none] [] w) : Wp mX12_minuteOf Q 0 0 282 [some (.ref 82), some (.int (nI m)), some (.int (nI x)), some (.int (nI P))] [] u := by
  have vx : vp_in (nI x) 10 := (vp_nI (by omega)).mpr hx
  have vP : vp_in (nI P) 1200 := (vp_nI (by omega)).mpr hP
  have ef : ∀ (v w1 w2 w3 w4 : ah_T) (b lt' gg' : Bool), Sh v → ah_x v = ah_x u → (∀ a, a ≠ 104 → eqc u v a) → (∀ j, ah_i v 104 j = if j = x ∧ gg = true then nI m else ah_i u 104 j) → (lt' = lt ∧ gg' = gg ∧ b = (lt && decide (0 < o))) → w1 = ah_si v 105 x (bI b) → w2 = ah_si w1 110 P (nI o) → w3 = ah_si w2 82 47 (ah_i w2 82 47 + bI lt') → w4 = ah_si w3 82 48 (ah_i w3 82 48 + bI gg') → Wp mX12_minuteOf Q 0 0 187 [some (.ref 82), some (.int (nI m)), some (.int (nI (x + 1))), none] [] w4 := by
    rintro v w1 w2 w3 w4 b lt' gg' sv xv ev e4 ⟨rfl, rfl, eb⟩ q1 q2 q3 q4
    have b47 : ah_i w2 82 47 = ah_i u 82 47 := by rw [q2, ah_i_sn (by omega), q1, ah_i_sn (by omega)]; exact (ev 82 (by decide)).1 47
    have b48 : ah_i w3 82 48 = ah_i u 82 48 := by rw [q3, ah_i_sn (by omega), q2, ah_i_sn (by omega), q1, ah_i_sn (by omega)]; exact (ev 82 (by decide)).1 48
    rw [b48] at q4
    rw [b47] at q3
    refine nx w4 ?_ ?_ (fun a n1 n2 n3 n4 => ?_) (fun j n1 n2 => ?_) ?_ ?_ (fun j => ?_) (fun j => ?_) (fun j => ?_)
    · rw [q4, q3, q2, q1]; exact sh_si (sh_si (sh_si (sh_si sv)))
    · rw [q4, q3, q2, q1, ah_x_si, ah_x_si, ah_x_si, ah_x_si]; exact xv
    · rw [q4, q3, q2, q1]; exact eqc_si (eqc_si (eqc_si (eqc_si (ev a n2) n3) n4) n1) n1
    · rw [q4, ah_i_sn (by omega), q3, ah_i_sn (by omega), q2, ah_i_sn (by omega), q1, ah_i_sn (by omega)]; exact (ev 82 (by decide)).1 j
    · rw [q4, ah_i_sn (by omega), q3, ah_i_ss]
    · rw [q4, ah_i_ss]
    · rw [q4, ah_i_sn (by omega), q3, ah_i_sn (by omega), q2, ah_i_sn (by omega), q1, ah_i_sn (by omega)]; exact e4 j
    · rw [q4, ah_i_sn (by omega), q3, ah_i_sn (by omega), q2, ah_i_sn (by omega), q1, ah_i_si, eb]
      by_cases z : j = x
      · rw [if_pos ⟨rfl, z⟩, if_pos z]
      · rw [if_neg (fun y => z y.2), if_neg z]; exact (ev 105 (by decide)).1 j
    · rw [q4, ah_i_sn (by omega), q3, ah_i_sn (by omega), q2, ah_i_si]
      by_cases z : j = P
      · rw [if_pos ⟨rfl, z⟩, if_pos z]
      · rw [if_neg (fun y => z y.2), if_neg z, q1, ah_i_sn (by omega)]; exact (ev 110 (by decide)).1 j
  have t298 : ∀ v, Sh v → ah_x v = ah_x u → (∀ a, a ≠ 104 → eqc u v a) → (∀ j, ah_i v 104 j = if j = x ∧ gg = true then nI m else ah_i u 104 j) → Wp mX12_minuteOf Q 0 0 298 [some (.ref 82), some (.int (nI m)), some (.int (nI x)), some (.int (nI P))] [] v := by
    intro v sv xv ev e4
    have v9 : ah_i v 109 P = bI lt := ((ev 109 (by decide)).1 P).trans e9
    have v6 : ah_i v 106 x = bI gg := ((ev 106 (by decide)).1 x).trans e6
    have v2 : ah_i v 102 x = nI o := ((ev 102 (by decide)).1 x).trans e2
    refine T_X12_minuteOf_298 sv _ _ _ ?_
    rw [nI_1, nI_clamp (show P < 2 ^ 31 by omega), nI_clamp (show x < 2 ^ 31 by omega), v9, v2, sh_n sv 109 1200 (by decide) (by decide) rfl, sh_n sv 102 10 (by decide) (by decide) rfl, sh_n sv 105 10 (by decide) (by decide) rfl, nar0', nar1']
    refine ⟨vP, ?_⟩
    cases el : lt
    · subst el
      (first | refine ⟨fun _ => ?_, fun n_ => absurd (show bI false = 0 from rfl) n_⟩ | refine ⟨fun n_ => absurd (show bI false = 0 from rfl) n_, fun _ => ?_⟩ | refine ⟨fun y_ => absurd y_ (show bI false = 0 from rfl), fun _ => ?_⟩ | refine ⟨fun _ => ?_, fun y_ => absurd y_ (show bI false = 0 from rfl)⟩)
      refine ⟨vx, ?_⟩
      intro w1 q1
      have s1 : Sh w1 := by rw [q1]; exact sh_si sv
      have a1 : ∀ a, a ≠ 105 → ∀ j, ah_i w1 a j = ah_i v a j := fun a n j => by rw [q1]; exact ah_i_sn (fun y => n y.1)
      rw [a1 102 (by decide), v2, sh_n s1 102 10 (by decide) (by decide) rfl, sh_n s1 110 1200 (by decide) (by decide) rfl]
      refine ⟨vx, vP, ?_⟩
      intro w2 q2
      have s2 : Sh w2 := by rw [q2]; exact sh_si s1
      have a2 : ∀ a, a ≠ 105 → a ≠ 110 → ∀ j, ah_i w2 a j = ah_i v a j := fun a n n2 j => by rw [q2, ah_i_sn (fun y => n2 y.1)]; exact a1 a n j
      rw [a2 109 (by decide) (by decide), v9, sh_n s2 109 1200 (by decide) (by decide) rfl]
      refine ⟨vP, ?_⟩
      (first | refine ⟨fun _ => ?_, fun n_ => absurd (show bI false = 0 from rfl) n_⟩ | refine ⟨fun n_ => absurd (show bI false = 0 from rfl) n_, fun _ => ?_⟩ | refine ⟨fun y_ => absurd y_ (show bI false = 0 from rfl), fun _ => ?_⟩ | refine ⟨fun _ => ?_, fun y_ => absurd y_ (show bI false = 0 from rfl)⟩)
      intro w3 q3
      have s3 : Sh w3 := by rw [q3]; exact sh_si s2
      have a3 : ah_i w3 106 x = bI gg := by rw [q3, ah_i_sn (by omega), a2 106 (by decide) (by decide)]; exact v6
      rw [a3, sh_n s3 106 10 (by decide) (by decide) rfl, bI_0]
      refine ⟨vx, fun z => ?_, fun z => ?_⟩
      · intro w4 q4
        exact ef v w1 w2 w3 w4 false false gg sv xv ev e4 ⟨rfl, rfl, (Bool.false_and _).symm⟩ q1 q2 q3 (by rw [z]; exact q4)
      · intro w4 q4
        have z' : gg = true := by cases e : gg; exact absurd e z; rfl
        exact ef v w1 w2 w3 w4 false false gg sv xv ev e4 ⟨rfl, rfl, (Bool.false_and _).symm⟩ q1 q2 q3 (by rw [z']; exact q4)
    · subst el
      (first | refine ⟨fun _ => ?_, fun n_ => absurd (show ¬ bI true = 0 by decide) n_⟩ | refine ⟨fun n_ => absurd (show ¬ bI true = 0 by decide) n_, fun _ => ?_⟩ | refine ⟨fun y_ => absurd y_ (show ¬ bI true = 0 by decide), fun _ => ?_⟩ | refine ⟨fun _ => ?_, fun y_ => absurd y_ (show ¬ bI true = 0 by decide)⟩)
      refine ⟨vx, ?_⟩
      rcases Nat.eq_zero_or_pos o with zo | zo
      · subst zo
        (first | refine ⟨fun _ => ?_, fun n_ => absurd (show nI 0 ≤ 0 by decide) n_⟩ | refine ⟨fun n_ => absurd (show nI 0 ≤ 0 by decide) n_, fun _ => ?_⟩ | refine ⟨fun y_ => absurd y_ (show nI 0 ≤ 0 by decide), fun _ => ?_⟩ | refine ⟨fun _ => ?_, fun y_ => absurd y_ (show nI 0 ≤ 0 by decide)⟩)
        refine ⟨vx, ?_⟩
        intro w1 q1
        have s1 : Sh w1 := by rw [q1]; exact sh_si sv
        have a1 : ∀ a, a ≠ 105 → ∀ j, ah_i w1 a j = ah_i v a j := fun a n j => by rw [q1]; exact ah_i_sn (fun y => n y.1)
        rw [a1 102 (by decide), v2, sh_n s1 102 10 (by decide) (by decide) rfl, sh_n s1 110 1200 (by decide) (by decide) rfl]
        refine ⟨vx, vP, ?_⟩
        intro w2 q2
        have s2 : Sh w2 := by rw [q2]; exact sh_si s1
        have a2 : ∀ a, a ≠ 105 → a ≠ 110 → ∀ j, ah_i w2 a j = ah_i v a j := fun a n n2 j => by rw [q2, ah_i_sn (fun y => n2 y.1)]; exact a1 a n j
        rw [a2 109 (by decide) (by decide), v9, sh_n s2 109 1200 (by decide) (by decide) rfl]
        refine ⟨vP, ?_⟩
        (first | refine ⟨fun _ => ?_, fun n_ => absurd (show ¬ bI true = 0 by decide) n_⟩ | refine ⟨fun n_ => absurd (show ¬ bI true = 0 by decide) n_, fun _ => ?_⟩ | refine ⟨fun y_ => absurd y_ (show ¬ bI true = 0 by decide), fun _ => ?_⟩ | refine ⟨fun _ => ?_, fun y_ => absurd y_ (show ¬ bI true = 0 by decide)⟩)
        intro w3 q3
        have s3 : Sh w3 := by rw [q3]; exact sh_si s2
        have a3 : ah_i w3 106 x = bI gg := by rw [q3, ah_i_sn (by omega), a2 106 (by decide) (by decide)]; exact v6
        rw [a3, sh_n s3 106 10 (by decide) (by decide) rfl, bI_0]
        refine ⟨vx, fun z => ?_, fun z => ?_⟩
        · intro w4 q4
          exact ef v w1 w2 w3 w4 false true gg sv xv ev e4 ⟨rfl, rfl, rfl⟩ q1 q2 q3 (by rw [z]; exact q4)
        · intro w4 q4
          have z' : gg = true := by cases e : gg; exact absurd e z; rfl
          exact ef v w1 w2 w3 w4 false true gg sv xv ev e4 ⟨rfl, rfl, rfl⟩ q1 q2 q3 (by rw [z']; exact q4)
      · (first | refine ⟨fun _ => ?_, fun n_ => absurd (show ¬ nI o ≤ 0 from nI_ge (b := o) zo (by omega)) n_⟩ | refine ⟨fun n_ => absurd (show ¬ nI o ≤ 0 from nI_ge (b := o) zo (by omega)) n_, fun _ => ?_⟩ | refine ⟨fun y_ => absurd y_ (show ¬ nI o ≤ 0 from nI_ge (b := o) zo (by omega)), fun _ => ?_⟩ | refine ⟨fun _ => ?_, fun y_ => absurd y_ (show ¬ nI o ≤ 0 from nI_ge (b := o) zo (by omega))⟩)
        refine ⟨vx, ?_⟩
        intro w1 q1
        have s1 : Sh w1 := by rw [q1]; exact sh_si sv
        have a1 : ∀ a, a ≠ 105 → ∀ j, ah_i w1 a j = ah_i v a j := fun a n j => by rw [q1]; exact ah_i_sn (fun y => n y.1)
        rw [a1 102 (by decide), v2, sh_n s1 102 10 (by decide) (by decide) rfl, sh_n s1 110 1200 (by decide) (by decide) rfl]
        refine ⟨vx, vP, ?_⟩
        intro w2 q2
        have s2 : Sh w2 := by rw [q2]; exact sh_si s1
        have a2 : ∀ a, a ≠ 105 → a ≠ 110 → ∀ j, ah_i w2 a j = ah_i v a j := fun a n n2 j => by rw [q2, ah_i_sn (fun y => n2 y.1)]; exact a1 a n j
        rw [a2 109 (by decide) (by decide), v9, sh_n s2 109 1200 (by decide) (by decide) rfl]
        refine ⟨vP, ?_⟩
        (first | refine ⟨fun _ => ?_, fun n_ => absurd (show ¬ bI true = 0 by decide) n_⟩ | refine ⟨fun n_ => absurd (show ¬ bI true = 0 by decide) n_, fun _ => ?_⟩ | refine ⟨fun y_ => absurd y_ (show ¬ bI true = 0 by decide), fun _ => ?_⟩ | refine ⟨fun _ => ?_, fun y_ => absurd y_ (show ¬ bI true = 0 by decide)⟩)
        intro w3 q3
        have s3 : Sh w3 := by rw [q3]; exact sh_si s2
        have a3 : ah_i w3 106 x = bI gg := by rw [q3, ah_i_sn (by omega), a2 106 (by decide) (by decide)]; exact v6
        rw [a3, sh_n s3 106 10 (by decide) (by decide) rfl, bI_0]
        refine ⟨vx, fun z => ?_, fun z => ?_⟩
        · intro w4 q4
          exact ef v w1 w2 w3 w4 true true gg sv xv ev e4 ⟨rfl, rfl, (decide_eq_true zo).symm⟩ q1 q2 q3 (by rw [z]; exact q4)
        · intro w4 q4
          have z' : gg = true := by cases e : gg; exact absurd e z; rfl
          exact ef v w1 w2 w3 w4 true true gg sv xv ev e4 ⟨rfl, rfl, (decide_eq_true zo).symm⟩ q1 q2 q3 (by rw [z']; exact q4)
  refine T_X12_minuteOf_282 hs _ _ _ ?_
  rw [nI_clamp (show x < 2 ^ 31 by omega), e6, sh_n hs 106 10 (by decide) (by decide) rfl, sh_n hs 104 10 (by decide) (by decide) rfl, bI_0]
  refine ⟨vx, fun z => t298 u hs rfl (fun a _ => eqc_rfl) (fun j => ?_), fun z => ⟨vx, ?_⟩⟩
  · rw [if_neg (fun y => by rw [z] at y; exact absurd y.2 (by decide))]
  · have z' : gg = true := by cases e : gg; exact absurd e z; rfl
    rintro v rfl
    refine t298 _ (sh_si hs) (by rw [ah_x_si]) (fun a n => eqc_si eqc_rfl n) (fun j => ?_)
    rw [ah_i_si]
    by_cases y : j = x
    · rw [if_pos ⟨rfl, y⟩, if_pos ⟨y, z'⟩]
    · rw [if_neg (fun w => y w.2), if_neg (fun w => y w.1)]
theorem fiS_n {gg : Nat → Bool} {m x j : Nat} (hj : j ≠ x) : (fiS A N S gg m (x + 1)).bu j = (fiS A N S gg m x).bu j ∧ (fiS A N S gg m (x + 1)).si j = (fiS A N S gg m x).si j ∧ (fiS A N S gg m (x + 1)).ou j = (fiS A N S gg m x).ou j ∧ (fiS A N S gg m (x + 1)).oi j = (fiS A N S gg m x).oi j := by
  have c1 : (j < x + 1) ↔ j < x := ⟨fun y => by omega, fun y => by omega⟩
  refine ⟨?_, rfl, ?_, ?_⟩
  · show (if j < x + 1 then _ else _) = (if j < x then _ else _)
    by_cases c : j < x
    · rw [if_pos c, if_pos (c1.mpr c)]
    · rw [if_neg c, if_neg (fun y => c (c1.mp y))]
  · show (if j < x + 1 ∧ _ then _ else _) = (if j < x ∧ _ then _ else _)
    by_cases c : j < x ∧ gg j = true
    · rw [if_pos c, if_pos ⟨c1.mpr c.1, c.2⟩]
    · rw [if_neg c, if_neg (fun y => c ⟨c1.mp y.1, y.2⟩)]
  · show (if j < x + 1 ∧ _ then _ else _) = (if j < x ∧ _ then _ else _)
    by_cases c : j < x ∧ (S.bu j && !gg j) = true
    · rw [if_pos c, if_pos ⟨c1.mpr c.1, c.2⟩]
    · rw [if_neg c, if_neg (fun y => c ⟨c1.mp y.1, y.2⟩)]
theorem fiS_o {gg : Nat → Bool} {m x : Nat} : (fiS A N S gg m x).bu x = S.bu x ∧ (fiS A N S gg m x).ou x = S.ou x ∧ (fiS A N S gg m x).oi x = S.oi x :=
  ⟨if_neg (fun y => by omega), if_neg (fun y => by omega), if_neg (fun y => by omega)⟩
theorem wkS_z {b : Nat} (hb : b = 0) (m j : Nat) : (wkS A S m b).bu j = S.bu j ∧ (wkS A S m b).si j = S.si j ∧ (wkS A S m b).ou j = S.ou j ∧ (wkS A S m b).oi j = S.oi j := by
  have c : ¬ (j < b ∧ wkB A S m j = true) := fun y => by omega
  exact ⟨if_neg c, if_neg c, if_neg c, rfl⟩
theorem wkS_0 (m j : Nat) : (wkS A S m 0).bu j = S.bu j ∧ (wkS A S m 0).si j = S.si j ∧ (wkS A S m 0).ou j = S.ou j ∧ (wkS A S m 0).oi j = S.oi j := wkS_z rfl m j
theorem fiS_z {b : Nat} (hb : b = 0) (gg : Nat → Bool) (m j : Nat) : (fiS A N S gg m b).bu j = S.bu j ∧ (fiS A N S gg m b).si j = S.si j ∧ (fiS A N S gg m b).ou j = S.ou j ∧ (fiS A N S gg m b).oi j = S.oi j := by
  have c1 : ¬ j < b := by omega
  have c2 : ¬ (j < b ∧ gg j = true) := fun y => by omega
  have c3 : ¬ (j < b ∧ (S.bu j && !gg j) = true) := fun y => by omega
  exact ⟨if_neg c1, rfl, if_neg c2, if_neg c3⟩
theorem fiS_0 (gg : Nat → Bool) (m j : Nat) : (fiS A N S gg m 0).bu j = S.bu j ∧ (fiS A N S gg m 0).si j = S.si j ∧ (fiS A N S gg m 0).ou j = S.ou j ∧ (fiS A N S gg m 0).oi j = S.oi j := fiS_z rfl gg m j
/-- a minute's row, as the model keeps it -/
def mRw (lt gg : Nat → Bool) (oi : Nat → Nat) (m b : Nat) (h : ah_T) : Prop := ∀ l, l < b → ah_i h 109 (10 * m + l) = bI (lt l) ∧ ah_i h 111 (10 * m + l) = bI (gg l) ∧ ah_i h 110 (10 * m + l) = nI (oi l)
def mRo (m : Nat) (h g : ah_T) : Prop := ∀ j, (j < 10 * m ∨ 10 * m + 10 ≤ j) → ah_i g 109 j = ah_i h 109 j ∧ ah_i g 110 j = ah_i h 110 j ∧ ah_i g 111 j = ah_i h 111 j
/-- how it stands within a minute's last loop -/
def mLp (A : Nat → Nat) (N : Nd) (h : ah_T) (S : Ns) (gg : Nat → Bool) (m x : Nat) (g : ah_T) : Prop := ngF h g ∧ mBa A N g ∧ mNS N (fiS A N S gg m x) g ∧ (∀ l, l < N.n → ah_i g 106 l = bI (gg l)) ∧ mRw (fun l => S.bu l && !gg l) gg (fiS A N S gg m N.n).oi m x g ∧ mRo m h g ∧ ah_i g 82 47 = ah_i h 82 47 + nI (cb (fun l => S.bu l && !gg l) x) ∧ ah_i g 82 48 = ah_i h 82 48 + nI (cb gg x)
theorem m_min187 {Q : Option Value → ah_T → Prop} {m : Nat} {gg : Nat → Bool} (hm : m < 120) (hg : ∀ l, l < N.n → gg l = true → S.bu l = true) (nx : ∀ g, mLp A N h S gg m N.n g → Q none g) : ∀ (q x : Nat) (g : ah_T), x + q = N.n → mLp A N h S gg m x g → Wp mX12_minuteOf Q 0 0 187 [some (.ref 82), some (.int (nI m)), some (.int (nI x)), none] [] g := by
  intro q
  induction q with
  | zero =>
    intro x g hx s
    have e9 : x = N.n := by omega
    subst e9
    have w10 := s.2.1.2.2.1.1.1
    refine T_X12_minuteOf_187 s.1.1 _ _ ?_
    rw [s.2.1.2.2.1.2.1]
    (first | refine ⟨fun _ => ?_, fun n_ => absurd (show nI N.n ≤ nI N.n from nI_le (by omega) (by omega)) n_⟩ | refine ⟨fun n_ => absurd (show nI N.n ≤ nI N.n from nI_le (by omega) (by omega)) n_, fun _ => ?_⟩ | refine ⟨fun y_ => absurd y_ (show nI N.n ≤ nI N.n from nI_le (by omega) (by omega)), fun _ => ?_⟩ | refine ⟨fun _ => ?_, fun y_ => absurd y_ (show nI N.n ≤ nI N.n from nI_le (by omega) (by omega))⟩)
    exact nx g s
  | succ q ih =>
    intro x g hx s
    obtain ⟨f, b, n, i6, rw_, ro, k7, k8⟩ := s
    have b3 := b.2.2.1
    have w10 := b3.1.1
    have hx2 : x < N.n := by omega
    obtain ⟨i1, i2, i3, i4⟩ := n.2 x hx2
    obtain ⟨u1, u2, u3⟩ := n.1 x hx2
    obtain ⟨o1, o2, o3⟩ := fiS_o (A := A) (N := N) (S := S) (gg := gg) (m := m) (x := x)
    rw [o1] at i1
    rw [o2] at i3 u2
    rw [o3] at i4 u3
    have j6 := i6 x hx2
    have vx : vp_in (nI x) 10 := (vp_nI (by omega)).mpr (by omega)
    obtain ⟨P, eP⟩ : ∃ P, P = 10 * m + x := ⟨_, rfl⟩
    have hP : P < 1200 := by omega
    have vP : vp_in (nI P) 1200 := (vp_nI (by omega)).mpr hP
    have c1 : (10 : Int32) * nI m + nI x = nI P := by rw [n_10, nI_mul, nI_add, eP]
    have dk := drkA_le A x (N.ki x) m
    -- the end, on a heap behind the drinking
    have en : ∀ (u : ah_T) (lt : Bool) (o : Nat), lt = (S.bu x && !gg x) → o = (if lt = true then S.oi x - drkA A x (N.ki x) m else S.oi x) → ngF g u → mBa A N u → (∀ j, ah_i u 109 j = if j = P then bI lt else ah_i g 109 j) → (∀ j, ah_i u 111 j = if j = P then bI (gg x) else ah_i g 111 j) → (∀ a, (a = 103 ∨ a = 104 ∨ a = 105 ∨ a = 106 ∨ a = 110) → ∀ j, ah_i u a j = ah_i g a j) → (∀ j, ah_i u 102 j = if j = x then nI o else ah_i g 102 j) → ah_i u 82 47 = ah_i g 82 47 → ah_i u 82 48 = ah_i g 82 48 → Wp mX12_minuteOf Q 0 0 282 [some (.ref 82), some (.int (nI m)), some (.int (nI x)), some (.int (nI P))] [] u := by
      intro u lt o elt eo fu bu u9 u11 ue u2' u47 u48
      have ho : o ≤ 240 := by rw [eo]; split <;> omega
      refine m_tail fu.1 (lt := lt) (gg := gg x) (o := o) (by omega) hP (by rw [u9, if_pos rfl]) (by rw [ue 106 (by omega)]; exact j6) (by rw [u2', if_pos rfl]) ho (fun w ws wx we wj w47 w48 w104 w105 w110 => ?_)
      have fw : ngF u w := ⟨ws, wx, fun a n1 _ _ _ _ _ _ n8 n9 _ _ n12 _ => we a n1 n8 n9 n12, fun j _ _ _ _ _ n6 n7 => wj j n6 n7⟩
      have bw : mBa A N w := mBa_fr (fun a ha j => (we a (by omega) (by omega) (by omega) (by omega)).1 j) wj bu
      have eoi : (fiS A N S gg m (x + 1)).oi x = o := by
        show (if x < x + 1 ∧ (S.bu x && !gg x) = true then _ else _) = o
        rw [eo, ← elt]
        by_cases z : lt = true
        · rw [if_pos ⟨by omega, z⟩, if_pos z]
        · rw [if_neg (fun y => z y.2), if_neg z]
      have eou : (fiS A N S gg m (x + 1)).ou x = if gg x = true then m + 1 else S.ou x := by
        show (if x < x + 1 ∧ gg x = true then _ else _) = _
        by_cases z : gg x = true
        · rw [if_pos ⟨by omega, z⟩, if_pos z]
        · rw [if_neg (fun y => z y.2), if_neg z]
      have ebu : (fiS A N S gg m (x + 1)).bu x = (lt && decide (0 < o)) := by
        show (if x < x + 1 then (S.bu x && !gg x) && decide (0 < S.oi x - drkA A x (N.ki x) m) else _) = _
        rw [if_pos (by omega), ← elt, eo]
        cases lt <;> rfl
      refine ih (x + 1) w (by omega) ⟨ngF_t (ngF_t f fu) fw, bw, ?_, fun l hl => ?_, fun l hl => ?_, fun j hj => ?_, ?_, ?_⟩
      · refine mNS_up hx2 n (fun j hj => ?_) (fun j hj => fiS_n hj) ⟨u1, ?_, ?_⟩ ⟨?_, ?_, ?_, ?_⟩
        · rw [(we 102 (by decide) (by decide) (by decide) (by decide)).1, u2', if_neg hj, (we 103 (by decide) (by decide) (by decide) (by decide)).1, ue 103 (by omega), w104, if_neg (fun y => hj y.1), ue 104 (by omega), w105, if_neg hj, ue 105 (by omega)]
          exact ⟨rfl, rfl, rfl, rfl⟩
        · rw [eou]; split <;> omega
        · rw [eoi]; exact ho
        · rw [w105, if_pos rfl, ebu]
        · rw [(we 103 (by decide) (by decide) (by decide) (by decide)).1, ue 103 (by omega)]; exact i2
        · rw [w104, eou]
          by_cases z : gg x = true
          · rw [if_pos ⟨rfl, z⟩, if_pos z, nO_s]
          · rw [if_neg (fun y => z y.2), if_neg z, ue 104 (by omega)]; exact i3
        · rw [(we 102 (by decide) (by decide) (by decide) (by decide)).1, u2', if_pos rfl, eoi]
      · rw [(we 106 (by decide) (by decide) (by decide) (by decide)).1, ue 106 (by omega)]; exact i6 l hl
      · rw [(we 109 (by decide) (by decide) (by decide) (by decide)).1, (we 111 (by decide) (by decide) (by decide) (by decide)).1, u9, u11, w110, ue 110 (by omega)]
        by_cases z : l = x
        · subst z
          rw [if_pos eP.symm, if_pos eP.symm, if_pos eP.symm]
          refine ⟨by rw [elt], rfl, ?_⟩
          show _ = nI (if l < N.n ∧ (S.bu l && !gg l) = true then _ else _)
          rw [eo, ← elt]
          by_cases y : lt = true
          · rw [if_pos y, if_pos (⟨hx2, y⟩ : l < N.n ∧ lt = true)]
          · rw [if_neg y, if_neg (fun w : l < N.n ∧ lt = true => y w.2)]
        · rw [if_neg (by omega), if_neg (by omega), if_neg (by omega)]
          exact rw_ l (by omega)
      · rw [(we 109 (by decide) (by decide) (by decide) (by decide)).1, (we 111 (by decide) (by decide) (by decide) (by decide)).1, u9, u11, w110, ue 110 (by omega), if_neg (by omega), if_neg (by omega), if_neg (by omega)]
        exact ro j hj
      · rw [w47, u47, k7, Int32.add_assoc]
        congr 1
        show _ = nI (cb _ x + (if (S.bu x && !gg x) = true then 1 else 0))
        rw [← elt, ← nI_add]
        cases lt <;> rfl
      · rw [w48, u48, k8, Int32.add_assoc]
        congr 1
        show _ = nI (cb _ x + (if gg x = true then 1 else 0))
        rw [← nI_add]
        cases gg x <;> rfl
    have n109 : ah_n g 109 = 1200 := sh_n f.1 109 1200 (by decide) (by decide) rfl
    refine T_X12_minuteOf_187 f.1 _ _ ?_
    rw [b3.2.1]
    (first | refine ⟨fun _ => ?_, fun n_ => absurd (show ¬ nI N.n ≤ nI x from nI_ge (by omega) (by omega)) n_⟩ | refine ⟨fun n_ => absurd (show ¬ nI N.n ≤ nI x from nI_ge (by omega) (by omega)) n_, fun _ => ?_⟩ | refine ⟨fun y_ => absurd y_ (show ¬ nI N.n ≤ nI x from nI_ge (by omega) (by omega)), fun _ => ?_⟩ | refine ⟨fun _ => ?_, fun y_ => absurd y_ (show ¬ nI N.n ≤ nI x from nI_ge (by omega) (by omega))⟩)
    rw [c1, nI_clamp (show P < 2 ^ 31 by omega), nI_clamp (show x < 2 ^ 31 by omega), i1, j6, sh_n f.1 105 10 (by decide) (by decide) rfl, sh_n f.1 106 10 (by decide) (by decide) rfl, n109, nar0', nar1', bI_0, bI_0]
    have dark : ∀ (h51 h56 : ah_T) (lt : Bool), lt = false → lt = (S.bu x && !gg x) → h51 = ah_si g 109 P (bI lt) → h56 = ah_si h51 111 P (bI (gg x)) → Wp mX12_minuteOf Q 0 0 282 [some (.ref 82), some (.int (nI m)), some (.int (nI x)), some (.int (nI P))] [] h56 := by
      rintro h51 h56 lt zl elt rfl rfl
      refine en _ lt (S.oi x) elt (by rw [zl]; rfl) (ngF_s (by unfold ngC; omega) (ngF_s (by unfold ngC; omega) (ngF_r f.1))) (mBa_s (by unfold ngC; omega) (mBa_s (by unfold ngC; omega) b)) (fun j => ?_) (fun j => ?_) (fun a ha j => ?_) (fun j => ?_) ?_ ?_
      · rw [ah_i_sn (by omega), ah_i_si]; simp only [true_and]
      · rw [ah_i_si, ah_i_sn (by omega)]; simp only [true_and]
      · rw [ah_i_sn (by omega), ah_i_sn (by omega)]
      · rw [ah_i_sn (by omega), ah_i_sn (by omega)]
        by_cases z : j = x
        · rw [if_pos z, z]; exact i4
        · rw [if_neg z]
      · rw [ah_i_sn (by omega), ah_i_sn (by omega)]
      · rw [ah_i_sn (by omega), ah_i_sn (by omega)]
    refine ⟨vx, fun zb => ⟨vP, ?_⟩, fun zb => ⟨vx, fun zg => ⟨vP, ?_⟩, fun zg => ⟨vP, ?_⟩⟩⟩
    · intro h51 q51
      have s51 : Sh h51 := by rw [q51]; exact sh_si f.1
      have x6 : ah_i h51 106 x = bI (gg x) := by rw [q51, ah_i_sn (by omega)]; exact j6
      rw [x6, sh_n s51 106 10 (by decide) (by decide) rfl, sh_n s51 111 1200 (by decide) (by decide) rfl, narZ]
      refine ⟨vx, vP, ?_⟩
      intro h56 q56
      have s56 : Sh h56 := by rw [q56]; exact sh_si s51
      have x9 : ah_i h56 109 P = bI false := by rw [q56, ah_i_sn (by omega), q51, ah_i_ss]
      rw [x9, sh_n s56 109 1200 (by decide) (by decide) rfl]
      refine ⟨vP, ?_⟩
      (first | refine ⟨fun _ => ?_, fun n_ => absurd (show bI false = 0 from rfl) n_⟩ | refine ⟨fun n_ => absurd (show bI false = 0 from rfl) n_, fun _ => ?_⟩ | refine ⟨fun y_ => absurd y_ (show bI false = 0 from rfl), fun _ => ?_⟩ | refine ⟨fun _ => ?_, fun y_ => absurd y_ (show bI false = 0 from rfl)⟩)
      exact dark h51 h56 false rfl (by rw [zb, Bool.false_and]) q51 q56
    · intro h51 q51
      have s51 : Sh h51 := by rw [q51]; exact sh_si f.1
      have x6 : ah_i h51 106 x = bI (gg x) := by rw [q51, ah_i_sn (by omega)]; exact j6
      rw [x6, sh_n s51 106 10 (by decide) (by decide) rfl, sh_n s51 111 1200 (by decide) (by decide) rfl, narZ]
      refine ⟨vx, vP, ?_⟩
      intro h56 q56
      have s56 : Sh h56 := by rw [q56]; exact sh_si s51
      have x9 : ah_i h56 109 P = bI false := by rw [q56, ah_i_sn (by omega), q51, ah_i_ss]
      rw [x9, sh_n s56 109 1200 (by decide) (by decide) rfl]
      refine ⟨vP, ?_⟩
      (first | refine ⟨fun _ => ?_, fun n_ => absurd (show bI false = 0 from rfl) n_⟩ | refine ⟨fun n_ => absurd (show bI false = 0 from rfl) n_, fun _ => ?_⟩ | refine ⟨fun y_ => absurd y_ (show bI false = 0 from rfl), fun _ => ?_⟩ | refine ⟨fun _ => ?_, fun y_ => absurd y_ (show bI false = 0 from rfl)⟩)
      have zg' : gg x = true := by cases e : gg x; exact absurd e zg; rfl
      exact dark h51 h56 false rfl (by rw [zg', Bool.not_true, Bool.and_false]) q51 q56
    · intro h51 q51
      have zb' : S.bu x = true := by cases e : S.bu x; exact absurd e zb; rfl
      have s51 : Sh h51 := by rw [q51]; exact sh_si f.1
      have x6 : ah_i h51 106 x = bI (gg x) := by rw [q51, ah_i_sn (by omega)]; exact j6
      rw [x6, sh_n s51 106 10 (by decide) (by decide) rfl, sh_n s51 111 1200 (by decide) (by decide) rfl, narZ]
      refine ⟨vx, vP, ?_⟩
      intro h56 q56
      have s56 : Sh h56 := by rw [q56]; exact sh_si s51
      have x9 : ah_i h56 109 P = bI true := by rw [q56, ah_i_sn (by omega), q51, ah_i_ss]
      have x2 : ah_i h56 102 x = nI (S.oi x) := by rw [q56, ah_i_sn (by omega), q51, ah_i_sn (by omega)]; exact i4
      have x1 : ah_i h56 101 x = nI (N.ki x) := by rw [q56, ah_i_sn (by omega), q51, ah_i_sn (by omega)]; exact (b3.2.2.2.2.1 x hx2).2
      have f56 : ngF g h56 := by rw [q56, q51]; exact ngF_s (by unfold ngC; omega) (ngF_s (by unfold ngC; omega) (ngF_r f.1))
      have b56 : mBa A N h56 := by rw [q56, q51]; exact mBa_s (by unfold ngC; omega) (mBa_s (by unfold ngC; omega) b)
      rw [x9, x2, x1, sh_n s56 109 1200 (by decide) (by decide) rfl, sh_n s56 102 10 (by decide) (by decide) rfl, sh_n s56 101 10 (by decide) (by decide) rfl]
      refine ⟨vP, ?_⟩
      (first | refine ⟨fun _ => ?_, fun n_ => absurd (show ¬ bI true = 0 by decide) n_⟩ | refine ⟨fun n_ => absurd (show ¬ bI true = 0 by decide) n_, fun _ => ?_⟩ | refine ⟨fun y_ => absurd y_ (show ¬ bI true = 0 by decide), fun _ => ?_⟩ | refine ⟨fun _ => ?_, fun y_ => absurd y_ (show ¬ bI true = 0 by decide)⟩)
      refine ⟨vx, vx, vx, mt_drink s56 b56.1 b56.2.1 (by omega) (b3.1.2.1 x hx2).2 hm rfl rfl rfl (fun g1 f1 k1 => ⟨_, rfl, f1.1, ?_⟩)⟩
      rw [sh_n f1.1 102 10 (by decide) (by decide) rfl, lesserN (by omega) (by omega), nI_sub (by omega)]
      refine ⟨vx, ?_⟩
      rintro h68 rfl
      have e1 : ∀ a, a ≠ 82 → a ≠ 93 → a ≠ 95 → a ≠ 96 → a ≠ 97 → ∀ j, ah_i g1 a j = ah_i h56 a j := fun a n1 n2 n3 n4 n5 => (f1.2.2.1 a n1 n2 n3 n4 n5).1
      have emin : S.oi x - min (S.oi x) (drkA A x (N.ki x) m) = S.oi x - drkA A x (N.ki x) m := by omega
      rw [emin]
      refine en _ true (S.oi x - drkA A x (N.ki x) m) (by rw [zb', zg]; rfl) (if_pos rfl).symm (ngF_s (by unfold ngC; omega) (ngF_t f56 (ngF_k f1))) (mBa_s (by unfold ngC; omega) (mBa_k f1 k1 b56)) (fun j => ?_) (fun j => ?_) (fun a ha j => ?_) (fun j => ?_) ?_ ?_
      · rw [ah_i_sn (by omega), e1 109 (by decide) (by decide) (by decide) (by decide) (by decide), q56, ah_i_sn (by omega), q51, ah_i_si]; simp only [true_and]
      · rw [ah_i_sn (by omega), e1 111 (by decide) (by decide) (by decide) (by decide) (by decide), q56, ah_i_si, q51, ah_i_sn (by omega)]; simp only [true_and]
      · rw [ah_i_sn (by omega), e1 a (by omega) (by omega) (by omega) (by omega) (by omega), q56, ah_i_sn (by omega), q51, ah_i_sn (by omega)]
      · rw [ah_i_si, e1 102 (by decide) (by decide) (by decide) (by decide) (by decide), q56, ah_i_sn (by omega), q51, ah_i_sn (by omega)]; simp only [true_and]
      · rw [ah_i_sn (by omega), f1.2.2.2 47 (by decide) (by decide) (by decide) (by decide) (by decide), q56, ah_i_sn (by omega), q51, ah_i_sn (by omega)]
      · rw [ah_i_sn (by omega), f1.2.2.2 48 (by decide) (by decide) (by decide) (by decide) (by decide), q56, ah_i_sn (by omega), q51, ah_i_sn (by omega)]
/-- what a minute of the model leaves -/
def mMi (A : Nat → Nat) (N : Nd) (h : ah_T) (S : Ns) (m : Nat) (g : ah_T) : Prop := ngF h g ∧ mBa A N g ∧ mNS N (miM A N S m) g ∧ mRw (liM A N S (goM A N S m) m) (goM A N S m) (miM A N S m).oi m N.n g ∧ mRo m h g ∧ ah_i g 82 47 = ah_i h 82 47 + nI (cb (liM A N S (goM A N S m) m) N.n) ∧ ah_i g 82 48 = ah_i h 82 48 + nI (cb (goM A N S m) N.n)
theorem m_minuteOf {Q : Option Value → ah_T → Prop} (hs : Sh h) {m : Nat} {x1 : Int32} (e1 : x1 = nI m) (hm : m < 120) (b : mBa A N h) (n : mNS N S h) (hq : ∀ g, mMi A N h S m g → Q none g) : Mt mX12_minuteOf [.ref 82, .int x1] h Q := by
  subst e1
  refine T_X12_minuteOf hs _ (m_min2 (A := A) (N := N) (S := S) hm (fun g2 s2 => ?_) (A 247) 0 h (by omega) ⟨ngF_r hs, b, n, rkF_r⟩)
  refine m_min91 (A := A) (N := N) (h := h) (S := npr A S m (A 247)) hm (fun g3 s3 => ?_) N.n 0 g2 (by omega) (mSt_ex s2 (wkS_0 m))
  refine m_min142 (A := A) (N := N) (h := h) (S := wkM A N S m) hm (fun g4 s4 i6 => ?_) N.n 0 g3 (by omega) s3 (fun l hl => by omega)
  refine m_min187 (gg := goM A N S m) (S := wkM A N S m) (h := g4) hm (fun l hl y => ?_) (fun g5 s5 => ?_) N.n 0 g4 (by omega) ⟨ngF_r s4.1.1, s4.2.1, mNS_ex s4.2.2.1 (fun j _ => fiS_0 (goM A N S m) m j), i6, fun l hl => by omega, fun j hj => ⟨rfl, rfl, rfl⟩, ?_, ?_⟩
  · unfold goM at y
    exact (Bool.and_eq_true_iff.mp y).1
  · obtain ⟨t1, t2, t3, t4, t5, t6, t7, t8⟩ := s5
    obtain ⟨r1, r2, r3⟩ := s4.2.2.2
    refine hq g5 ⟨ngF_t s4.1 t1, t2, t3, t5, fun j hj => ?_, by rw [← r2]; exact t7, by rw [← r3]; exact t8⟩
    obtain ⟨z1, z2, z3⟩ := t6 j hj
    obtain ⟨y1, y2, y3⟩ := r1 j
    exact ⟨z1.trans y1, z2.trans y2, z3.trans y3⟩
  · show _ = _ + nI 0
    rw [show nI 0 = 0 from rfl, Int32.add_zero]
  · show _ = _ + nI 0
    rw [show nI 0 = 0 from rfl, Int32.add_zero]
end MM2
