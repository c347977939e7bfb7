/-! ===== the class's night: switches, waiting ones, who stirred ===== -/
/-- lamps that wait are not overdue -/
def rqO (A : Nat → Nat) (N : Nd) (S : Ns) (m : Nat) : Prop := ∀ l, l < N.n → S.ou l ≠ 0 → S.ou l ≤ m ∧ m ≤ S.ou l - 1 + A 243
/-- who isn't fresh burns as ahead of the minute -/
def cvO (N : Nd) (S : Ns) (fr : Nat → Bool) (S' : Ns) (fr' : Nat → Bool) : Prop := ∀ l, l < N.n → fr' l = false → fr l = false ∧ (S'.bu l = true → S.bu l = true ∧ S'.si l = S.si l)
section CQ
variable {A : Nat → Nat} {N : Nd} {h g h1 : ah_T} {sp : Nat} {S : Ns} {fr : Nat → Bool}
theorem cNS_ex {S' : Ns} {fr' : Nat → Bool} (n : cNS N S fr g) (e : ∀ j, j < N.n → S'.bu j = S.bu j ∧ S'.si j = S.si j ∧ S'.ou j = S.ou j ∧ S'.oi j = S.oi j) (ef : ∀ j, j < N.n → fr' j = fr j) : cNS N S' fr' g := by
  obtain ⟨n1, n2, n3, n4, n5, n6⟩ := n
  refine ⟨fun l hl => ?_, fun l hl => ?_, fun i hi => ?_, fun i hi => ?_, fun i hi => ?_, fun l hl => ?_⟩
  · obtain ⟨e1, e2, e3, e4⟩ := e l hl
    rw [e2, e3, e4]; exact n1 l hl
  · obtain ⟨e1, e2, e3, e4⟩ := e l hl
    rw [e1, e3, e4]; exact n2 l hl
  · rw [n3 i hi]
    exact ⟨fun y => ⟨y.1, by rw [(e i y.1).1]; exact y.2⟩, fun y => ⟨y.1, by rw [← (e i y.1).1]; exact y.2⟩⟩
  · rw [n4 i hi]
    exact ⟨fun y => ⟨y.1, by rw [(e i y.1).2.2.1]; exact y.2⟩, fun y => ⟨y.1, by rw [← (e i y.1).2.2.1]; exact y.2⟩⟩
  · rw [n5 i hi]
    exact ⟨fun y => ⟨y.1, by rw [ef i y.1]; exact y.2⟩, fun y => ⟨y.1, by rw [← ef i y.1]; exact y.2⟩⟩
  · obtain ⟨e1, e2, e3, e4⟩ := e l hl
    rw [e1, e2, e3, e4]; exact n6 l hl
theorem c_kindle {Q : Option Value → ah_T → Prop} (hs : Sh h) {l : Nat} {x1 x2 : Int32} (e1 : x1 = nI l) (hl : l < 10) (hq : ∀ w, ceN h w → (∀ a, a ≠ 43 → a ≠ 47 → ∀ j, ah_i w a j = ah_i h a j) → (∀ j, j ≠ 5 → j ≠ 6 → j ≠ 14 → ah_i w 43 j = ah_i h 43 j) → (∀ i, i < 32 → bt (ah_i w 43 5) i = (bt (ah_i h 43 5) i || decide (i = l))) → (∀ i, i < 32 → bt (ah_i w 43 6) i = (bt (ah_i h 43 6) i || decide (i = l))) → (∀ i, i < 32 → bt (ah_i w 43 14) i = (bt (ah_i h 43 14) i && !decide (i = l))) → (∀ j, ah_i w 47 j = if j = l then x2 else ah_i h 47 j) → Q none w) : Mt mX3_kindle [.ref 43, .int x1, .int x2] h Q := by
  subst e1
  refine T_X3_kindle hs _ _ ?_
  intro u1 q1 u2 q2 u3 q3
  have a2 : ah_i u1 43 6 = ah_i h 43 6 := by rw [q1, ah_i_sn (by omega)]
  have a3 : ah_i u2 43 14 = ah_i h 43 14 := by rw [q2, ah_i_sn (by omega), q1, ah_i_sn (by omega)]
  rw [a2] at q2
  rw [a3] at q3
  have s3 : Sh u3 := by rw [q3, q2, q1]; exact sh_si (sh_si (sh_si hs))
  rw [sh_n s3 47 10 (by decide) (by decide) rfl, nI_clamp (show l < 2 ^ 31 by omega)]
  refine ⟨(vp_nI (by omega)).mpr (by omega), ?_⟩
  intro w qw
  refine hq w ?_ (fun a n1 n2 j => ?_) (fun j n1 n2 n3 => ?_) (fun i hi => ?_) (fun i hi => ?_) (fun i hi => ?_) (fun j => ?_)
  · rw [qw, q3, q2, q1]; exact ceN_s (by omega) (ceN_s (by omega) (ceN_s (by omega) (ceN_s (by omega) (ceN_r hs))))
  · rw [qw, ah_i_sn (by omega), q3, ah_i_sn (by omega), q2, ah_i_sn (by omega), q1, ah_i_sn (by omega)]
  · rw [qw, ah_i_sn (by omega), q3, ah_i_sn (by omega), q2, ah_i_sn (by omega), q1, ah_i_sn (by omega)]
  · rw [qw, ah_i_sn (by omega), q3, ah_i_sn (by omega), q2, ah_i_sn (by omega), q1, ah_i_ss, b_or, b_1sh (by omega) hi]
  · rw [qw, ah_i_sn (by omega), q3, ah_i_sn (by omega), q2, ah_i_ss, b_or, b_1sh (by omega) hi]
  · rw [qw, ah_i_sn (by omega), q3, ah_i_ss, b_and, b_not _ hi, b_1sh (by omega) hi]
  · rw [qw, ah_i_si]
    by_cases z : j = l
    · rw [if_pos ⟨rfl, z⟩, if_pos z]
    · rw [if_neg (fun y => z y.2), if_neg z, q3, ah_i_sn (by omega), q2, ah_i_sn (by omega), q1, ah_i_sn (by omega)]
/-- a lamp burns from now -/
theorem cNS_kin {S' : Ns} {l m : Nat} {w : ah_T} (hn : N.n ≤ 10) (n : cNS N S fr h) (hl : l < N.n) (hm : m < 120) (ho : 0 < S.oi l) (e : ∀ j, j ≠ l → S'.bu j = S.bu j ∧ S'.si j = S.si j ∧ S'.ou j = S.ou j ∧ S'.oi j = S.oi j) (a1 : S'.bu l = true) (a2 : S'.si l = m) (a3 : S'.ou l = 0) (a4 : S'.oi l = S.oi l)
    (k46 : ∀ j, ah_i w 46 j = ah_i h 46 j) (k5 : ∀ i, i < 32 → bt (ah_i w 43 5) i = (bt (ah_i h 43 5) i || decide (i = l))) (k6 : ∀ i, i < 32 → bt (ah_i w 43 6) i = (bt (ah_i h 43 6) i || decide (i = l))) (k14 : ∀ i, i < 32 → bt (ah_i w 43 14) i = (bt (ah_i h 43 14) i && !decide (i = l))) (k47 : ∀ j, ah_i w 47 j = if j = l then nI m else ah_i h 47 j) : cNS N S' (fun i => fr i || decide (i = l)) w := by
  obtain ⟨n1, n2, n3, n4, n5, n6⟩ := n
  have r1 := n1 l hl
  refine ⟨fun j hj => ?_, fun j hj => ?_, fun i hi => ?_, fun i hi => ?_, fun i hi => ?_, fun j hj => ?_⟩
  · by_cases z : j = l
    · subst z
      rw [a2, a3, a4]; exact ⟨hm, by omega, r1.2.2⟩
    · obtain ⟨e1, e2, e3, e4⟩ := e j z
      rw [e2, e3, e4]; exact n1 j hj
  · by_cases z : j = l
    · subst z
      rw [a3, a4]; exact ⟨fun _ => ⟨ho, rfl⟩, fun y => absurd rfl y⟩
    · obtain ⟨e1, e2, e3, e4⟩ := e j z
      rw [e1, e3, e4]; exact n2 j hj
  · rw [k5 i hi, Bool.or_eq_true, n3 i hi, decide_eq_true_eq]
    by_cases z : i = l
    · subst z
      exact ⟨fun _ => ⟨hl, a1⟩, fun _ => .inr rfl⟩
    · rw [(e i z).1]
      exact ⟨fun y => y.resolve_right z, fun y => .inl y⟩
  · rw [k14 i hi, Bool.and_eq_true, n4 i hi, Bool.not_eq_true', decide_eq_false_iff_not]
    by_cases z : i = l
    · subst z
      exact ⟨fun y => absurd rfl y.2, fun y => absurd a3 y.2⟩
    · rw [(e i z).2.2.1]
      exact ⟨fun y => y.1, fun y => ⟨y, z⟩⟩
  · rw [k6 i hi, Bool.or_eq_true, n5 i hi, decide_eq_true_eq]
    show _ ↔ i < N.n ∧ (fr i || decide (i = l)) = true
    rw [Bool.or_eq_true, decide_eq_true_eq]
    constructor
    · rintro (y | y)
      · exact ⟨y.1, .inl y.2⟩
      · exact ⟨by omega, .inr y⟩
    · rintro ⟨y1, y | y⟩
      · exact .inl ⟨y1, y⟩
      · exact .inr y
  · rw [k46, k47]
    by_cases z : j = l
    · subst z
      rw [if_pos rfl, a2, a3, a4]
      exact ⟨(n6 j hj).1, fun _ => rfl, fun y => absurd rfl y⟩
    · obtain ⟨e1, e2, e3, e4⟩ := e j z
      rw [if_neg z, e1, e2, e3, e4]
      exact n6 j hj
/-- a lamp is put out, or can't burn -/
theorem cNS_off {S' : Ns} {l : Nat} {w : ah_T} (n : cNS N S fr h) (hl : l < N.n) (e : ∀ j, j ≠ l → S'.bu j = S.bu j ∧ S'.si j = S.si j ∧ S'.ou j = S.ou j ∧ S'.oi j = S.oi j) (a1 : S'.bu l = false) (a2 : S'.si l < 120) (a3 : S'.ou l = 0) (a4 : S'.oi l = S.oi l)
    (k46 : ∀ j, ah_i w 46 j = ah_i h 46 j) (k47 : ∀ j, ah_i w 47 j = ah_i h 47 j) (k5 : ∀ i, i < 32 → (bt (ah_i w 43 5) i = true ↔ bt (ah_i h 43 5) i = true ∧ i ≠ l)) (k6 : ah_i w 43 6 = ah_i h 43 6) (k14 : ∀ i, i < 32 → (bt (ah_i w 43 14) i = true ↔ bt (ah_i h 43 14) i = true ∧ i ≠ l)) : cNS N S' fr w := by
  obtain ⟨n1, n2, n3, n4, n5, n6⟩ := n
  have r1 := n1 l hl
  refine ⟨fun j hj => ?_, fun j hj => ?_, fun i hi => ?_, fun i hi => ?_, fun i hi => ?_, fun j hj => ?_⟩
  · by_cases z : j = l
    · subst z
      rw [a3, a4]; exact ⟨a2, by omega, r1.2.2⟩
    · obtain ⟨e1, e2, e3, e4⟩ := e j z
      rw [e2, e3, e4]; exact n1 j hj
  · by_cases z : j = l
    · subst z
      rw [a1, a3, a4]; exact ⟨fun y => absurd y (by decide), fun y => absurd rfl y⟩
    · obtain ⟨e1, e2, e3, e4⟩ := e j z
      rw [e1, e3, e4]; exact n2 j hj
  · rw [k5 i hi, n3 i hi]
    by_cases z : i = l
    · subst z
      rw [a1]
      exact ⟨fun y => absurd rfl y.2, fun y => absurd y.2 (by decide)⟩
    · rw [(e i z).1]
      exact ⟨fun y => y.1, fun y => ⟨y, z⟩⟩
  · rw [k14 i hi, n4 i hi]
    by_cases z : i = l
    · subst z
      exact ⟨fun y => absurd rfl y.2, fun y => absurd a3 y.2⟩
    · rw [(e i z).2.2.1]
      exact ⟨fun y => y.1, fun y => ⟨y, z⟩⟩
  · rw [k6]; exact n5 i hi
  · rw [k46, k47]
    by_cases z : j = l
    · subst z
      rw [a1, a3, a4]
      exact ⟨(n6 j hj).1, fun y => absurd y (by decide), fun y => absurd rfl y⟩
    · obtain ⟨e1, e2, e3, e4⟩ := e j z
      rw [e1, e2, e3, e4]
      exact n6 j hj
theorem npr_ou {m : Nat} : ∀ (k l : Nat), (npr A S m k).ou l ≠ 0 → (npr A S m k).ou l = S.ou l
  | 0, l, _ => rfl
  | k + 1, l, y => by
    by_cases z : A (91 + 3 * k) = m
    · have en : npr A S m (k + 1) = swS (npr A S m k) (A (90 + 3 * k)) (A (92 + 3 * k)) m := if_pos z
      rw [en] at y ⊢
      by_cases w : l = A (90 + 3 * k)
      · exact absurd (if_pos w) y
      · have e : (swS (npr A S m k) (A (90 + 3 * k)) (A (92 + 3 * k)) m).ou l = (npr A S m k).ou l := if_neg w
        rw [e] at y ⊢
        exact npr_ou k l y
    · have en : npr A S m (k + 1) = npr A S m k := if_neg z
      rw [en] at y ⊢
      exact npr_ou k l y
theorem c_prepare {Q : Option Value → ah_T → Prop} (hs : Sh h) (t : cTw A h) (d : cND A N sp h) (n : cNS N S fr h) {m : Nat} {x1 : Int32} (e1 : x1 = nI m) (hm : m < 120) (rq : rqO A N S m)
    (hq : ∀ h' fr', ceN h h' → cND A N sp h' → cNS N (wkM A N S m) fr' h' → cvO N S fr (wkM A N S m) fr' → (∀ a, a ≠ 43 → a ≠ 46 → a ≠ 47 → ∀ j, ah_i h' a j = ah_i h a j) → Q none h') : Mt mX3_prepare [.ref 43, .int x1] h Q := by
  subst e1
  have wS := t.2.1.2.2.1
  have wT := t.2.2.2.2
  have w24 := wS.1
  have d' := d
  obtain ⟨⟨d0, d1, d2, d3⟩, ⟨f1, f2, f3, f4, f5, f6, f7, f8, f9⟩, d4, d5, d6, d7, d8, d9⟩ := d'
  have z1 : Int32.toNatClampNeg 1 = 1 := rfl
  -- waiting ones
  have l114 : ∀ (q x : Nat) (g : ah_T) (fr1 : Nat → Bool), x + q = N.n → ceN h g → cND A N sp g → cNS N (wkS A (npr A S m (A 247)) m x) fr1 g → cvO N S fr (wkS A (npr A S m (A 247)) m x) fr1 → (∀ a, a ≠ 43 → a ≠ 46 → a ≠ 47 → ∀ j, ah_i g a j = ah_i h a j) → Wp mX3_prepare Q 0 0 114 [some (.ref 43), some (.int (nI m)), none, some (.int (nI x)), none] [] g := by
    intro q
    induction q with
    | zero =>
      intro x g fr1 hx c dg n1 cv ko
      have e9 : x = N.n := by omega
      subst e9
      refine T_X3_prepare_114 c.1 _ _ ?_
      rw [dg.2.2.1]
      (first | refine ⟨fun _ => ?_, fun n_ => absurd (show nI N.n ≤ nI N.n from nI_le (by omega) (by omega)) n_⟩ | refine ⟨fun n_ => absurd (show nI N.n ≤ nI N.n from nI_le (by omega) (by omega)) n_, fun _ => ?_⟩ | refine ⟨fun y_ => absurd y_ (show nI N.n ≤ nI N.n from nI_le (by omega) (by omega)), fun _ => ?_⟩ | refine ⟨fun _ => ?_, fun y_ => absurd y_ (show nI N.n ≤ nI N.n from nI_le (by omega) (by omega))⟩)
      exact hq g fr1 c dg n1 cv ko
    | succ q ih =>
      intro x g fr1 hx c dg n1 cv ko
      have hx2 : x < N.n := by omega
      have n1' := n1
      obtain ⟨m1, m2, m3, m4, m5, m6⟩ := n1'
      have vx : vp_in (nI x) 10 := (vp_nI (by omega)).mpr (by omega)
      have skip : wkB A (npr A S m (A 247)) m x = false → Wp mX3_prepare Q 0 0 114 [some (.ref 43), some (.int (nI m)), none, some (.int (nI (x + 1))), none] [] g := by
        intro w
        have ee := wkS_f (A := A) (S := npr A S m (A 247)) (m := m) (x := x) w
        refine ih (x + 1) g fr1 (by omega) c dg (cNS_ex n1 (fun j _ => ee j) (fun j _ => rfl)) (fun l hl y => ?_) ko
        obtain ⟨y1, y2⟩ := cv l hl y
        refine ⟨y1, fun u => ?_⟩
        rw [(ee l).1] at u
        rw [(ee l).2.1]
        exact y2 u
      obtain ⟨o1, o2, o3⟩ := wkS_o (A := A) (S := npr A S m (A 247)) (m := m) (x := x)
      refine T_X3_prepare_114 c.1 _ _ ?_
      rw [dg.2.2.1]
      (first | refine ⟨fun _ => ?_, fun n_ => absurd (show ¬ nI N.n ≤ nI x from nI_ge (by omega) (by omega)) n_⟩ | refine ⟨fun n_ => absurd (show ¬ nI N.n ≤ nI x from nI_ge (by omega) (by omega)) n_, fun _ => ?_⟩ | refine ⟨fun y_ => absurd y_ (show ¬ nI N.n ≤ nI x from nI_ge (by omega) (by omega)), fun _ => ?_⟩ | refine ⟨fun _ => ?_, fun y_ => absurd y_ (show ¬ nI N.n ≤ nI x from nI_ge (by omega) (by omega))⟩)
      rw [nI_1, z1, nI_clamp (show x < 2 ^ 31 by omega), (c.2.2 14 (by omega)).1, t.2.2.2.1, sh_n c.1 47 10 (by decide) (by decide) rfl, b_bit _ x (by omega)]
      refine ⟨fun z => ?_, fun z => ⟨fun y => ?_, fun y => ?_⟩⟩
      · -- nobody waits any more
        have now : ∀ l, l < N.n → (wkS A (npr A S m (A 247)) m x).ou l = 0 := by
          intro l hl
          rcases Nat.eq_zero_or_pos ((wkS A (npr A S m (A 247)) m x).ou l) with w | w
          · exact w
          · have := (m4 l (by omega)).mpr ⟨hl, by omega⟩
            rw [z, b_0] at this
            exact absurd this (by decide)
        have ee : ∀ j, j < N.n → (wkM A N S m).bu j = (wkS A (npr A S m (A 247)) m x).bu j ∧ (wkM A N S m).si j = (wkS A (npr A S m (A 247)) m x).si j ∧ (wkM A N S m).ou j = (wkS A (npr A S m (A 247)) m x).ou j ∧ (wkM A N S m).oi j = (wkS A (npr A S m (A 247)) m x).oi j := by
          intro j hj
          by_cases cc : j < x ∧ wkB A (npr A S m (A 247)) m j = true
          · have c' : j < N.n ∧ wkB A (npr A S m (A 247)) m j = true := ⟨hj, cc.2⟩
            exact ⟨(if_pos c').trans (if_pos cc).symm, (if_pos c').trans (if_pos cc).symm, (if_pos c').trans (if_pos cc).symm, rfl⟩
          · have nb : wkB A (npr A S m (A 247)) m j = false := by
              have w := now j hj
              have w2 : (wkS A (npr A S m (A 247)) m x).ou j = (npr A S m (A 247)).ou j := if_neg cc
              rw [w2] at w
              exact decide_eq_false (fun u => u.1 w)
            have c' : ¬ (j < N.n ∧ wkB A (npr A S m (A 247)) m j = true) := fun u => by rw [nb] at u; exact absurd u.2 (by decide)
            exact ⟨(if_neg c').trans (if_neg cc).symm, (if_neg c').trans (if_neg cc).symm, (if_neg c').trans (if_neg cc).symm, rfl⟩
        refine hq g fr1 c dg (cNS_ex n1 ee (fun j _ => rfl)) (fun l hl y => ?_) ko
        obtain ⟨y1, y2⟩ := cv l hl y
        refine ⟨y1, fun u => ?_⟩
        rw [(ee l hl).1] at u
        rw [(ee l hl).2.1]
        exact y2 u
      · refine skip (decide_eq_false (fun u => ?_))
        have := (m4 x (by omega)).mpr ⟨hx2, by rw [o3]; exact u.1⟩
        rw [y] at this
        exact absurd this (by decide)
      · have yt : bt (ah_i g 43 14) x = true := by cases e : bt (ah_i g 43 14) x; exact absurd e y; rfl
        have w0 := ((m4 x (by omega)).mp yt).2
        obtain ⟨s1, s2, s3⟩ := m6 x hx2
        have s3' := s3 w0
        rw [o3] at w0 s3'
        have eou := npr_ou (A := A) (S := S) (m := m) (A 247) x w0
        obtain ⟨q1, q2⟩ := rq x hx2 (by rw [← eou]; exact w0)
        rw [← eou] at q1 q2
        rw [s3', nI_sub (show (npr A S m (A 247)).ou x - 1 ≤ m by omega), nI_ltI (by omega) (by have := wT.2.2.1; omega)]
        refine ⟨vx, fun u => skip (decide_eq_false (fun v => ?_)), fun u => ?_⟩
        · omega
        · have wt : wkB A (npr A S m (A 247)) m x = true := decide_eq_true ⟨w0, by omega⟩
          have c' : x < x + 1 ∧ wkB A (npr A S m (A 247)) m x = true := ⟨by omega, wt⟩
          have oi0 : 0 < (wkS A (npr A S m (A 247)) m x).oi x := (m2 x hx2).2 (by rw [o3]; exact w0)
          refine c_kindle c.1 rfl (by omega) (fun w cw kw kj k5 k6 k14 k47 => ⟨rfl, cw.1, ?_⟩)
          have n2 : cNS N (wkS A (npr A S m (A 247)) m (x + 1)) (fun i => fr1 i || decide (i = x)) w := cNS_kin d0 n1 hx2 hm oi0 (fun j hj => wkS_n hj) ((if_pos c').trans (decide_eq_true oi0)) (if_pos c') (if_pos c') rfl (kw 46 (by decide) (by decide)) k5 k6 k14 k47
          refine ih (x + 1) w _ (by omega) (ceN_t c cw) (cND_fr (fun a ha => kw a (by omega) (by omega)) (fun j hj => kj j (by omega) (by omega) (by omega)) dg) n2 (fun l hl v => ?_) (fun a n1 n2 n3 j => by rw [kw a n1 n3, ko a n1 n2 n3])
          obtain ⟨v1, v2⟩ := Bool.or_eq_false_iff.mp v
          have v3 : l ≠ x := of_decide_eq_false v2
          obtain ⟨p1, p2, p3, p4⟩ := wkS_n (A := A) (S := npr A S m (A 247)) (m := m) v3
          rw [p1, p2]
          exact cv l hl v1
  -- switches
  have l9 : ∀ (q k tc : Nat) (g : ah_T) (fr1 : Nat → Bool), k + q = A 247 → tc ≤ k → ceN h g → cND A N sp g → cNS N (npr A S m k) fr1 g → cvO N S fr (npr A S m k) fr1 → (∀ a, a ≠ 43 → a ≠ 46 → a ≠ 47 → ∀ j, ah_i g a j = ah_i h a j) → Wp mX3_prepare Q 0 0 9 [some (.ref 43), some (.int (nI m)), some (.int (nO (fsw A m k))), some (.int (nI tc)), none] [] g := by
    intro q
    induction q with
    | zero =>
      intro k tc g fr1 hk ht c dg n1 cv ko
      have e9 : k = A 247 := by omega
      subst e9
      have last : Wp mX3_prepare Q 0 0 114 [some (.ref 43), some (.int (nI m)), none, some (.int 0), none] [] g := by
        have ee : ∀ j, j < N.n → (wkS A (npr A S m (A 247)) m 0).bu j = (npr A S m (A 247)).bu j ∧ (wkS A (npr A S m (A 247)) m 0).si j = (npr A S m (A 247)).si j ∧ (wkS A (npr A S m (A 247)) m 0).ou j = (npr A S m (A 247)).ou j ∧ (wkS A (npr A S m (A 247)) m 0).oi j = (npr A S m (A 247)).oi j := fun j _ => wkS_0 m j
        refine l114 N.n 0 g fr1 (by omega) c dg (cNS_ex n1 ee (fun j _ => rfl)) (fun l hl y => ?_) ko
        rw [(ee l hl).1, (ee l hl).2.1]
        exact cv l hl y
      refine T_X3_prepare_9 c.1 _ _ _ ?_
      rw [fsw_end (Nat.le_refl _)]
      refine ⟨fun _ => last, fun _ => ?_⟩
      (first | refine ⟨fun _ => ?_, fun n_ => absurd (show nO 0 = -1 from rfl) n_⟩ | refine ⟨fun n_ => absurd (show nO 0 = -1 from rfl) n_, fun _ => ?_⟩ | refine ⟨fun y_ => absurd y_ (show nO 0 = -1 from rfl), fun _ => ?_⟩ | refine ⟨fun _ => ?_, fun y_ => absurd y_ (show nO 0 = -1 from rfl)⟩)
      exact last
    | succ q ih =>
      intro k tc g fr1 hk ht c dg n1 cv ko
      by_cases z : A (91 + 3 * k) = m
      · have en : npr A S m (k + 1) = swS (npr A S m k) (A (90 + 3 * k)) (A (92 + 3 * k)) m := if_pos z
        have tg := cTw_n c t
        obtain ⟨v1, v2, v3⟩ := wS.2 k (by omega)
        have hl : A (90 + 3 * k) < N.n := by omega
        obtain ⟨l, el⟩ : ∃ l, l = A (90 + 3 * k) := ⟨_, rfl⟩
        have g51 : ah_i g 51 k = nO (fsw A m (k + 1)) := by rw [dg.2.2.2.2.2.2.2.2 k (by omega), z]
        have vk : vp_in (nI k) 24 := (vp_nI (by omega)).mpr (by omega)
        have ne : ∀ j, j ≠ l → (npr A S m (k + 1)).bu j = (npr A S m k).bu j ∧ (npr A S m (k + 1)).si j = (npr A S m k).si j ∧ (npr A S m (k + 1)).ou j = (npr A S m k).ou j ∧ (npr A S m (k + 1)).oi j = (npr A S m k).oi j := by
          intro j hj
          rw [en, ← el]
          exact ⟨if_neg hj, if_neg (fun y => hj y.1), if_neg hj, rfl⟩
        have eo : (npr A S m (k + 1)).ou l = 0 := by rw [en, ← el]; exact if_pos rfl
        have ei : (npr A S m (k + 1)).oi l = (npr A S m k).oi l := (congrArg (fun s : Ns => s.oi l) en).trans rfl
        obtain ⟨m1, m2, m3, m4, m5, m6⟩ := n1
        have n1 : cNS N (npr A S m k) fr1 g := ⟨m1, m2, m3, m4, m5, m6⟩
        refine T_X3_prepare_9 c.1 _ _ _ ?_
        (first | refine ⟨fun _ => ?_, fun n_ => absurd (show ¬ 24 ≤ nI tc from nI_ge (b := 24) (by omega) (by omega)) n_⟩ | refine ⟨fun n_ => absurd (show ¬ 24 ≤ nI tc from nI_ge (b := 24) (by omega) (by omega)) n_, fun _ => ?_⟩ | refine ⟨fun y_ => absurd y_ (show ¬ 24 ≤ nI tc from nI_ge (b := 24) (by omega) (by omega)), fun _ => ?_⟩ | refine ⟨fun _ => ?_, fun y_ => absurd y_ (show ¬ 24 ≤ nI tc from nI_ge (b := 24) (by omega) (by omega))⟩)
        rw [fsw_yes (by omega) z, nO_s, nI_1]
        (first | refine ⟨fun _ => ?_, fun n_ => absurd (nI_m1 (show k < 2 ^ 31 by omega)) n_⟩ | refine ⟨fun n_ => absurd (nI_m1 (show k < 2 ^ 31 by omega)) n_, fun _ => ?_⟩ | refine ⟨fun y_ => absurd y_ (nI_m1 (show k < 2 ^ 31 by omega)), fun _ => ?_⟩ | refine ⟨fun _ => ?_, fun y_ => absurd y_ (nI_m1 (show k < 2 ^ 31 by omega))⟩)
        refine s_get c.1 tg.2.1 rfl (k := 0) rfl (by omega) (by omega) ⟨_, rfl, c.1, ?_⟩
        refine s_get c.1 tg.2.1 rfl (k := 2) rfl (by omega) (by omega) ⟨_, rfl, c.1, ?_⟩
        rw [show 90 + 3 * k + 0 = 90 + 3 * k from rfl, show 90 + 3 * k + 2 = 92 + 3 * k by omega, nI_clamp (show k < 2 ^ 31 by omega), ← el, nI_clamp (show l < 2 ^ 31 by omega), sh_n c.1 51 24 (by decide) (by decide) rfl, sh_n c.1 46 10 (by decide) (by decide) rfl]
        rw [← el] at hl
        have vl : vp_in (nI l) 10 := (vp_nI (by omega)).mpr (by omega)
        refine ⟨fun y => ⟨vl, ?_⟩, fun y => ?_⟩
        · have on1 : A (92 + 3 * k) = 1 := by
            rcases (show A (92 + 3 * k) = 0 ∨ A (92 + 3 * k) = 1 by omega) with w | w
            · rw [w] at y; exact absurd rfl y
            · exact w
          have eb : (npr A S m (k + 1)).bu l = decide (0 < (npr A S m k).oi l) := by
            rw [en, ← el, on1]
            exact (if_pos rfl).trans (by rw [decide_eq_true rfl, Bool.true_and])
          have es : (npr A S m (k + 1)).si l = m := by
            rw [en, ← el, on1]
            exact if_pos ⟨rfl, rfl⟩
          rw [(m6 l hl).1, g51]
          have o240 := (m1 l hl).2.2
          rcases Nat.eq_zero_or_pos ((npr A S m k).oi l) with w | w
          · rw [w]
            (first | refine ⟨fun _ => ?_, fun n_ => absurd (show nI 0 ≤ 0 by decide) n_⟩ | refine ⟨fun n_ => absurd (show nI 0 ≤ 0 by decide) n_, fun _ => ?_⟩ | refine ⟨fun y_ => absurd y_ (show nI 0 ≤ 0 by decide), fun _ => ?_⟩ | refine ⟨fun _ => ?_, fun y_ => absurd y_ (show nI 0 ≤ 0 by decide)⟩)
            refine ⟨vk, ih (k + 1) (tc + 1) g fr1 (by omega) (by omega) c dg ?_ (fun j hj u => ?_) ko⟩
            · rw [w] at eb
              refine cNS_off n1 hl ne (eb.trans rfl) (by rw [es]; exact hm) eo ei (fun _ => rfl) (fun _ => rfl) (fun i hi => ?_) rfl (fun i hi => ?_)
              · refine ⟨fun u => ⟨u, fun u2 => ?_⟩, fun u => u.1⟩
                subst u2
                have := ((m2 i hl).1 ((m3 i hi).mp u).2).1
                omega
              · refine ⟨fun u => ⟨u, fun u2 => ?_⟩, fun u => u.1⟩
                subst u2
                have := (m2 i hl).2 ((m4 i hi).mp u).2
                omega
            · obtain ⟨u1, u2⟩ := cv j hj u
              refine ⟨u1, fun b => ?_⟩
              by_cases jl : j = l
              · subst jl
                rw [eb, w] at b
                exact absurd b (by decide)
              · rw [(ne j jl).1] at b
                rw [(ne j jl).2.1]
                exact u2 b
          · (first | refine ⟨fun _ => ?_, fun n_ => absurd (show ¬ nI ((npr A S m k).oi l) ≤ 0 from nI_ge (b := (npr A S m k).oi l) w (by omega)) n_⟩ | refine ⟨fun n_ => absurd (show ¬ nI ((npr A S m k).oi l) ≤ 0 from nI_ge (b := (npr A S m k).oi l) w (by omega)) n_, fun _ => ?_⟩ | refine ⟨fun y_ => absurd y_ (show ¬ nI ((npr A S m k).oi l) ≤ 0 from nI_ge (b := (npr A S m k).oi l) w (by omega)), fun _ => ?_⟩ | refine ⟨fun _ => ?_, fun y_ => absurd y_ (show ¬ nI ((npr A S m k).oi l) ≤ 0 from nI_ge (b := (npr A S m k).oi l) w (by omega))⟩)
            refine c_kindle c.1 rfl (by omega) (fun u cw kw kj k5 k6 k14 k47 => ⟨rfl, cw.1, ?_⟩)
            rw [kw 51 (by decide) (by decide), g51, sh_n cw.1 51 24 (by decide) (by decide) rfl]
            have n2 : cNS N (npr A S m (k + 1)) (fun i => fr1 i || decide (i = l)) u := cNS_kin d0 n1 hl hm w ne (eb.trans (decide_eq_true w)) es eo ei (kw 46 (by decide) (by decide)) k5 k6 k14 k47
            refine ⟨vk, ih (k + 1) (tc + 1) u _ (by omega) (by omega) (ceN_t c cw) (cND_fr (fun a ha => kw a (by omega) (by omega)) (fun j hj => kj j (by omega) (by omega) (by omega)) dg) n2 (fun j hj v => ?_) (fun a n1 n2 n3 j => by rw [kw a n1 n3, ko a n1 n2 n3])⟩
            obtain ⟨v1, v2⟩ := Bool.or_eq_false_iff.mp v
            have v3 : j ≠ l := of_decide_eq_false v2
            rw [(ne j v3).1, (ne j v3).2.1]
            exact cv j hj v1
        · have on0 : ¬ A (92 + 3 * k) = 1 := by
            intro w
            rw [w] at y
            exact absurd y (by decide)
          have eb : (npr A S m (k + 1)).bu l = false := by
            rw [en, ← el]
            exact (if_pos rfl).trans (by rw [decide_eq_false on0, Bool.false_and])
          have es : (npr A S m (k + 1)).si l < 120 := by
            have e2 : (npr A S m (k + 1)).si l = (npr A S m k).si l := by rw [en, ← el]; exact if_neg (fun u => on0 u.2)
            rw [e2]
            exact (m1 l hl).1
          intro h18 q18
          have a18 : ah_i h18 43 14 = ah_i g 43 14 := by rw [q18, ah_i_sn (by omega)]
          rw [a18]
          rintro h21 rfl
          have k51 : ah_i (ah_si h18 43 14 (ah_i g 43 14 &&& (((1 : Int32) <<< (nI l &&& 31)) ^^^ (-1)))) 51 k = nO (fsw A m (k + 1)) := by rw [ah_i_sn (by omega), q18, ah_i_sn (by omega)]; exact g51
          have cc : ceN g (ah_si h18 43 14 (ah_i g 43 14 &&& (((1 : Int32) <<< (nI l &&& 31)) ^^^ (-1)))) := by rw [q18]; exact ceN_s (by omega) (ceN_s (by omega) (ceN_r c.1))
          rw [k51, sh_n cc.1 51 24 (by decide) (by decide) rfl]
          have kk : ∀ a, a ≠ 43 → ∀ j, ah_i (ah_si h18 43 14 (ah_i g 43 14 &&& (((1 : Int32) <<< (nI l &&& 31)) ^^^ (-1)))) a j = ah_i g a j := fun a n1 j => by rw [ah_i_sn (by omega), q18, ah_i_sn (by omega)]
          have bk : ∀ (v : Int32) (i : Nat), i < 32 → (bt (v &&& (((1 : Int32) <<< (nI l &&& 31)) ^^^ (-1))) i = true ↔ bt v i = true ∧ i ≠ l) := by
            intro v i hi
            rw [b_and, b_not _ hi, b_1sh (by omega) hi, Bool.and_eq_true, Bool.not_eq_true', decide_eq_false_iff_not]
          refine ⟨vk, ih (k + 1) (tc + 1) _ fr1 (by omega) (by omega) (ceN_t c cc) (cND_fr (fun a ha => kk a (by omega)) (fun j hj => by rw [ah_i_sn (by omega), q18, ah_i_sn (by omega)]) dg) ?_ (fun j hj u => ?_) (fun a n1 n2 n3 j => by rw [kk a n1, ko a n1 n2 n3])⟩
          · refine cNS_off n1 hl ne eb es eo ei (kk 46 (by decide)) (kk 47 (by decide)) (fun i hi => ?_) (by rw [ah_i_sn (by omega), q18, ah_i_sn (by omega)]) (fun i hi => ?_)
            · rw [ah_i_sn (by omega), q18, ah_i_ss]; exact bk _ i hi
            · rw [ah_i_ss]; exact bk _ i hi
          · obtain ⟨u1, u2⟩ := cv j hj u
            refine ⟨u1, fun b => ?_⟩
            by_cases jl : j = l
            · subst jl
              rw [eb] at b
              exact absurd b (by decide)
            · rw [(ne j jl).1] at b
              rw [(ne j jl).2.1]
              exact u2 b
      · have en : npr A S m (k + 1) = npr A S m k := if_neg z
        rw [fsw_no (by omega) z]
        refine ih (k + 1) tc g fr1 (by omega) (by omega) c dg ?_ ?_ ko
        · rw [en]; exact n1
        · rw [en]; exact cv
  refine T_X3_prepare hs _ ?_
  rw [nI_clamp (show m < 2 ^ 31 by omega), sh_n hs 50 120 (by decide) (by decide) rfl, d9.1 m hm]
  exact ⟨(vp_nI (by omega)).mpr hm, l9 (A 247) 0 0 h fr (by omega) (Nat.le_refl _) (ceN_r hs) d n (fun l hl y => ⟨y, fun u => ⟨u, rfl⟩⟩) (fun _ _ _ _ _ => rfl)⟩
end CQ
